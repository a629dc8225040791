theorem dX12_errorPosition_65 : decode cX12_errorPosition 65 = .ok (.iload_n 1, 1) := by decide +kernel
theorem dX12_errorPosition_66 : decode cX12_errorPosition 66 = .ok (.iaload, 1) := by decide +kernel
theorem dX12_errorPosition_67 : decode cX12_errorPosition 67 = .ok (.bipush (-9), 2) := by decide +kernel
theorem dX12_errorPosition_69 : decode cX12_errorPosition 69 = .ok (.if_icmp .ne 8, 3) := by decide +kernel
theorem dX12_errorPosition_72 : decode cX12_errorPosition 72 = .ok (.aload_n 0, 1) := by decide +kernel
theorem dX12_errorPosition_73 : decode cX12_errorPosition 73 = .ok (.getfield 155, 3) := by decide +kernel
theorem dX12_errorPosition_76 : decode cX12_errorPosition 76 = .ok (.ireturn, 1) := by decide +kernel
theorem dX12_errorPosition_77 : decode cX12_errorPosition 77 = .ok (.iinc 1 1, 3) := by decide +kernel
theorem dX12_errorPosition_80 : decode cX12_errorPosition 80 = .ok (.goto (-38), 3) := by decide +kernel
theorem dX12_errorPosition_83 : decode cX12_errorPosition 83 = .ok (.aload_n 0, 1) := by decide +kernel
theorem dX12_errorPosition_84 : decode cX12_errorPosition 84 = .ok (.getfield 155, 3) := by decide +kernel
theorem dX12_errorPosition_87 : decode cX12_errorPosition 87 = .ok (.aload_n 0, 1) := by decide +kernel
theorem dX12_errorPosition_88 : decode cX12_errorPosition 88 = .ok (.getfield 152, 3) := by decide +kernel
theorem dX12_errorPosition_91 : decode cX12_errorPosition 91 = .ok (.if_icmp .ge 15, 3) := by decide +kernel
theorem dX12_errorPosition_94 : decode cX12_errorPosition 94 = .ok (.aload_n 0, 1) := by decide +kernel
theorem dX12_errorPosition_95 : decode cX12_errorPosition 95 = .ok (.invokevirtual 180, 3) := by decide +kernel
theorem dX12_errorPosition_98 : decode cX12_errorPosition 98 = .ok (.ifCond .ne (-15), 3) := by decide +kernel
theorem dX12_errorPosition_101 : decode cX12_errorPosition 101 = .ok (.aload_n 0, 1) := by decide +kernel
theorem dX12_errorPosition_102 : decode cX12_errorPosition 102 = .ok (.getfield 155, 3) := by decide +kernel
theorem dX12_errorPosition_105 : decode cX12_errorPosition 105 = .ok (.ireturn, 1) := by decide +kernel
theorem dX12_errorPosition_106 : decode cX12_errorPosition 106 = .ok (.aload_n 0, 1) := by decide +kernel
theorem dX12_errorPosition_107 : decode cX12_errorPosition 107 = .ok (.getfield 158, 3) := by decide +kernel
theorem dX12_errorPosition_110 : decode cX12_errorPosition 110 = .ok (.ifCond .ne 10, 3) := by decide +kernel
theorem dX12_errorPosition_113 : decode cX12_errorPosition 113 = .ok (.aload_n 0, 1) := by decide +kernel
theorem dX12_errorPosition_114 : decode cX12_errorPosition 114 = .ok (.getfield 152, 3) := by decide +kernel
theorem dX12_errorPosition_117 : decode cX12_errorPosition 117 = .ok (.goto 5, 3) := by decide +kernel
theorem dX12_errorPosition_120 : decode cX12_errorPosition 120 = .ok (.bipush (-9), 2) := by decide +kernel
theorem dX12_errorPosition_122 : decode cX12_errorPosition 122 = .ok (.ireturn, 1) := by decide +kernel
theorem dX12_load_0 : decode cX12_load 0 = .ok (.aload_n 0, 1) := by decide +kernel
theorem dX12_load_1 : decode cX12_load 1 = .ok (.iconst 0, 1) := by decide +kernel
theorem dX12_load_2 : decode cX12_load 2 = .ok (.putfield 85, 3) := by decide +kernel
theorem dX12_load_5 : decode cX12_load 5 = .ok (.aload_n 0, 1) := by decide +kernel
theorem dX12_load_6 : decode cX12_load 6 = .ok (.invokevirtual 183, 3) := by decide +kernel
theorem dX12_load_9 : decode cX12_load 9 = .ok (.bipush (-9), 2) := by decide +kernel
theorem dX12_load_11 : decode cX12_load 11 = .ok (.if_icmp .eq 6, 3) := by decide +kernel
theorem dX12_load_14 : decode cX12_load 14 = .ok (.bipush (-3), 2) := by decide +kernel
theorem dX12_load_16 : decode cX12_load 16 = .ok (.ireturn, 1) := by decide +kernel
theorem dX12_load_17 : decode cX12_load 17 = .ok (.aload_n 0, 1) := by decide +kernel
theorem dX12_load_18 : decode cX12_load 18 = .ok (.aload_n 0, 1) := by decide +kernel
theorem dX12_load_19 : decode cX12_load 19 = .ok (.getfield 158, 3) := by decide +kernel
theorem dX12_load_22 : decode cX12_load 22 = .ok (.putfield 13, 3) := by decide +kernel
theorem dX12_load_25 : decode cX12_load 25 = .ok (.iconst 0, 1) := by decide +kernel
theorem dX12_load_26 : decode cX12_load 26 = .ok (.istore_n 1, 1) := by decide +kernel
theorem dX12_load_27 : decode cX12_load 27 = .ok (.iload_n 1, 1) := by decide +kernel
theorem dX12_load_28 : decode cX12_load 28 = .ok (.sipush 172, 3) := by decide +kernel
theorem dX12_load_31 : decode cX12_load 31 = .ok (.if_icmp .ge 31, 3) := by decide +kernel
theorem dX12_load_34 : decode cX12_load 34 = .ok (.aload_n 0, 1) := by decide +kernel
theorem dX12_load_35 : decode cX12_load 35 = .ok (.getfield 32, 3) := by decide +kernel
theorem dX12_load_38 : decode cX12_load 38 = .ok (.iload_n 1, 1) := by decide +kernel
theorem dX12_load_39 : decode cX12_load 39 = .ok (.iload_n 1, 1) := by decide +kernel
theorem dX12_load_40 : decode cX12_load 40 = .ok (.bipush 6, 2) := by decide +kernel
theorem dX12_load_42 : decode cX12_load 42 = .ok (.if_icmp .ge 12, 3) := by decide +kernel
theorem dX12_load_45 : decode cX12_load 45 = .ok (.aload_n 0, 1) := by decide +kernel
theorem dX12_load_46 : decode cX12_load 46 = .ok (.getfield 54, 3) := by decide +kernel
theorem dX12_load_49 : decode cX12_load 49 = .ok (.iload_n 1, 1) := by decide +kernel
theorem dX12_load_50 : decode cX12_load 50 = .ok (.iaload, 1) := by decide +kernel
theorem dX12_load_51 : decode cX12_load 51 = .ok (.goto 4, 3) := by decide +kernel
theorem dX12_load_54 : decode cX12_load 54 = .ok (.iconst 0, 1) := by decide +kernel
theorem dX12_load_55 : decode cX12_load 55 = .ok (.iastore, 1) := by decide +kernel
theorem dX12_load_56 : decode cX12_load 56 = .ok (.iinc 1 1, 3) := by decide +kernel
theorem dX12_load_59 : decode cX12_load 59 = .ok (.goto (-32), 3) := by decide +kernel
theorem dX12_load_62 : decode cX12_load 62 = .ok (.iconst 0, 1) := by decide +kernel
theorem dX12_load_63 : decode cX12_load 63 = .ok (.istore_n 1, 1) := by decide +kernel
theorem dX12_load_64 : decode cX12_load 64 = .ok (.iload_n 1, 1) := by decide +kernel
theorem dX12_load_65 : decode cX12_load 65 = .ok (.aload_n 0, 1) := by decide +kernel
theorem dX12_load_66 : decode cX12_load 66 = .ok (.getfield 13, 3) := by decide +kernel
theorem dX12_load_69 : decode cX12_load 69 = .ok (.if_icmp .ge 39, 3) := by decide +kernel
theorem dX12_load_72 : decode cX12_load 72 = .ok (.aload_n 0, 1) := by decide +kernel
theorem dX12_load_73 : decode cX12_load 73 = .ok (.getfield 17, 3) := by decide +kernel
theorem dX12_load_76 : decode cX12_load 76 = .ok (.iload_n 1, 1) := by decide +kernel
theorem dX12_load_77 : decode cX12_load 77 = .ok (.aload_n 0, 1) := by decide +kernel
theorem dX12_load_78 : decode cX12_load 78 = .ok (.getfield 60, 3) := by decide +kernel
theorem dX12_load_81 : decode cX12_load 81 = .ok (.iload_n 1, 1) := by decide +kernel
theorem dX12_load_82 : decode cX12_load 82 = .ok (.iaload, 1) := by decide +kernel
theorem dX12_load_83 : decode cX12_load 83 = .ok (.iastore, 1) := by decide +kernel
theorem dX12_load_84 : decode cX12_load 84 = .ok (.aload_n 0, 1) := by decide +kernel
theorem dX12_load_85 : decode cX12_load 85 = .ok (.getfield 32, 3) := by decide +kernel
theorem dX12_load_88 : decode cX12_load 88 = .ok (.iload_n 1, 1) := by decide +kernel
theorem dX12_load_89 : decode cX12_load 89 = .ok (.invokestatic 88, 3) := by decide +kernel
theorem dX12_load_92 : decode cX12_load 92 = .ok (.bipush 47, 2) := by decide +kernel
theorem dX12_load_94 : decode cX12_load 94 = .ok (.iadd, 1) := by decide +kernel
theorem dX12_load_95 : decode cX12_load 95 = .ok (.aload_n 0, 1) := by decide +kernel
theorem dX12_load_96 : decode cX12_load 96 = .ok (.getfield 57, 3) := by decide +kernel
theorem dX12_load_99 : decode cX12_load 99 = .ok (.iload_n 1, 1) := by decide +kernel
theorem dX12_load_100 : decode cX12_load 100 = .ok (.iaload, 1) := by decide +kernel
theorem dX12_load_101 : decode cX12_load 101 = .ok (.iastore, 1) := by decide +kernel
theorem dX12_load_102 : decode cX12_load 102 = .ok (.iinc 1 1, 3) := by decide +kernel
theorem dX12_load_105 : decode cX12_load 105 = .ok (.goto (-41), 3) := by decide +kernel
theorem dX12_load_108 : decode cX12_load 108 = .ok (.iconst 0, 1) := by decide +kernel
theorem dX12_load_109 : decode cX12_load 109 = .ok (.istore_n 1, 1) := by decide +kernel
theorem dX12_load_110 : decode cX12_load 110 = .ok (.iload_n 1, 1) := by decide +kernel
theorem dX12_load_111 : decode cX12_load 111 = .ok (.sipush 180, 3) := by decide +kernel
theorem dX12_load_114 : decode cX12_load 114 = .ok (.if_icmp .ge 57, 3) := by decide +kernel
theorem dX12_load_117 : decode cX12_load 117 = .ok (.aload_n 0, 1) := by decide +kernel
theorem dX12_load_118 : decode cX12_load 118 = .ok (.getfield 20, 3) := by decide +kernel
theorem dX12_load_121 : decode cX12_load 121 = .ok (.iload_n 1, 1) := by decide +kernel
theorem dX12_load_122 : decode cX12_load 122 = .ok (.aload_n 0, 1) := by decide +kernel
theorem dX12_load_123 : decode cX12_load 123 = .ok (.getfield 63, 3) := by decide +kernel
theorem dX12_load_126 : decode cX12_load 126 = .ok (.iload_n 1, 1) := by decide +kernel
theorem dX12_load_127 : decode cX12_load 127 = .ok (.iaload, 1) := by decide +kernel
theorem dX12_load_128 : decode cX12_load 128 = .ok (.iastore, 1) := by decide +kernel
theorem dX12_load_129 : decode cX12_load 129 = .ok (.aload_n 0, 1) := by decide +kernel
theorem dX12_load_130 : decode cX12_load 130 = .ok (.getfield 23, 3) := by decide +kernel
theorem dX12_load_133 : decode cX12_load 133 = .ok (.iload_n 1, 1) := by decide +kernel
theorem dX12_load_134 : decode cX12_load 134 = .ok (.aload_n 0, 1) := by decide +kernel
theorem dX12_load_135 : decode cX12_load 135 = .ok (.getfield 66, 3) := by decide +kernel
theorem dX12_load_138 : decode cX12_load 138 = .ok (.iload_n 1, 1) := by decide +kernel
theorem dX12_load_139 : decode cX12_load 139 = .ok (.iaload, 1) := by decide +kernel
theorem dX12_load_140 : decode cX12_load 140 = .ok (.iastore, 1) := by decide +kernel
theorem dX12_load_141 : decode cX12_load 141 = .ok (.aload_n 0, 1) := by decide +kernel
theorem dX12_load_142 : decode cX12_load 142 = .ok (.getfield 26, 3) := by decide +kernel
theorem dX12_load_145 : decode cX12_load 145 = .ok (.iload_n 1, 1) := by decide +kernel
theorem dX12_load_146 : decode cX12_load 146 = .ok (.aload_n 0, 1) := by decide +kernel
theorem dX12_load_147 : decode cX12_load 147 = .ok (.getfield 69, 3) := by decide +kernel
theorem dX12_load_150 : decode cX12_load 150 = .ok (.iload_n 1, 1) := by decide +kernel
theorem dX12_load_151 : decode cX12_load 151 = .ok (.iaload, 1) := by decide +kernel
theorem dX12_load_152 : decode cX12_load 152 = .ok (.iastore, 1) := by decide +kernel
theorem dX12_load_153 : decode cX12_load 153 = .ok (.aload_n 0, 1) := by decide +kernel
theorem dX12_load_154 : decode cX12_load 154 = .ok (.getfield 29, 3) := by decide +kernel
theorem dX12_load_157 : decode cX12_load 157 = .ok (.iload_n 1, 1) := by decide +kernel
theorem dX12_load_158 : decode cX12_load 158 = .ok (.aload_n 0, 1) := by decide +kernel
theorem dX12_load_159 : decode cX12_load 159 = .ok (.getfield 72, 3) := by decide +kernel
theorem dX12_load_162 : decode cX12_load 162 = .ok (.iload_n 1, 1) := by decide +kernel
theorem dX12_load_163 : decode cX12_load 163 = .ok (.iaload, 1) := by decide +kernel
theorem dX12_load_164 : decode cX12_load 164 = .ok (.iastore, 1) := by decide +kernel
theorem dX12_load_165 : decode cX12_load 165 = .ok (.iinc 1 1, 3) := by decide +kernel
theorem dX12_load_168 : decode cX12_load 168 = .ok (.goto (-58), 3) := by decide +kernel
theorem dX12_load_171 : decode cX12_load 171 = .ok (.aload_n 0, 1) := by decide +kernel
theorem dX12_load_172 : decode cX12_load 172 = .ok (.iconst 0, 1) := by decide +kernel
theorem dX12_load_173 : decode cX12_load 173 = .ok (.putfield 187, 3) := by decide +kernel
theorem dX12_load_176 : decode cX12_load 176 = .ok (.aload_n 0, 1) := by decide +kernel
theorem dX12_load_177 : decode cX12_load 177 = .ok (.getfield 44, 3) := by decide +kernel
theorem dX12_load_180 : decode cX12_load 180 = .ok (.iconst 0, 1) := by decide +kernel
theorem dX12_load_181 : decode cX12_load 181 = .ok (.iconst 0, 1) := by decide +kernel
theorem dX12_load_182 : decode cX12_load 182 = .ok (.bastore, 1) := by decide +kernel
theorem dX12_load_183 : decode cX12_load 183 = .ok (.aload_n 0, 1) := by decide +kernel
theorem dX12_load_184 : decode cX12_load 184 = .ok (.getfield 44, 3) := by decide +kernel
theorem dX12_load_187 : decode cX12_load 187 = .ok (.iconst 1, 1) := by decide +kernel
theorem dX12_load_188 : decode cX12_load 188 = .ok (.iconst 0, 1) := by decide +kernel
theorem dX12_load_189 : decode cX12_load 189 = .ok (.bastore, 1) := by decide +kernel
theorem dX12_load_190 : decode cX12_load 190 = .ok (.aload_n 0, 1) := by decide +kernel
theorem dX12_load_191 : decode cX12_load 191 = .ok (.getfield 13, 3) := by decide +kernel
theorem dX12_load_194 : decode cX12_load 194 = .ok (.ireturn, 1) := by decide +kernel
theorem dX12_noCell_0 : decode cX12_noCell 0 = .ok (.iload_n 0, 1) := by decide +kernel
theorem dX12_noCell_1 : decode cX12_noCell 1 = .ok (.i2l, 1) := by decide +kernel
theorem dX12_noCell_2 : decode cX12_noCell 2 = .ok (.lconst 0, 1) := by decide +kernel
theorem dX12_noCell_3 : decode cX12_noCell 3 = .ok (.ldc2_w 190, 3) := by decide +kernel
theorem dX12_noCell_6 : decode cX12_noCell 6 = .ok (.invokestatic 148, 3) := by decide +kernel
theorem dX12_noCell_9 : decode cX12_noCell 9 = .ok (.ifCond .ne 7, 3) := by decide +kernel
theorem dX12_noCell_12 : decode cX12_noCell 12 = .ok (.iconst 1, 1) := by decide +kernel
theorem dX12_noCell_13 : decode cX12_noCell 13 = .ok (.goto 4, 3) := by decide +kernel
theorem dX12_noCell_16 : decode cX12_noCell 16 = .ok (.iconst 0, 1) := by decide +kernel
theorem dX12_noCell_17 : decode cX12_noCell 17 = .ok (.ireturn, 1) := by decide +kernel
theorem dX12_noThread_0 : decode cX12_noThread 0 = .ok (.iload_n 1, 1) := by decide +kernel
theorem dX12_noThread_1 : decode cX12_noThread 1 = .ok (.i2l, 1) := by decide +kernel
theorem dX12_noThread_2 : decode cX12_noThread 2 = .ok (.lconst 0, 1) := by decide +kernel
theorem dX12_noThread_3 : decode cX12_noThread 3 = .ok (.aload_n 0, 1) := by decide +kernel
theorem dX12_noThread_4 : decode cX12_noThread 4 = .ok (.getfield 13, 3) := by decide +kernel
theorem dX12_noThread_7 : decode cX12_noThread 7 = .ok (.iconst 1, 1) := by decide +kernel
theorem dX12_noThread_8 : decode cX12_noThread 8 = .ok (.isub, 1) := by decide +kernel
theorem dX12_noThread_9 : decode cX12_noThread 9 = .ok (.i2l, 1) := by decide +kernel
theorem dX12_noThread_10 : decode cX12_noThread 10 = .ok (.invokestatic 148, 3) := by decide +kernel
theorem dX12_noThread_13 : decode cX12_noThread 13 = .ok (.ifCond .ne 7, 3) := by decide +kernel
theorem dX12_noThread_16 : decode cX12_noThread 16 = .ok (.iconst 1, 1) := by decide +kernel
theorem dX12_noThread_17 : decode cX12_noThread 17 = .ok (.goto 4, 3) := by decide +kernel
theorem dX12_noThread_20 : decode cX12_noThread 20 = .ok (.iconst 0, 1) := by decide +kernel
theorem dX12_noThread_21 : decode cX12_noThread 21 = .ok (.ireturn, 1) := by decide +kernel
theorem dX12_value_0 : decode cX12_value 0 = .ok (.aload_n 0, 1) := by decide +kernel
theorem dX12_value_1 : decode cX12_value 1 = .ok (.iconst 0, 1) := by decide +kernel
theorem dX12_value_2 : decode cX12_value 2 = .ok (.putfield 85, 3) := by decide +kernel
theorem dX12_value_5 : decode cX12_value 5 = .ok (.iload_n 1, 1) := by decide +kernel
theorem dX12_value_6 : decode cX12_value 6 = .ok (.invokestatic 192, 3) := by decide +kernel
theorem dX12_value_9 : decode cX12_value 9 = .ok (.ifCond .eq 7, 3) := by decide +kernel
theorem dX12_value_12 : decode cX12_value 12 = .ok (.iconst (-1), 1) := by decide +kernel
theorem dX12_value_13 : decode cX12_value 13 = .ok (.goto 12, 3) := by decide +kernel
theorem dX12_value_16 : decode cX12_value 16 = .ok (.aload_n 0, 1) := by decide +kernel
theorem dX12_value_17 : decode cX12_value 17 = .ok (.getfield 32, 3) := by decide +kernel
theorem dX12_value_20 : decode cX12_value 20 = .ok (.iload_n 1, 1) := by decide +kernel
theorem dX12_value_21 : decode cX12_value 21 = .ok (.iaload, 1) := by decide +kernel
theorem dX12_value_22 : decode cX12_value 22 = .ok (.bipush 100, 2) := by decide +kernel
theorem dX12_value_24 : decode cX12_value 24 = .ok (.iadd, 1) := by decide +kernel
theorem dX12_value_25 : decode cX12_value 25 = .ok (.ireturn, 1) := by decide +kernel
theorem dX12_version_0 : decode cX12_version 0 = .ok (.aload_n 0, 1) := by decide +kernel
theorem dX12_version_1 : decode cX12_version 1 = .ok (.iconst 0, 1) := by decide +kernel
theorem dX12_version_2 : decode cX12_version 2 = .ok (.putfield 85, 3) := by decide +kernel
theorem dX12_version_5 : decode cX12_version 5 = .ok (.iload_n 1, 1) := by decide +kernel
theorem dX12_version_6 : decode cX12_version 6 = .ok (.invokestatic 192, 3) := by decide +kernel
theorem dX12_version_9 : decode cX12_version 9 = .ok (.ifCond .eq 7, 3) := by decide +kernel
theorem dX12_version_12 : decode cX12_version 12 = .ok (.iconst (-1), 1) := by decide +kernel
theorem dX12_version_13 : decode cX12_version 13 = .ok (.goto 12, 3) := by decide +kernel
theorem dX12_version_16 : decode cX12_version 16 = .ok (.aload_n 0, 1) := by decide +kernel
theorem dX12_version_17 : decode cX12_version 17 = .ok (.getfield 32, 3) := by decide +kernel
theorem dX12_version_20 : decode cX12_version 20 = .ok (.bipush 6, 2) := by decide +kernel
theorem dX12_version_22 : decode cX12_version 22 = .ok (.iload_n 1, 1) := by decide +kernel
theorem dX12_version_23 : decode cX12_version 23 = .ok (.iadd, 1) := by decide +kernel
theorem dX12_version_24 : decode cX12_version 24 = .ok (.iaload, 1) := by decide +kernel
theorem dX12_version_25 : decode cX12_version 25 = .ok (.ireturn, 1) := by decide +kernel
theorem dX12_threadCount_0 : decode cX12_threadCount 0 = .ok (.aload_n 0, 1) := by decide +kernel
theorem dX12_threadCount_1 : decode cX12_threadCount 1 = .ok (.iconst 0, 1) := by decide +kernel
theorem dX12_threadCount_2 : decode cX12_threadCount 2 = .ok (.putfield 85, 3) := by decide +kernel
theorem dX12_threadCount_5 : decode cX12_threadCount 5 = .ok (.aload_n 0, 1) := by decide +kernel
theorem dX12_threadCount_6 : decode cX12_threadCount 6 = .ok (.getfield 13, 3) := by decide +kernel
theorem dX12_threadCount_9 : decode cX12_threadCount 9 = .ok (.ireturn, 1) := by decide +kernel
theorem dX12_state_0 : decode cX12_state 0 = .ok (.aload_n 0, 1) := by decide +kernel
theorem dX12_state_1 : decode cX12_state 1 = .ok (.iconst 0, 1) := by decide +kernel
theorem dX12_state_2 : decode cX12_state 2 = .ok (.putfield 85, 3) := by decide +kernel
theorem dX12_state_5 : decode cX12_state 5 = .ok (.aload_n 0, 1) := by decide +kernel
theorem dX12_state_6 : decode cX12_state 6 = .ok (.iload_n 1, 1) := by decide +kernel
theorem dX12_state_7 : decode cX12_state 7 = .ok (.invokevirtual 195, 3) := by decide +kernel
theorem dX12_state_10 : decode cX12_state 10 = .ok (.ifCond .eq 7, 3) := by decide +kernel
theorem dX12_state_13 : decode cX12_state 13 = .ok (.iconst (-1), 1) := by decide +kernel
theorem dX12_state_14 : decode cX12_state 14 = .ok (.goto 14, 3) := by decide +kernel
theorem dX12_state_17 : decode cX12_state 17 = .ok (.aload_n 0, 1) := by decide +kernel
theorem dX12_state_18 : decode cX12_state 18 = .ok (.getfield 32, 3) := by decide +kernel
theorem dX12_state_21 : decode cX12_state 21 = .ok (.iload_n 1, 1) := by decide +kernel
theorem dX12_state_22 : decode cX12_state 22 = .ok (.invokestatic 88, 3) := by decide +kernel
theorem dX12_state_25 : decode cX12_state 25 = .ok (.iconst 0, 1) := by decide +kernel
theorem dX12_state_26 : decode cX12_state 26 = .ok (.iadd, 1) := by decide +kernel
theorem dX12_state_27 : decode cX12_state 27 = .ok (.iaload, 1) := by decide +kernel
theorem dX12_state_28 : decode cX12_state 28 = .ok (.ireturn, 1) := by decide +kernel
theorem dX12_position_0 : decode cX12_position 0 = .ok (.aload_n 0, 1) := by decide +kernel
theorem dX12_position_1 : decode cX12_position 1 = .ok (.iconst 0, 1) := by decide +kernel
theorem dX12_position_2 : decode cX12_position 2 = .ok (.putfield 85, 3) := by decide +kernel
theorem dX12_position_5 : decode cX12_position 5 = .ok (.aload_n 0, 1) := by decide +kernel
theorem dX12_position_6 : decode cX12_position 6 = .ok (.iload_n 1, 1) := by decide +kernel
theorem dX12_position_7 : decode cX12_position 7 = .ok (.invokevirtual 195, 3) := by decide +kernel
theorem dX12_position_10 : decode cX12_position 10 = .ok (.ifCond .eq 7, 3) := by decide +kernel
theorem dX12_position_13 : decode cX12_position 13 = .ok (.iconst (-1), 1) := by decide +kernel
theorem dX12_position_14 : decode cX12_position 14 = .ok (.goto 14, 3) := by decide +kernel
theorem dX12_position_17 : decode cX12_position 17 = .ok (.aload_n 0, 1) := by decide +kernel
theorem dX12_position_18 : decode cX12_position 18 = .ok (.getfield 32, 3) := by decide +kernel
theorem dX12_position_21 : decode cX12_position 21 = .ok (.iload_n 1, 1) := by decide +kernel
theorem dX12_position_22 : decode cX12_position 22 = .ok (.invokestatic 88, 3) := by decide +kernel
theorem dX12_position_25 : decode cX12_position 25 = .ok (.iconst 1, 1) := by decide +kernel
theorem dX12_position_26 : decode cX12_position 26 = .ok (.iadd, 1) := by decide +kernel
theorem dX12_position_27 : decode cX12_position 27 = .ok (.iaload, 1) := by decide +kernel
theorem dX12_position_28 : decode cX12_position 28 = .ok (.ireturn, 1) := by decide +kernel
theorem dX12_accumulator_0 : decode cX12_accumulator 0 = .ok (.aload_n 0, 1) := by decide +kernel
theorem dX12_accumulator_1 : decode cX12_accumulator 1 = .ok (.iconst 0, 1) := by decide +kernel
theorem dX12_accumulator_2 : decode cX12_accumulator 2 = .ok (.putfield 85, 3) := by decide +kernel
theorem dX12_accumulator_5 : decode cX12_accumulator 5 = .ok (.aload_n 0, 1) := by decide +kernel
theorem dX12_accumulator_6 : decode cX12_accumulator 6 = .ok (.iload_n 1, 1) := by decide +kernel
theorem dX12_accumulator_7 : decode cX12_accumulator 7 = .ok (.invokevirtual 195, 3) := by decide +kernel
theorem dX12_accumulator_10 : decode cX12_accumulator 10 = .ok (.ifCond .eq 7, 3) := by decide +kernel
theorem dX12_accumulator_13 : decode cX12_accumulator 13 = .ok (.iconst (-1), 1) := by decide +kernel
theorem dX12_accumulator_14 : decode cX12_accumulator 14 = .ok (.goto 17, 3) := by decide +kernel
theorem dX12_accumulator_17 : decode cX12_accumulator 17 = .ok (.aload_n 0, 1) := by decide +kernel
theorem dX12_accumulator_18 : decode cX12_accumulator 18 = .ok (.getfield 32, 3) := by decide +kernel
theorem dX12_accumulator_21 : decode cX12_accumulator 21 = .ok (.iload_n 1, 1) := by decide +kernel
theorem dX12_accumulator_22 : decode cX12_accumulator 22 = .ok (.invokestatic 88, 3) := by decide +kernel
theorem dX12_accumulator_25 : decode cX12_accumulator 25 = .ok (.iconst 2, 1) := by decide +kernel
theorem dX12_accumulator_26 : decode cX12_accumulator 26 = .ok (.iadd, 1) := by decide +kernel
theorem dX12_accumulator_27 : decode cX12_accumulator 27 = .ok (.iaload, 1) := by decide +kernel
theorem dX12_accumulator_28 : decode cX12_accumulator 28 = .ok (.bipush 100, 2) := by decide +kernel
theorem dX12_accumulator_30 : decode cX12_accumulator 30 = .ok (.iadd, 1) := by decide +kernel
theorem dX12_accumulator_31 : decode cX12_accumulator 31 = .ok (.ireturn, 1) := by decide +kernel
theorem dX12_seenValue_0 : decode cX12_seenValue 0 = .ok (.aload_n 0, 1) := by decide +kernel
theorem dX12_seenValue_1 : decode cX12_seenValue 1 = .ok (.iconst 0, 1) := by decide +kernel
theorem dX12_seenValue_2 : decode cX12_seenValue 2 = .ok (.putfield 85, 3) := by decide +kernel
theorem dX12_seenValue_5 : decode cX12_seenValue 5 = .ok (.aload_n 0, 1) := by decide +kernel
theorem dX12_seenValue_6 : decode cX12_seenValue 6 = .ok (.iload_n 1, 1) := by decide +kernel
theorem dX12_seenValue_7 : decode cX12_seenValue 7 = .ok (.invokevirtual 195, 3) := by decide +kernel
theorem dX12_seenValue_10 : decode cX12_seenValue 10 = .ok (.ifCond .ne 10, 3) := by decide +kernel
theorem dX12_seenValue_13 : decode cX12_seenValue 13 = .ok (.iload_n 2, 1) := by decide +kernel
theorem dX12_seenValue_14 : decode cX12_seenValue 14 = .ok (.invokestatic 192, 3) := by decide +kernel
theorem dX12_seenValue_17 : decode cX12_seenValue 17 = .ok (.ifCond .eq 7, 3) := by decide +kernel
theorem dX12_seenValue_20 : decode cX12_seenValue 20 = .ok (.iconst (-1), 1) := by decide +kernel
theorem dX12_seenValue_21 : decode cX12_seenValue 21 = .ok (.goto 15, 3) := by decide +kernel
theorem dX12_seenValue_24 : decode cX12_seenValue 24 = .ok (.aload_n 0, 1) := by decide +kernel
theorem dX12_seenValue_25 : decode cX12_seenValue 25 = .ok (.getfield 32, 3) := by decide +kernel
theorem dX12_seenValue_28 : decode cX12_seenValue 28 = .ok (.iload_n 1, 1) := by decide +kernel
theorem dX12_seenValue_29 : decode cX12_seenValue 29 = .ok (.iload_n 2, 1) := by decide +kernel
theorem dX12_seenValue_30 : decode cX12_seenValue 30 = .ok (.invokestatic 112, 3) := by decide +kernel
theorem dX12_seenValue_33 : decode cX12_seenValue 33 = .ok (.bipush 100, 2) := by decide +kernel
theorem dX12_seenValue_35 : decode cX12_seenValue 35 = .ok (.iadd, 1) := by decide +kernel
theorem dX12_seenValue_36 : decode cX12_seenValue 36 = .ok (.ireturn, 1) := by decide +kernel
theorem dX12_readSet_0 : decode cX12_readSet 0 = .ok (.aload_n 0, 1) := by decide +kernel
theorem dX12_readSet_1 : decode cX12_readSet 1 = .ok (.iconst 0, 1) := by decide +kernel
theorem dX12_readSet_2 : decode cX12_readSet 2 = .ok (.putfield 85, 3) := by decide +kernel
theorem dX12_readSet_5 : decode cX12_readSet 5 = .ok (.aload_n 0, 1) := by decide +kernel
theorem dX12_readSet_6 : decode cX12_readSet 6 = .ok (.iload_n 1, 1) := by decide +kernel
theorem dX12_readSet_7 : decode cX12_readSet 7 = .ok (.invokevirtual 195, 3) := by decide +kernel
theorem dX12_readSet_10 : decode cX12_readSet 10 = .ok (.ifCond .eq 5, 3) := by decide +kernel
theorem dX12_readSet_13 : decode cX12_readSet 13 = .ok (.iconst (-1), 1) := by decide +kernel
theorem dX12_readSet_14 : decode cX12_readSet 14 = .ok (.ireturn, 1) := by decide +kernel
theorem dX12_readSet_15 : decode cX12_readSet 15 = .ok (.iconst 0, 1) := by decide +kernel
theorem dX12_readSet_16 : decode cX12_readSet 16 = .ok (.istore_n 2, 1) := by decide +kernel
theorem dX12_readSet_17 : decode cX12_readSet 17 = .ok (.iconst 0, 1) := by decide +kernel
theorem dX12_readSet_18 : decode cX12_readSet 18 = .ok (.istore_n 3, 1) := by decide +kernel
theorem dX12_readSet_19 : decode cX12_readSet 19 = .ok (.iload_n 3, 1) := by decide +kernel
theorem dX12_readSet_20 : decode cX12_readSet 20 = .ok (.bipush 6, 2) := by decide +kernel
theorem dX12_readSet_22 : decode cX12_readSet 22 = .ok (.if_icmp .ge 35, 3) := by decide +kernel
theorem dX12_readSet_25 : decode cX12_readSet 25 = .ok (.iload_n 2, 1) := by decide +kernel
theorem dX12_readSet_26 : decode cX12_readSet 26 = .ok (.aload_n 0, 1) := by decide +kernel
theorem dX12_readSet_27 : decode cX12_readSet 27 = .ok (.getfield 32, 3) := by decide +kernel
theorem dX12_readSet_30 : decode cX12_readSet 30 = .ok (.iload_n 1, 1) := by decide +kernel
theorem dX12_readSet_31 : decode cX12_readSet 31 = .ok (.invokestatic 88, 3) := by decide +kernel
theorem dX12_readSet_34 : decode cX12_readSet 34 = .ok (.iconst 3, 1) := by decide +kernel
theorem dX12_readSet_35 : decode cX12_readSet 35 = .ok (.iadd, 1) := by decide +kernel
theorem dX12_readSet_36 : decode cX12_readSet 36 = .ok (.iload_n 3, 1) := by decide +kernel
theorem dX12_readSet_37 : decode cX12_readSet 37 = .ok (.iadd, 1) := by decide +kernel
theorem dX12_readSet_38 : decode cX12_readSet 38 = .ok (.iaload, 1) := by decide +kernel
theorem dX12_readSet_39 : decode cX12_readSet 39 = .ok (.ifCond .le 9, 3) := by decide +kernel
theorem dX12_readSet_42 : decode cX12_readSet 42 = .ok (.iconst 1, 1) := by decide +kernel
theorem dX12_readSet_43 : decode cX12_readSet 43 = .ok (.iload_n 3, 1) := by decide +kernel
theorem dX12_readSet_44 : decode cX12_readSet 44 = .ok (.ishl, 1) := by decide +kernel
theorem dX12_readSet_45 : decode cX12_readSet 45 = .ok (.goto 4, 3) := by decide +kernel
theorem dX12_readSet_48 : decode cX12_readSet 48 = .ok (.iconst 0, 1) := by decide +kernel
theorem dX12_readSet_49 : decode cX12_readSet 49 = .ok (.ior, 1) := by decide +kernel
theorem dX12_readSet_50 : decode cX12_readSet 50 = .ok (.istore_n 2, 1) := by decide +kernel
theorem dX12_readSet_51 : decode cX12_readSet 51 = .ok (.iinc 3 1, 3) := by decide +kernel
theorem dX12_readSet_54 : decode cX12_readSet 54 = .ok (.goto (-35), 3) := by decide +kernel
theorem dX12_readSet_57 : decode cX12_readSet 57 = .ok (.iload_n 2, 1) := by decide +kernel
theorem dX12_readSet_58 : decode cX12_readSet 58 = .ok (.ireturn, 1) := by decide +kernel
theorem dX12_writeSet_0 : decode cX12_writeSet 0 = .ok (.aload_n 0, 1) := by decide +kernel
theorem dX12_writeSet_1 : decode cX12_writeSet 1 = .ok (.iconst 0, 1) := by decide +kernel
theorem dX12_writeSet_2 : decode cX12_writeSet 2 = .ok (.putfield 85, 3) := by decide +kernel
theorem dX12_writeSet_5 : decode cX12_writeSet 5 = .ok (.aload_n 0, 1) := by decide +kernel
theorem dX12_writeSet_6 : decode cX12_writeSet 6 = .ok (.iload_n 1, 1) := by decide +kernel
theorem dX12_writeSet_7 : decode cX12_writeSet 7 = .ok (.invokevirtual 195, 3) := by decide +kernel
theorem dX12_writeSet_10 : decode cX12_writeSet 10 = .ok (.ifCond .eq 7, 3) := by decide +kernel
theorem dX12_writeSet_13 : decode cX12_writeSet 13 = .ok (.iconst (-1), 1) := by decide +kernel
theorem dX12_writeSet_14 : decode cX12_writeSet 14 = .ok (.goto 15, 3) := by decide +kernel
theorem dX12_writeSet_17 : decode cX12_writeSet 17 = .ok (.aload_n 0, 1) := by decide +kernel
theorem dX12_writeSet_18 : decode cX12_writeSet 18 = .ok (.getfield 32, 3) := by decide +kernel
theorem dX12_writeSet_21 : decode cX12_writeSet 21 = .ok (.iload_n 1, 1) := by decide +kernel
theorem dX12_writeSet_22 : decode cX12_writeSet 22 = .ok (.invokestatic 88, 3) := by decide +kernel
theorem dX12_writeSet_25 : decode cX12_writeSet 25 = .ok (.bipush 9, 2) := by decide +kernel
theorem dX12_writeSet_27 : decode cX12_writeSet 27 = .ok (.iadd, 1) := by decide +kernel
theorem dX12_writeSet_28 : decode cX12_writeSet 28 = .ok (.iaload, 1) := by decide +kernel
theorem dX12_writeSet_29 : decode cX12_writeSet 29 = .ok (.ireturn, 1) := by decide +kernel
theorem dX12_openBlocks_0 : decode cX12_openBlocks 0 = .ok (.aload_n 0, 1) := by decide +kernel
theorem dX12_openBlocks_1 : decode cX12_openBlocks 1 = .ok (.iconst 0, 1) := by decide +kernel
theorem dX12_openBlocks_2 : decode cX12_openBlocks 2 = .ok (.putfield 85, 3) := by decide +kernel
theorem dX12_openBlocks_5 : decode cX12_openBlocks 5 = .ok (.aload_n 0, 1) := by decide +kernel
theorem dX12_openBlocks_6 : decode cX12_openBlocks 6 = .ok (.iload_n 1, 1) := by decide +kernel
theorem dX12_openBlocks_7 : decode cX12_openBlocks 7 = .ok (.invokevirtual 195, 3) := by decide +kernel
theorem dX12_openBlocks_10 : decode cX12_openBlocks 10 = .ok (.ifCond .eq 7, 3) := by decide +kernel
theorem dX12_openBlocks_13 : decode cX12_openBlocks 13 = .ok (.iconst (-1), 1) := by decide +kernel
theorem dX12_openBlocks_14 : decode cX12_openBlocks 14 = .ok (.goto 15, 3) := by decide +kernel
theorem dX12_openBlocks_17 : decode cX12_openBlocks 17 = .ok (.aload_n 0, 1) := by decide +kernel
theorem dX12_openBlocks_18 : decode cX12_openBlocks 18 = .ok (.getfield 32, 3) := by decide +kernel
theorem dX12_openBlocks_21 : decode cX12_openBlocks 21 = .ok (.iload_n 1, 1) := by decide +kernel
theorem dX12_openBlocks_22 : decode cX12_openBlocks 22 = .ok (.invokestatic 88, 3) := by decide +kernel
theorem dX12_openBlocks_25 : decode cX12_openBlocks 25 = .ok (.bipush 16, 2) := by decide +kernel
theorem dX12_openBlocks_27 : decode cX12_openBlocks 27 = .ok (.iadd, 1) := by decide +kernel
theorem dX12_openBlocks_28 : decode cX12_openBlocks 28 = .ok (.iaload, 1) := by decide +kernel
theorem dX12_openBlocks_29 : decode cX12_openBlocks 29 = .ok (.ireturn, 1) := by decide +kernel
theorem dX12_runsLeft_0 : decode cX12_runsLeft 0 = .ok (.aload_n 0, 1) := by decide +kernel
theorem dX12_runsLeft_1 : decode cX12_runsLeft 1 = .ok (.iconst 0, 1) := by decide +kernel
theorem dX12_runsLeft_2 : decode cX12_runsLeft 2 = .ok (.putfield 85, 3) := by decide +kernel
theorem dX12_runsLeft_5 : decode cX12_runsLeft 5 = .ok (.aload_n 0, 1) := by decide +kernel
theorem dX12_runsLeft_6 : decode cX12_runsLeft 6 = .ok (.iload_n 1, 1) := by decide +kernel
theorem dX12_runsLeft_7 : decode cX12_runsLeft 7 = .ok (.invokevirtual 195, 3) := by decide +kernel
theorem dX12_runsLeft_10 : decode cX12_runsLeft 10 = .ok (.ifCond .eq 7, 3) := by decide +kernel
theorem dX12_runsLeft_13 : decode cX12_runsLeft 13 = .ok (.iconst (-1), 1) := by decide +kernel
theorem dX12_runsLeft_14 : decode cX12_runsLeft 14 = .ok (.goto 15, 3) := by decide +kernel
theorem dX12_runsLeft_17 : decode cX12_runsLeft 17 = .ok (.aload_n 0, 1) := by decide +kernel
theorem dX12_runsLeft_18 : decode cX12_runsLeft 18 = .ok (.getfield 32, 3) := by decide +kernel
theorem dX12_runsLeft_21 : decode cX12_runsLeft 21 = .ok (.iload_n 1, 1) := by decide +kernel
theorem dX12_runsLeft_22 : decode cX12_runsLeft 22 = .ok (.invokestatic 88, 3) := by decide +kernel
theorem dX12_runsLeft_25 : decode cX12_runsLeft 25 = .ok (.bipush 47, 2) := by decide +kernel
theorem dX12_runsLeft_27 : decode cX12_runsLeft 27 = .ok (.iadd, 1) := by decide +kernel
theorem dX12_runsLeft_28 : decode cX12_runsLeft 28 = .ok (.iaload, 1) := by decide +kernel
theorem dX12_runsLeft_29 : decode cX12_runsLeft 29 = .ok (.ireturn, 1) := by decide +kernel
theorem dX12_restarts_0 : decode cX12_restarts 0 = .ok (.aload_n 0, 1) := by decide +kernel
theorem dX12_restarts_1 : decode cX12_restarts 1 = .ok (.iconst 0, 1) := by decide +kernel
theorem dX12_restarts_2 : decode cX12_restarts 2 = .ok (.putfield 85, 3) := by decide +kernel
theorem dX12_restarts_5 : decode cX12_restarts 5 = .ok (.aload_n 0, 1) := by decide +kernel
theorem dX12_restarts_6 : decode cX12_restarts 6 = .ok (.iload_n 1, 1) := by decide +kernel
theorem dX12_restarts_7 : decode cX12_restarts 7 = .ok (.invokevirtual 195, 3) := by decide +kernel
theorem dX12_restarts_10 : decode cX12_restarts 10 = .ok (.ifCond .eq 7, 3) := by decide +kernel
theorem dX12_restarts_13 : decode cX12_restarts 13 = .ok (.iconst (-1), 1) := by decide +kernel
theorem dX12_restarts_14 : decode cX12_restarts 14 = .ok (.goto 15, 3) := by decide +kernel
theorem dX12_restarts_17 : decode cX12_restarts 17 = .ok (.aload_n 0, 1) := by decide +kernel
theorem dX12_restarts_18 : decode cX12_restarts 18 = .ok (.getfield 32, 3) := by decide +kernel
theorem dX12_restarts_21 : decode cX12_restarts 21 = .ok (.iload_n 1, 1) := by decide +kernel
theorem dX12_restarts_22 : decode cX12_restarts 22 = .ok (.invokestatic 88, 3) := by decide +kernel
theorem dX12_restarts_25 : decode cX12_restarts 25 = .ok (.bipush 48, 2) := by decide +kernel
theorem dX12_restarts_27 : decode cX12_restarts 27 = .ok (.iadd, 1) := by decide +kernel
theorem dX12_restarts_28 : decode cX12_restarts 28 = .ok (.iaload, 1) := by decide +kernel
theorem dX12_restarts_29 : decode cX12_restarts 29 = .ok (.ireturn, 1) := by decide +kernel
theorem dX12_remember_0 : decode cX12_remember 0 = .ok (.aload_n 0, 1) := by decide +kernel
theorem dX12_remember_1 : decode cX12_remember 1 = .ok (.getfield 187, 3) := by decide +kernel
theorem dX12_remember_4 : decode cX12_remember 4 = .ok (.bipush 14, 2) := by decide +kernel
theorem dX12_remember_6 : decode cX12_remember 6 = .ok (.if_icmp .ne 44, 3) := by decide +kernel
theorem dX12_remember_9 : decode cX12_remember 9 = .ok (.iconst 0, 1) := by decide +kernel
theorem dX12_remember_10 : decode cX12_remember 10 = .ok (.istore_n 1, 1) := by decide +kernel
theorem dX12_remember_11 : decode cX12_remember 11 = .ok (.iload_n 1, 1) := by decide +kernel
theorem dX12_remember_12 : decode cX12_remember 12 = .ok (.sipush 2236, 3) := by decide +kernel
theorem dX12_remember_15 : decode cX12_remember 15 = .ok (.if_icmp .ge 25, 3) := by decide +kernel
theorem dX12_remember_18 : decode cX12_remember 18 = .ok (.aload_n 0, 1) := by decide +kernel
theorem dX12_remember_19 : decode cX12_remember 19 = .ok (.getfield 38, 3) := by decide +kernel
theorem dX12_remember_22 : decode cX12_remember 22 = .ok (.iload_n 1, 1) := by decide +kernel
theorem dX12_remember_23 : decode cX12_remember 23 = .ok (.aload_n 0, 1) := by decide +kernel
theorem dX12_remember_24 : decode cX12_remember 24 = .ok (.getfield 38, 3) := by decide +kernel
theorem dX12_remember_27 : decode cX12_remember 27 = .ok (.iload_n 1, 1) := by decide +kernel
theorem dX12_remember_28 : decode cX12_remember 28 = .ok (.sipush 172, 3) := by decide +kernel
theorem dX12_remember_31 : decode cX12_remember 31 = .ok (.iadd, 1) := by decide +kernel
theorem dX12_remember_32 : decode cX12_remember 32 = .ok (.iaload, 1) := by decide +kernel
theorem dX12_remember_33 : decode cX12_remember 33 = .ok (.iastore, 1) := by decide +kernel
theorem dX12_remember_34 : decode cX12_remember 34 = .ok (.iinc 1 1, 3) := by decide +kernel
theorem dX12_remember_37 : decode cX12_remember 37 = .ok (.goto (-26), 3) := by decide +kernel
theorem dX12_remember_40 : decode cX12_remember 40 = .ok (.aload_n 0, 1) := by decide +kernel
theorem dX12_remember_41 : decode cX12_remember 41 = .ok (.dup, 1) := by decide +kernel
theorem dX12_remember_42 : decode cX12_remember 42 = .ok (.getfield 187, 3) := by decide +kernel
theorem dX12_remember_45 : decode cX12_remember 45 = .ok (.iconst 1, 1) := by decide +kernel
theorem dX12_remember_46 : decode cX12_remember 46 = .ok (.isub, 1) := by decide +kernel
theorem dX12_remember_47 : decode cX12_remember 47 = .ok (.putfield 187, 3) := by decide +kernel
theorem dX12_remember_50 : decode cX12_remember 50 = .ok (.iconst 0, 1) := by decide +kernel
theorem dX12_remember_51 : decode cX12_remember 51 = .ok (.istore_n 1, 1) := by decide +kernel
theorem dX12_remember_52 : decode cX12_remember 52 = .ok (.iload_n 1, 1) := by decide +kernel
theorem dX12_remember_53 : decode cX12_remember 53 = .ok (.sipush 172, 3) := by decide +kernel
theorem dX12_remember_56 : decode cX12_remember 56 = .ok (.if_icmp .ge 30, 3) := by decide +kernel
theorem dX12_remember_59 : decode cX12_remember 59 = .ok (.aload_n 0, 1) := by decide +kernel
theorem dX12_remember_60 : decode cX12_remember 60 = .ok (.getfield 38, 3) := by decide +kernel
theorem dX12_remember_63 : decode cX12_remember 63 = .ok (.sipush 172, 3) := by decide +kernel
theorem dX12_remember_66 : decode cX12_remember 66 = .ok (.aload_n 0, 1) := by decide +kernel
theorem dX12_remember_67 : decode cX12_remember 67 = .ok (.getfield 187, 3) := by decide +kernel
theorem dX12_remember_70 : decode cX12_remember 70 = .ok (.imul, 1) := by decide +kernel
theorem dX12_remember_71 : decode cX12_remember 71 = .ok (.iload_n 1, 1) := by decide +kernel
theorem dX12_remember_72 : decode cX12_remember 72 = .ok (.iadd, 1) := by decide +kernel
theorem dX12_remember_73 : decode cX12_remember 73 = .ok (.aload_n 0, 1) := by decide +kernel
theorem dX12_remember_74 : decode cX12_remember 74 = .ok (.getfield 32, 3) := by decide +kernel
theorem dX12_remember_77 : decode cX12_remember 77 = .ok (.iload_n 1, 1) := by decide +kernel
theorem dX12_remember_78 : decode cX12_remember 78 = .ok (.iaload, 1) := by decide +kernel
theorem dX12_remember_79 : decode cX12_remember 79 = .ok (.iastore, 1) := by decide +kernel
theorem dX12_remember_80 : decode cX12_remember 80 = .ok (.iinc 1 1, 3) := by decide +kernel
theorem dX12_remember_83 : decode cX12_remember 83 = .ok (.goto (-31), 3) := by decide +kernel
theorem dX12_remember_86 : decode cX12_remember 86 = .ok (.aload_n 0, 1) := by decide +kernel
theorem dX12_remember_87 : decode cX12_remember 87 = .ok (.dup, 1) := by decide +kernel
theorem dX12_remember_88 : decode cX12_remember 88 = .ok (.getfield 187, 3) := by decide +kernel
theorem dX12_remember_91 : decode cX12_remember 91 = .ok (.iconst 1, 1) := by decide +kernel
theorem dX12_remember_92 : decode cX12_remember 92 = .ok (.iadd, 1) := by decide +kernel
theorem dX12_remember_93 : decode cX12_remember 93 = .ok (.putfield 187, 3) := by decide +kernel
theorem dX12_remember_96 : decode cX12_remember 96 = .ok (.return_, 1) := by decide +kernel
theorem dX12_step_0 : decode cX12_step 0 = .ok (.aload_n 0, 1) := by decide +kernel
theorem dX12_step_1 : decode cX12_step 1 = .ok (.iconst 0, 1) := by decide +kernel
theorem dX12_step_2 : decode cX12_step 2 = .ok (.putfield 85, 3) := by decide +kernel
theorem dX12_step_5 : decode cX12_step 5 = .ok (.aload_n 0, 1) := by decide +kernel
theorem dX12_step_6 : decode cX12_step 6 = .ok (.iload_n 1, 1) := by decide +kernel
theorem dX12_step_7 : decode cX12_step 7 = .ok (.invokevirtual 195, 3) := by decide +kernel
theorem dX12_step_10 : decode cX12_step 10 = .ok (.ifCond .eq 5, 3) := by decide +kernel
theorem dX12_step_13 : decode cX12_step 13 = .ok (.iconst (-1), 1) := by decide +kernel
theorem dX12_step_14 : decode cX12_step 14 = .ok (.ireturn, 1) := by decide +kernel
theorem dX12_step_15 : decode cX12_step 15 = .ok (.aload_n 0, 1) := by decide +kernel
theorem dX12_step_16 : decode cX12_step 16 = .ok (.getfield 32, 3) := by decide +kernel
theorem dX12_step_19 : decode cX12_step 19 = .ok (.iload_n 1, 1) := by decide +kernel
theorem dX12_step_20 : decode cX12_step 20 = .ok (.invokestatic 88, 3) := by decide +kernel
theorem dX12_step_23 : decode cX12_step 23 = .ok (.iconst 0, 1) := by decide +kernel
theorem dX12_step_24 : decode cX12_step 24 = .ok (.iadd, 1) := by decide +kernel
theorem dX12_step_25 : decode cX12_step 25 = .ok (.iaload, 1) := by decide +kernel
theorem dX12_step_26 : decode cX12_step 26 = .ok (.ifCond .eq 6, 3) := by decide +kernel
theorem dX12_step_29 : decode cX12_step 29 = .ok (.bipush (-3), 2) := by decide +kernel
theorem dX12_step_31 : decode cX12_step 31 = .ok (.ireturn, 1) := by decide +kernel
theorem dX12_step_32 : decode cX12_step 32 = .ok (.aload_n 0, 1) := by decide +kernel
theorem dX12_step_33 : decode cX12_step 33 = .ok (.invokevirtual 198, 3) := by decide +kernel
theorem dX12_step_36 : decode cX12_step 36 = .ok (.aload_n 0, 1) := by decide +kernel
theorem dX12_step_37 : decode cX12_step 37 = .ok (.aload_n 0, 1) := by decide +kernel
theorem dX12_step_38 : decode cX12_step 38 = .ok (.getfield 32, 3) := by decide +kernel
theorem dX12_step_41 : decode cX12_step 41 = .ok (.iload_n 1, 1) := by decide +kernel
theorem dX12_step_42 : decode cX12_step 42 = .ok (.invokevirtual 201, 3) := by decide +kernel
theorem dX12_step_45 : decode cX12_step 45 = .ok (.ireturn, 1) := by decide +kernel
theorem dX12_run_0 : decode cX12_run 0 = .ok (.aload_n 0, 1) := by decide +kernel
theorem dX12_run_1 : decode cX12_run 1 = .ok (.iconst 0, 1) := by decide +kernel
theorem dX12_run_2 : decode cX12_run 2 = .ok (.putfield 85, 3) := by decide +kernel
theorem dX12_run_5 : decode cX12_run 5 = .ok (.aload_n 0, 1) := by decide +kernel
theorem dX12_run_6 : decode cX12_run 6 = .ok (.iload_n 1, 1) := by decide +kernel
theorem dX12_run_7 : decode cX12_run 7 = .ok (.invokevirtual 195, 3) := by decide +kernel
theorem dX12_run_10 : decode cX12_run 10 = .ok (.ifCond .eq 5, 3) := by decide +kernel
theorem dX12_run_13 : decode cX12_run 13 = .ok (.iconst (-1), 1) := by decide +kernel
theorem dX12_run_14 : decode cX12_run 14 = .ok (.ireturn, 1) := by decide +kernel
theorem dX12_run_15 : decode cX12_run 15 = .ok (.aload_n 0, 1) := by decide +kernel
theorem dX12_run_16 : decode cX12_run 16 = .ok (.getfield 32, 3) := by decide +kernel
theorem dX12_run_19 : decode cX12_run 19 = .ok (.iload_n 1, 1) := by decide +kernel
theorem dX12_run_20 : decode cX12_run 20 = .ok (.invokestatic 88, 3) := by decide +kernel
theorem dX12_run_23 : decode cX12_run 23 = .ok (.iconst 0, 1) := by decide +kernel
theorem dX12_run_24 : decode cX12_run 24 = .ok (.iadd, 1) := by decide +kernel
theorem dX12_run_25 : decode cX12_run 25 = .ok (.iaload, 1) := by decide +kernel
theorem dX12_run_26 : decode cX12_run 26 = .ok (.ifCond .eq 6, 3) := by decide +kernel
theorem dX12_run_29 : decode cX12_run 29 = .ok (.bipush (-3), 2) := by decide +kernel
theorem dX12_run_31 : decode cX12_run 31 = .ok (.ireturn, 1) := by decide +kernel
theorem dX12_run_32 : decode cX12_run 32 = .ok (.aload_n 0, 1) := by decide +kernel
theorem dX12_run_33 : decode cX12_run 33 = .ok (.invokevirtual 198, 3) := by decide +kernel
theorem dX12_run_36 : decode cX12_run 36 = .ok (.iconst 0, 1) := by decide +kernel
theorem dX12_run_37 : decode cX12_run 37 = .ok (.istore_n 2, 1) := by decide +kernel
theorem dX12_run_38 : decode cX12_run 38 = .ok (.iconst 0, 1) := by decide +kernel
theorem dX12_run_39 : decode cX12_run 39 = .ok (.istore_n 3, 1) := by decide +kernel
theorem dX12_run_40 : decode cX12_run 40 = .ok (.iload_n 2, 1) := by decide +kernel
theorem dX12_run_41 : decode cX12_run 41 = .ok (.bipush 60, 2) := by decide +kernel
theorem dX12_run_43 : decode cX12_run 43 = .ok (.if_icmp .ge 28, 3) := by decide +kernel
theorem dX12_run_46 : decode cX12_run 46 = .ok (.iload_n 3, 1) := by decide +kernel
theorem dX12_run_47 : decode cX12_run 47 = .ok (.ifCond .eq 8, 3) := by decide +kernel
theorem dX12_run_50 : decode cX12_run 50 = .ok (.iload_n 3, 1) := by decide +kernel
theorem dX12_run_51 : decode cX12_run 51 = .ok (.iconst 2, 1) := by decide +kernel
theorem dX12_run_52 : decode cX12_run 52 = .ok (.if_icmp .ne 19, 3) := by decide +kernel
theorem dX12_run_55 : decode cX12_run 55 = .ok (.aload_n 0, 1) := by decide +kernel
theorem dX12_run_56 : decode cX12_run 56 = .ok (.aload_n 0, 1) := by decide +kernel
theorem dX12_run_57 : decode cX12_run 57 = .ok (.getfield 32, 3) := by decide +kernel
theorem dX12_run_60 : decode cX12_run 60 = .ok (.iload_n 1, 1) := by decide +kernel
theorem dX12_run_61 : decode cX12_run 61 = .ok (.invokevirtual 201, 3) := by decide +kernel
theorem dX12_run_64 : decode cX12_run 64 = .ok (.istore_n 3, 1) := by decide +kernel
theorem dX12_run_65 : decode cX12_run 65 = .ok (.iinc 2 1, 3) := by decide +kernel
theorem dX12_run_68 : decode cX12_run 68 = .ok (.goto (-28), 3) := by decide +kernel
theorem dX12_run_71 : decode cX12_run 71 = .ok (.iload_n 2, 1) := by decide +kernel
theorem dX12_run_72 : decode cX12_run 72 = .ok (.ireturn, 1) := by decide +kernel
theorem dX12_setCell_0 : decode cX12_setCell 0 = .ok (.aload_n 0, 1) := by decide +kernel
theorem dX12_setCell_1 : decode cX12_setCell 1 = .ok (.iconst 0, 1) := by decide +kernel
theorem dX12_setCell_2 : decode cX12_setCell 2 = .ok (.putfield 85, 3) := by decide +kernel
theorem dX12_setCell_5 : decode cX12_setCell 5 = .ok (.iload_n 1, 1) := by decide +kernel
theorem dX12_setCell_6 : decode cX12_setCell 6 = .ok (.invokestatic 192, 3) := by decide +kernel
theorem dX12_setCell_9 : decode cX12_setCell 9 = .ok (.ifCond .eq 5, 3) := by decide +kernel
theorem dX12_setCell_12 : decode cX12_setCell 12 = .ok (.iconst (-1), 1) := by decide +kernel
theorem dX12_setCell_13 : decode cX12_setCell 13 = .ok (.ireturn, 1) := by decide +kernel
theorem dX12_setCell_14 : decode cX12_setCell 14 = .ok (.iload_n 2, 1) := by decide +kernel
theorem dX12_setCell_15 : decode cX12_setCell 15 = .ok (.i2l, 1) := by decide +kernel
theorem dX12_setCell_16 : decode cX12_setCell 16 = .ok (.ldc2_w 204, 3) := by decide +kernel
theorem dX12_setCell_19 : decode cX12_setCell 19 = .ok (.ldc2_w 206, 3) := by decide +kernel
theorem dX12_setCell_22 : decode cX12_setCell 22 = .ok (.invokestatic 148, 3) := by decide +kernel
theorem dX12_setCell_25 : decode cX12_setCell 25 = .ok (.ifCond .ne 6, 3) := by decide +kernel
theorem dX12_setCell_28 : decode cX12_setCell 28 = .ok (.bipush (-2), 2) := by decide +kernel
theorem dX12_setCell_30 : decode cX12_setCell 30 = .ok (.ireturn, 1) := by decide +kernel
theorem dX12_setCell_31 : decode cX12_setCell 31 = .ok (.aload_n 0, 1) := by decide +kernel
theorem dX12_setCell_32 : decode cX12_setCell 32 = .ok (.invokevirtual 198, 3) := by decide +kernel
theorem dX12_setCell_35 : decode cX12_setCell 35 = .ok (.aload_n 0, 1) := by decide +kernel
theorem dX12_setCell_36 : decode cX12_setCell 36 = .ok (.getfield 32, 3) := by decide +kernel
theorem dX12_setCell_39 : decode cX12_setCell 39 = .ok (.iload_n 1, 1) := by decide +kernel
theorem dX12_setCell_40 : decode cX12_setCell 40 = .ok (.iload_n 2, 1) := by decide +kernel
theorem dX12_setCell_41 : decode cX12_setCell 41 = .ok (.iastore, 1) := by decide +kernel
theorem dX12_setCell_42 : decode cX12_setCell 42 = .ok (.aload_n 0, 1) := by decide +kernel
theorem dX12_setCell_43 : decode cX12_setCell 43 = .ok (.aload_n 0, 1) := by decide +kernel
theorem dX12_setCell_44 : decode cX12_setCell 44 = .ok (.getfield 32, 3) := by decide +kernel
theorem dX12_setCell_47 : decode cX12_setCell 47 = .ok (.iload_n 1, 1) := by decide +kernel
theorem dX12_setCell_48 : decode cX12_setCell 48 = .ok (.invokevirtual 119, 3) := by decide +kernel
theorem dX12_setCell_51 : decode cX12_setCell 51 = .ok (.aload_n 0, 1) := by decide +kernel
theorem dX12_setCell_52 : decode cX12_setCell 52 = .ok (.getfield 32, 3) := by decide +kernel
theorem dX12_setCell_55 : decode cX12_setCell 55 = .ok (.bipush 6, 2) := by decide +kernel
theorem dX12_setCell_57 : decode cX12_setCell 57 = .ok (.iload_n 1, 1) := by decide +kernel
theorem dX12_setCell_58 : decode cX12_setCell 58 = .ok (.iadd, 1) := by decide +kernel
theorem dX12_setCell_59 : decode cX12_setCell 59 = .ok (.iaload, 1) := by decide +kernel
theorem dX12_setCell_60 : decode cX12_setCell 60 = .ok (.ireturn, 1) := by decide +kernel
theorem dX12_addInvariant_0 : decode cX12_addInvariant 0 = .ok (.aload_n 0, 1) := by decide +kernel
theorem dX12_addInvariant_1 : decode cX12_addInvariant 1 = .ok (.iconst 0, 1) := by decide +kernel
theorem dX12_addInvariant_2 : decode cX12_addInvariant 2 = .ok (.putfield 85, 3) := by decide +kernel
theorem dX12_addInvariant_5 : decode cX12_addInvariant 5 = .ok (.iload_n 1, 1) := by decide +kernel
theorem dX12_addInvariant_6 : decode cX12_addInvariant 6 = .ok (.invokestatic 192, 3) := by decide +kernel
theorem dX12_addInvariant_9 : decode cX12_addInvariant 9 = .ok (.ifCond .ne 10, 3) := by decide +kernel
theorem dX12_addInvariant_12 : decode cX12_addInvariant 12 = .ok (.iload_n 2, 1) := by decide +kernel
theorem dX12_addInvariant_13 : decode cX12_addInvariant 13 = .ok (.invokestatic 192, 3) := by decide +kernel
theorem dX12_addInvariant_16 : decode cX12_addInvariant 16 = .ok (.ifCond .eq 5, 3) := by decide +kernel
theorem dX12_addInvariant_19 : decode cX12_addInvariant 19 = .ok (.iconst (-1), 1) := by decide +kernel
theorem dX12_addInvariant_20 : decode cX12_addInvariant 20 = .ok (.ireturn, 1) := by decide +kernel
theorem dX12_addInvariant_21 : decode cX12_addInvariant 21 = .ok (.iload_n 3, 1) := by decide +kernel
theorem dX12_addInvariant_22 : decode cX12_addInvariant 22 = .ok (.i2l, 1) := by decide +kernel
theorem dX12_addInvariant_23 : decode cX12_addInvariant 23 = .ok (.ldc2_w 204, 3) := by decide +kernel
theorem dX12_addInvariant_26 : decode cX12_addInvariant 26 = .ok (.ldc2_w 206, 3) := by decide +kernel
theorem dX12_addInvariant_29 : decode cX12_addInvariant 29 = .ok (.invokestatic 148, 3) := by decide +kernel
theorem dX12_addInvariant_32 : decode cX12_addInvariant 32 = .ok (.ifCond .ne 6, 3) := by decide +kernel
theorem dX12_addInvariant_35 : decode cX12_addInvariant 35 = .ok (.bipush (-2), 2) := by decide +kernel
theorem dX12_addInvariant_37 : decode cX12_addInvariant 37 = .ok (.ireturn, 1) := by decide +kernel
theorem dX12_addInvariant_38 : decode cX12_addInvariant 38 = .ok (.aload_n 0, 1) := by decide +kernel
theorem dX12_addInvariant_39 : decode cX12_addInvariant 39 = .ok (.getfield 32, 3) := by decide +kernel
theorem dX12_addInvariant_42 : decode cX12_addInvariant 42 = .ok (.bipush 12, 2) := by decide +kernel
theorem dX12_addInvariant_44 : decode cX12_addInvariant 44 = .ok (.iaload, 1) := by decide +kernel
theorem dX12_addInvariant_45 : decode cX12_addInvariant 45 = .ok (.iconst 4, 1) := by decide +kernel
theorem dX12_addInvariant_46 : decode cX12_addInvariant 46 = .ok (.if_icmp .ne 6, 3) := by decide +kernel
theorem dX12_addInvariant_49 : decode cX12_addInvariant 49 = .ok (.bipush (-4), 2) := by decide +kernel
theorem dX12_addInvariant_51 : decode cX12_addInvariant 51 = .ok (.ireturn, 1) := by decide +kernel
theorem dX12_addInvariant_52 : decode cX12_addInvariant 52 = .ok (.aload_n 0, 1) := by decide +kernel
theorem dX12_addInvariant_53 : decode cX12_addInvariant 53 = .ok (.invokevirtual 198, 3) := by decide +kernel
theorem dX12_addInvariant_56 : decode cX12_addInvariant 56 = .ok (.bipush 13, 2) := by decide +kernel
theorem dX12_addInvariant_58 : decode cX12_addInvariant 58 = .ok (.iconst 3, 1) := by decide +kernel
theorem dX12_addInvariant_59 : decode cX12_addInvariant 59 = .ok (.aload_n 0, 1) := by decide +kernel
theorem dX12_addInvariant_60 : decode cX12_addInvariant 60 = .ok (.getfield 32, 3) := by decide +kernel
theorem dX12_addInvariant_63 : decode cX12_addInvariant 63 = .ok (.bipush 12, 2) := by decide +kernel
theorem dX12_addInvariant_65 : decode cX12_addInvariant 65 = .ok (.iaload, 1) := by decide +kernel
theorem dX12_addInvariant_66 : decode cX12_addInvariant 66 = .ok (.imul, 1) := by decide +kernel
theorem dX12_addInvariant_67 : decode cX12_addInvariant 67 = .ok (.iadd, 1) := by decide +kernel
theorem dX12_addInvariant_68 : decode cX12_addInvariant 68 = .ok (.istore 4, 2) := by decide +kernel
theorem dX12_addInvariant_70 : decode cX12_addInvariant 70 = .ok (.aload_n 0, 1) := by decide +kernel
theorem dX12_addInvariant_71 : decode cX12_addInvariant 71 = .ok (.getfield 32, 3) := by decide +kernel
theorem dX12_addInvariant_74 : decode cX12_addInvariant 74 = .ok (.iload 4, 2) := by decide +kernel
theorem dX12_addInvariant_76 : decode cX12_addInvariant 76 = .ok (.iload_n 1, 1) := by decide +kernel
theorem dX12_addInvariant_77 : decode cX12_addInvariant 77 = .ok (.iastore, 1) := by decide +kernel
theorem dX12_addInvariant_78 : decode cX12_addInvariant 78 = .ok (.aload_n 0, 1) := by decide +kernel
theorem dX12_addInvariant_79 : decode cX12_addInvariant 79 = .ok (.getfield 32, 3) := by decide +kernel
theorem dX12_addInvariant_82 : decode cX12_addInvariant 82 = .ok (.iload 4, 2) := by decide +kernel
theorem dX12_addInvariant_84 : decode cX12_addInvariant 84 = .ok (.iconst 1, 1) := by decide +kernel
theorem dX12_addInvariant_85 : decode cX12_addInvariant 85 = .ok (.iadd, 1) := by decide +kernel
theorem dX12_addInvariant_86 : decode cX12_addInvariant 86 = .ok (.iload_n 2, 1) := by decide +kernel
theorem dX12_addInvariant_87 : decode cX12_addInvariant 87 = .ok (.iastore, 1) := by decide +kernel
theorem dX12_addInvariant_88 : decode cX12_addInvariant 88 = .ok (.aload_n 0, 1) := by decide +kernel
theorem dX12_addInvariant_89 : decode cX12_addInvariant 89 = .ok (.getfield 32, 3) := by decide +kernel
theorem dX12_addInvariant_92 : decode cX12_addInvariant 92 = .ok (.iload 4, 2) := by decide +kernel
theorem dX12_addInvariant_94 : decode cX12_addInvariant 94 = .ok (.iconst 2, 1) := by decide +kernel
theorem dX12_addInvariant_95 : decode cX12_addInvariant 95 = .ok (.iadd, 1) := by decide +kernel
theorem dX12_addInvariant_96 : decode cX12_addInvariant 96 = .ok (.iload_n 3, 1) := by decide +kernel
theorem dX12_addInvariant_97 : decode cX12_addInvariant 97 = .ok (.iastore, 1) := by decide +kernel
theorem dX12_addInvariant_98 : decode cX12_addInvariant 98 = .ok (.aload_n 0, 1) := by decide +kernel
theorem dX12_addInvariant_99 : decode cX12_addInvariant 99 = .ok (.getfield 32, 3) := by decide +kernel
theorem dX12_addInvariant_102 : decode cX12_addInvariant 102 = .ok (.bipush 12, 2) := by decide +kernel
theorem dX12_addInvariant_104 : decode cX12_addInvariant 104 = .ok (.dup2, 1) := by decide +kernel
theorem dX12_addInvariant_105 : decode cX12_addInvariant 105 = .ok (.iaload, 1) := by decide +kernel
theorem dX12_addInvariant_106 : decode cX12_addInvariant 106 = .ok (.iconst 1, 1) := by decide +kernel
theorem dX12_addInvariant_107 : decode cX12_addInvariant 107 = .ok (.iadd, 1) := by decide +kernel
theorem dX12_addInvariant_108 : decode cX12_addInvariant 108 = .ok (.iastore, 1) := by decide +kernel
theorem dX12_addInvariant_109 : decode cX12_addInvariant 109 = .ok (.aload_n 0, 1) := by decide +kernel
theorem dX12_addInvariant_110 : decode cX12_addInvariant 110 = .ok (.getfield 32, 3) := by decide +kernel
theorem dX12_addInvariant_113 : decode cX12_addInvariant 113 = .ok (.bipush 12, 2) := by decide +kernel
theorem dX12_addInvariant_115 : decode cX12_addInvariant 115 = .ok (.iaload, 1) := by decide +kernel
theorem dX12_addInvariant_116 : decode cX12_addInvariant 116 = .ok (.ireturn, 1) := by decide +kernel
theorem dX12_undo_0 : decode cX12_undo 0 = .ok (.aload_n 0, 1) := by decide +kernel
theorem dX12_undo_1 : decode cX12_undo 1 = .ok (.iconst 0, 1) := by decide +kernel
theorem dX12_undo_2 : decode cX12_undo 2 = .ok (.putfield 85, 3) := by decide +kernel
theorem dX12_undo_5 : decode cX12_undo 5 = .ok (.aload_n 0, 1) := by decide +kernel
theorem dX12_undo_6 : decode cX12_undo 6 = .ok (.getfield 187, 3) := by decide +kernel
theorem dX12_undo_9 : decode cX12_undo 9 = .ok (.ifCond .ne 6, 3) := by decide +kernel
theorem dX12_undo_12 : decode cX12_undo 12 = .ok (.bipush (-3), 2) := by decide +kernel
theorem dX12_undo_14 : decode cX12_undo 14 = .ok (.ireturn, 1) := by decide +kernel
theorem dX12_undo_15 : decode cX12_undo 15 = .ok (.aload_n 0, 1) := by decide +kernel
theorem dX12_undo_16 : decode cX12_undo 16 = .ok (.dup, 1) := by decide +kernel
theorem dX12_undo_17 : decode cX12_undo 17 = .ok (.getfield 187, 3) := by decide +kernel
theorem dX12_undo_20 : decode cX12_undo 20 = .ok (.iconst 1, 1) := by decide +kernel
theorem dX12_undo_21 : decode cX12_undo 21 = .ok (.isub, 1) := by decide +kernel
theorem dX12_undo_22 : decode cX12_undo 22 = .ok (.putfield 187, 3) := by decide +kernel
theorem dX12_undo_25 : decode cX12_undo 25 = .ok (.iconst 0, 1) := by decide +kernel
theorem dX12_undo_26 : decode cX12_undo 26 = .ok (.istore_n 1, 1) := by decide +kernel
theorem dX12_undo_27 : decode cX12_undo 27 = .ok (.iload_n 1, 1) := by decide +kernel
theorem dX12_undo_28 : decode cX12_undo 28 = .ok (.sipush 172, 3) := by decide +kernel
theorem dX12_undo_31 : decode cX12_undo 31 = .ok (.if_icmp .ge 30, 3) := by decide +kernel
theorem dX12_undo_34 : decode cX12_undo 34 = .ok (.aload_n 0, 1) := by decide +kernel
theorem dX12_undo_35 : decode cX12_undo 35 = .ok (.getfield 32, 3) := by decide +kernel
theorem dX12_undo_38 : decode cX12_undo 38 = .ok (.iload_n 1, 1) := by decide +kernel
theorem dX12_undo_39 : decode cX12_undo 39 = .ok (.aload_n 0, 1) := by decide +kernel
theorem dX12_undo_40 : decode cX12_undo 40 = .ok (.getfield 38, 3) := by decide +kernel
theorem dX12_undo_43 : decode cX12_undo 43 = .ok (.sipush 172, 3) := by decide +kernel
theorem dX12_undo_46 : decode cX12_undo 46 = .ok (.aload_n 0, 1) := by decide +kernel
theorem dX12_undo_47 : decode cX12_undo 47 = .ok (.getfield 187, 3) := by decide +kernel
theorem dX12_undo_50 : decode cX12_undo 50 = .ok (.imul, 1) := by decide +kernel
theorem dX12_undo_51 : decode cX12_undo 51 = .ok (.iload_n 1, 1) := by decide +kernel
theorem dX12_undo_52 : decode cX12_undo 52 = .ok (.iadd, 1) := by decide +kernel
theorem dX12_undo_53 : decode cX12_undo 53 = .ok (.iaload, 1) := by decide +kernel
theorem dX12_undo_54 : decode cX12_undo 54 = .ok (.iastore, 1) := by decide +kernel
theorem dX12_undo_55 : decode cX12_undo 55 = .ok (.iinc 1 1, 3) := by decide +kernel
theorem dX12_undo_58 : decode cX12_undo 58 = .ok (.goto (-31), 3) := by decide +kernel
theorem dX12_undo_61 : decode cX12_undo 61 = .ok (.aload_n 0, 1) := by decide +kernel
theorem dX12_undo_62 : decode cX12_undo 62 = .ok (.getfield 187, 3) := by decide +kernel
theorem dX12_undo_65 : decode cX12_undo 65 = .ok (.ireturn, 1) := by decide +kernel
theorem dX12_keyOf_0 : decode cX12_keyOf 0 = .ok (.lconst 0, 1) := by decide +kernel
theorem dX12_keyOf_1 : decode cX12_keyOf 1 = .ok (.lstore_n 3, 1) := by decide +kernel
theorem dX12_keyOf_2 : decode cX12_keyOf 2 = .ok (.iconst 0, 1) := by decide +kernel
theorem dX12_keyOf_3 : decode cX12_keyOf 3 = .ok (.istore 5, 2) := by decide +kernel
theorem dX12_keyOf_5 : decode cX12_keyOf 5 = .ok (.iload 5, 2) := by decide +kernel
theorem dX12_keyOf_7 : decode cX12_keyOf 7 = .ok (.bipush 6, 2) := by decide +kernel
theorem dX12_keyOf_9 : decode cX12_keyOf 9 = .ok (.if_icmp .ge 25, 3) := by decide +kernel
theorem dX12_keyOf_12 : decode cX12_keyOf 12 = .ok (.ldc2_w 208, 3) := by decide +kernel
theorem dX12_keyOf_15 : decode cX12_keyOf 15 = .ok (.lload_n 3, 1) := by decide +kernel
theorem dX12_keyOf_16 : decode cX12_keyOf 16 = .ok (.lmul, 1) := by decide +kernel
theorem dX12_keyOf_17 : decode cX12_keyOf 17 = .ok (.aload_n 0, 1) := by decide +kernel
theorem dX12_keyOf_18 : decode cX12_keyOf 18 = .ok (.iload 5, 2) := by decide +kernel
theorem dX12_keyOf_20 : decode cX12_keyOf 20 = .ok (.iaload, 1) := by decide +kernel
theorem dX12_keyOf_21 : decode cX12_keyOf 21 = .ok (.i2l, 1) := by decide +kernel
theorem dX12_keyOf_22 : decode cX12_keyOf 22 = .ok (.ladd, 1) := by decide +kernel
theorem dX12_keyOf_23 : decode cX12_keyOf 23 = .ok (.ldc2_w 210, 3) := by decide +kernel
theorem dX12_keyOf_26 : decode cX12_keyOf 26 = .ok (.ladd, 1) := by decide +kernel
theorem dX12_keyOf_27 : decode cX12_keyOf 27 = .ok (.lstore_n 3, 1) := by decide +kernel
theorem dX12_keyOf_28 : decode cX12_keyOf 28 = .ok (.iinc 5 1, 3) := by decide +kernel
theorem dX12_keyOf_31 : decode cX12_keyOf 31 = .ok (.goto (-26), 3) := by decide +kernel
theorem dX12_keyOf_34 : decode cX12_keyOf 34 = .ok (.iconst 0, 1) := by decide +kernel
theorem dX12_keyOf_35 : decode cX12_keyOf 35 = .ok (.istore 5, 2) := by decide +kernel
theorem dX12_keyOf_37 : decode cX12_keyOf 37 = .ok (.iload 5, 2) := by decide +kernel
theorem dX12_keyOf_39 : decode cX12_keyOf 39 = .ok (.iconst 3, 1) := by decide +kernel
theorem dX12_keyOf_40 : decode cX12_keyOf 40 = .ok (.if_icmp .ge 61, 3) := by decide +kernel
theorem dX12_keyOf_43 : decode cX12_keyOf 43 = .ok (.ldc2_w 212, 3) := by decide +kernel
theorem dX12_keyOf_46 : decode cX12_keyOf 46 = .ok (.lload_n 3, 1) := by decide +kernel
theorem dX12_keyOf_47 : decode cX12_keyOf 47 = .ok (.lmul, 1) := by decide +kernel
theorem dX12_keyOf_48 : decode cX12_keyOf 48 = .ok (.iconst 4, 1) := by decide +kernel
theorem dX12_keyOf_49 : decode cX12_keyOf 49 = .ok (.aload_n 0, 1) := by decide +kernel
theorem dX12_keyOf_50 : decode cX12_keyOf 50 = .ok (.iload 5, 2) := by decide +kernel
theorem dX12_keyOf_52 : decode cX12_keyOf 52 = .ok (.invokestatic 88, 3) := by decide +kernel
theorem dX12_keyOf_55 : decode cX12_keyOf 55 = .ok (.bipush 47, 2) := by decide +kernel
theorem dX12_keyOf_57 : decode cX12_keyOf 57 = .ok (.iadd, 1) := by decide +kernel
theorem dX12_keyOf_58 : decode cX12_keyOf 58 = .ok (.iaload, 1) := by decide +kernel
theorem dX12_keyOf_59 : decode cX12_keyOf 59 = .ok (.imul, 1) := by decide +kernel
theorem dX12_keyOf_60 : decode cX12_keyOf 60 = .ok (.i2l, 1) := by decide +kernel
theorem dX12_keyOf_61 : decode cX12_keyOf 61 = .ok (.ladd, 1) := by decide +kernel
theorem dX12_keyOf_62 : decode cX12_keyOf 62 = .ok (.iload_n 2, 1) := by decide +kernel
theorem dX12_keyOf_63 : decode cX12_keyOf 63 = .ok (.iload 5, 2) := by decide +kernel
theorem dX12_keyOf_65 : decode cX12_keyOf 65 = .ok (.invokestatic 100, 3) := by decide +kernel
theorem dX12_keyOf_68 : decode cX12_keyOf 68 = .ok (.ifCond .eq 7, 3) := by decide +kernel
theorem dX12_keyOf_71 : decode cX12_keyOf 71 = .ok (.iconst 2, 1) := by decide +kernel
theorem dX12_keyOf_72 : decode cX12_keyOf 72 = .ok (.goto 4, 3) := by decide +kernel
theorem dX12_keyOf_75 : decode cX12_keyOf 75 = .ok (.iconst 0, 1) := by decide +kernel
theorem dX12_keyOf_76 : decode cX12_keyOf 76 = .ok (.i2l, 1) := by decide +kernel
theorem dX12_keyOf_77 : decode cX12_keyOf 77 = .ok (.ladd, 1) := by decide +kernel
theorem dX12_keyOf_78 : decode cX12_keyOf 78 = .ok (.iload_n 1, 1) := by decide +kernel
theorem dX12_keyOf_79 : decode cX12_keyOf 79 = .ok (.iload 5, 2) := by decide +kernel
theorem dX12_keyOf_81 : decode cX12_keyOf 81 = .ok (.invokestatic 100, 3) := by decide +kernel
theorem dX12_keyOf_84 : decode cX12_keyOf 84 = .ok (.ifCond .eq 7, 3) := by decide +kernel
theorem dX12_keyOf_87 : decode cX12_keyOf 87 = .ok (.iconst 1, 1) := by decide +kernel
theorem dX12_keyOf_88 : decode cX12_keyOf 88 = .ok (.goto 4, 3) := by decide +kernel
theorem dX12_keyOf_91 : decode cX12_keyOf 91 = .ok (.iconst 0, 1) := by decide +kernel
theorem dX12_keyOf_92 : decode cX12_keyOf 92 = .ok (.i2l, 1) := by decide +kernel
theorem dX12_keyOf_93 : decode cX12_keyOf 93 = .ok (.ladd, 1) := by decide +kernel
theorem dX12_keyOf_94 : decode cX12_keyOf 94 = .ok (.lstore_n 3, 1) := by decide +kernel
theorem dX12_keyOf_95 : decode cX12_keyOf 95 = .ok (.iinc 5 1, 3) := by decide +kernel
theorem dX12_keyOf_98 : decode cX12_keyOf 98 = .ok (.goto (-61), 3) := by decide +kernel
theorem dX12_keyOf_101 : decode cX12_keyOf 101 = .ok (.lload_n 3, 1) := by decide +kernel
theorem dX12_keyOf_102 : decode cX12_keyOf 102 = .ok (.lreturn, 1) := by decide +kernel
theorem dX12_threadBits_0 : decode cX12_threadBits 0 = .ok (.lload_n 0, 1) := by decide +kernel
theorem dX12_threadBits_1 : decode cX12_threadBits 1 = .ok (.iconst 4, 1) := by decide +kernel
theorem dX12_threadBits_2 : decode cX12_threadBits 2 = .ok (.iconst 2, 1) := by decide +kernel
theorem dX12_threadBits_3 : decode cX12_threadBits 3 = .ok (.iload_n 2, 1) := by decide +kernel
theorem dX12_threadBits_4 : decode cX12_threadBits 4 = .ok (.isub, 1) := by decide +kernel
theorem dX12_threadBits_5 : decode cX12_threadBits 5 = .ok (.imul, 1) := by decide +kernel
theorem dX12_threadBits_6 : decode cX12_threadBits 6 = .ok (.lshr, 1) := by decide +kernel
theorem dX12_threadBits_7 : decode cX12_threadBits 7 = .ok (.ldc2_w 214, 3) := by decide +kernel
theorem dX12_threadBits_10 : decode cX12_threadBits 10 = .ok (.land, 1) := by decide +kernel
theorem dX12_threadBits_11 : decode cX12_threadBits 11 = .ok (.l2i, 1) := by decide +kernel
theorem dX12_threadBits_12 : decode cX12_threadBits 12 = .ok (.ireturn, 1) := by decide +kernel
theorem dX12_valueIn_0 : decode cX12_valueIn 0 = .ok (.lload_n 0, 1) := by decide +kernel
theorem dX12_valueIn_1 : decode cX12_valueIn 1 = .ok (.bipush 12, 2) := by decide +kernel
theorem dX12_valueIn_3 : decode cX12_valueIn 3 = .ok (.bipush 8, 2) := by decide +kernel
theorem dX12_valueIn_5 : decode cX12_valueIn 5 = .ok (.iconst 5, 1) := by decide +kernel
theorem dX12_valueIn_6 : decode cX12_valueIn 6 = .ok (.iload_n 2, 1) := by decide +kernel
theorem dX12_valueIn_7 : decode cX12_valueIn 7 = .ok (.isub, 1) := by decide +kernel
theorem dX12_valueIn_8 : decode cX12_valueIn 8 = .ok (.imul, 1) := by decide +kernel
theorem dX12_valueIn_9 : decode cX12_valueIn 9 = .ok (.iadd, 1) := by decide +kernel
theorem dX12_valueIn_10 : decode cX12_valueIn 10 = .ok (.lshr, 1) := by decide +kernel
theorem dX12_valueIn_11 : decode cX12_valueIn 11 = .ok (.ldc2_w 146, 3) := by decide +kernel
theorem dX12_valueIn_14 : decode cX12_valueIn 14 = .ok (.land, 1) := by decide +kernel
theorem dX12_valueIn_15 : decode cX12_valueIn 15 = .ok (.l2i, 1) := by decide +kernel
theorem dX12_valueIn_16 : decode cX12_valueIn 16 = .ok (.bipush 100, 2) := by decide +kernel
theorem dX12_valueIn_18 : decode cX12_valueIn 18 = .ok (.isub, 1) := by decide +kernel
theorem dX12_valueIn_19 : decode cX12_valueIn 19 = .ok (.ireturn, 1) := by decide +kernel
theorem dX12_addKey_0 : decode cX12_addKey 0 = .ok (.iconst 0, 1) := by decide +kernel
theorem dX12_addKey_1 : decode cX12_addKey 1 = .ok (.istore_n 3, 1) := by decide +kernel
theorem dX12_addKey_2 : decode cX12_addKey 2 = .ok (.iload_n 3, 1) := by decide +kernel
theorem dX12_addKey_3 : decode cX12_addKey 3 = .ok (.aload_n 0, 1) := by decide +kernel
theorem dX12_addKey_4 : decode cX12_addKey 4 = .ok (.getfield 216, 3) := by decide +kernel
theorem dX12_addKey_7 : decode cX12_addKey 7 = .ok (.if_icmp .ge 21, 3) := by decide +kernel
theorem dX12_addKey_10 : decode cX12_addKey 10 = .ok (.aload_n 0, 1) := by decide +kernel
theorem dX12_addKey_11 : decode cX12_addKey 11 = .ok (.getfield 78, 3) := by decide +kernel
theorem dX12_addKey_14 : decode cX12_addKey 14 = .ok (.iload_n 3, 1) := by decide +kernel
theorem dX12_addKey_15 : decode cX12_addKey 15 = .ok (.laload, 1) := by decide +kernel
theorem dX12_addKey_16 : decode cX12_addKey 16 = .ok (.lload_n 1, 1) := by decide +kernel
theorem dX12_addKey_17 : decode cX12_addKey 17 = .ok (.lcmp, 1) := by decide +kernel
theorem dX12_addKey_18 : decode cX12_addKey 18 = .ok (.ifCond .ne 4, 3) := by decide +kernel
theorem dX12_addKey_21 : decode cX12_addKey 21 = .ok (.return_, 1) := by decide +kernel
theorem dX12_addKey_22 : decode cX12_addKey 22 = .ok (.iinc 3 1, 3) := by decide +kernel
theorem dX12_addKey_25 : decode cX12_addKey 25 = .ok (.goto (-23), 3) := by decide +kernel
theorem dX12_addKey_28 : decode cX12_addKey 28 = .ok (.aload_n 0, 1) := by decide +kernel
theorem dX12_addKey_29 : decode cX12_addKey 29 = .ok (.getfield 78, 3) := by decide +kernel
theorem dX12_addKey_32 : decode cX12_addKey 32 = .ok (.aload_n 0, 1) := by decide +kernel
theorem dX12_addKey_33 : decode cX12_addKey 33 = .ok (.getfield 216, 3) := by decide +kernel
theorem dX12_addKey_36 : decode cX12_addKey 36 = .ok (.lload_n 1, 1) := by decide +kernel
theorem dX12_addKey_37 : decode cX12_addKey 37 = .ok (.lastore, 1) := by decide +kernel
theorem dX12_addKey_38 : decode cX12_addKey 38 = .ok (.aload_n 0, 1) := by decide +kernel
theorem dX12_addKey_39 : decode cX12_addKey 39 = .ok (.dup, 1) := by decide +kernel
theorem dX12_addKey_40 : decode cX12_addKey 40 = .ok (.getfield 216, 3) := by decide +kernel
theorem dX12_addKey_43 : decode cX12_addKey 43 = .ok (.iconst 1, 1) := by decide +kernel
theorem dX12_addKey_44 : decode cX12_addKey 44 = .ok (.iadd, 1) := by decide +kernel
theorem dX12_addKey_45 : decode cX12_addKey 45 = .ok (.putfield 216, 3) := by decide +kernel
theorem dX12_addKey_48 : decode cX12_addKey 48 = .ok (.return_, 1) := by decide +kernel
theorem dX12_addOutcome_0 : decode cX12_addOutcome 0 = .ok (.lload_n 1, 1) := by decide +kernel
theorem dX12_addOutcome_1 : decode cX12_addOutcome 1 = .ok (.ldc2_w 219, 3) := by decide +kernel
theorem dX12_addOutcome_4 : decode cX12_addOutcome 4 = .ok (.land, 1) := by decide +kernel
theorem dX12_addOutcome_5 : decode cX12_addOutcome 5 = .ok (.lstore_n 3, 1) := by decide +kernel
theorem dX12_addOutcome_6 : decode cX12_addOutcome 6 = .ok (.iconst 0, 1) := by decide +kernel
theorem dX12_addOutcome_7 : decode cX12_addOutcome 7 = .ok (.istore 5, 2) := by decide +kernel
theorem dX12_addOutcome_9 : decode cX12_addOutcome 9 = .ok (.iload 5, 2) := by decide +kernel
theorem dX12_addOutcome_11 : decode cX12_addOutcome 11 = .ok (.aload_n 0, 1) := by decide +kernel
theorem dX12_addOutcome_12 : decode cX12_addOutcome 12 = .ok (.getfield 221, 3) := by decide +kernel
theorem dX12_addOutcome_15 : decode cX12_addOutcome 15 = .ok (.if_icmp .ge 22, 3) := by decide +kernel
theorem dX12_addOutcome_18 : decode cX12_addOutcome 18 = .ok (.aload_n 0, 1) := by decide +kernel
theorem dX12_addOutcome_19 : decode cX12_addOutcome 19 = .ok (.getfield 82, 3) := by decide +kernel
theorem dX12_addOutcome_22 : decode cX12_addOutcome 22 = .ok (.iload 5, 2) := by decide +kernel
theorem dX12_addOutcome_24 : decode cX12_addOutcome 24 = .ok (.laload, 1) := by decide +kernel
theorem dX12_addOutcome_25 : decode cX12_addOutcome 25 = .ok (.lload_n 3, 1) := by decide +kernel
theorem dX12_addOutcome_26 : decode cX12_addOutcome 26 = .ok (.lcmp, 1) := by decide +kernel
theorem dX12_addOutcome_27 : decode cX12_addOutcome 27 = .ok (.ifCond .ne 4, 3) := by decide +kernel
theorem dX12_addOutcome_30 : decode cX12_addOutcome 30 = .ok (.return_, 1) := by decide +kernel
theorem dX12_addOutcome_31 : decode cX12_addOutcome 31 = .ok (.iinc 5 1, 3) := by decide +kernel
theorem dX12_addOutcome_34 : decode cX12_addOutcome 34 = .ok (.goto (-25), 3) := by decide +kernel
theorem dX12_addOutcome_37 : decode cX12_addOutcome 37 = .ok (.aload_n 0, 1) := by decide +kernel
theorem dX12_addOutcome_38 : decode cX12_addOutcome 38 = .ok (.getfield 82, 3) := by decide +kernel
theorem dX12_addOutcome_41 : decode cX12_addOutcome 41 = .ok (.aload_n 0, 1) := by decide +kernel
theorem dX12_addOutcome_42 : decode cX12_addOutcome 42 = .ok (.getfield 221, 3) := by decide +kernel
theorem dX12_addOutcome_45 : decode cX12_addOutcome 45 = .ok (.lload_n 3, 1) := by decide +kernel
theorem dX12_addOutcome_46 : decode cX12_addOutcome 46 = .ok (.lastore, 1) := by decide +kernel
theorem dX12_addOutcome_47 : decode cX12_addOutcome 47 = .ok (.aload_n 0, 1) := by decide +kernel
theorem dX12_addOutcome_48 : decode cX12_addOutcome 48 = .ok (.dup, 1) := by decide +kernel
theorem dX12_addOutcome_49 : decode cX12_addOutcome 49 = .ok (.getfield 221, 3) := by decide +kernel
theorem dX12_addOutcome_52 : decode cX12_addOutcome 52 = .ok (.iconst 1, 1) := by decide +kernel
theorem dX12_addOutcome_53 : decode cX12_addOutcome 53 = .ok (.iadd, 1) := by decide +kernel
theorem dX12_addOutcome_54 : decode cX12_addOutcome 54 = .ok (.putfield 221, 3) := by decide +kernel
theorem dX12_addOutcome_57 : decode cX12_addOutcome 57 = .ok (.return_, 1) := by decide +kernel
theorem dX12_schedule_0 : decode cX12_schedule 0 = .ok (.iconst 0, 1) := by decide +kernel
theorem dX12_schedule_1 : decode cX12_schedule 1 = .ok (.istore 4, 2) := by decide +kernel
theorem dX12_schedule_3 : decode cX12_schedule 3 = .ok (.iconst 0, 1) := by decide +kernel
theorem dX12_schedule_4 : decode cX12_schedule 4 = .ok (.istore 5, 2) := by decide +kernel
theorem dX12_schedule_6 : decode cX12_schedule 6 = .ok (.aload_n 0, 1) := by decide +kernel
theorem dX12_schedule_7 : decode cX12_schedule 7 = .ok (.getfield 32, 3) := by decide +kernel
theorem dX12_schedule_10 : decode cX12_schedule 10 = .ok (.aload_n 0, 1) := by decide +kernel
theorem dX12_schedule_11 : decode cX12_schedule 11 = .ok (.getfield 35, 3) := by decide +kernel
theorem dX12_schedule_14 : decode cX12_schedule 14 = .ok (.invokestatic 224, 3) := by decide +kernel
theorem dX12_schedule_17 : decode cX12_schedule 17 = .ok (.iconst 0, 1) := by decide +kernel
theorem dX12_schedule_18 : decode cX12_schedule 18 = .ok (.istore 6, 2) := by decide +kernel
theorem dX12_schedule_20 : decode cX12_schedule 20 = .ok (.iload 6, 2) := by decide +kernel
theorem dX12_schedule_22 : decode cX12_schedule 22 = .ok (.bipush 6, 2) := by decide +kernel
theorem dX12_schedule_24 : decode cX12_schedule 24 = .ok (.if_icmp .ge 22, 3) := by decide +kernel
theorem dX12_schedule_27 : decode cX12_schedule 27 = .ok (.aload_n 0, 1) := by decide +kernel
theorem dX12_schedule_28 : decode cX12_schedule 28 = .ok (.getfield 35, 3) := by decide +kernel
theorem dX12_schedule_31 : decode cX12_schedule 31 = .ok (.iload 6, 2) := by decide +kernel
theorem dX12_schedule_33 : decode cX12_schedule 33 = .ok (.lload_n 1, 1) := by decide +kernel
theorem dX12_schedule_34 : decode cX12_schedule 34 = .ok (.iload 6, 2) := by decide +kernel
theorem dX12_schedule_36 : decode cX12_schedule 36 = .ok (.invokestatic 228, 3) := by decide +kernel
theorem dX12_schedule_39 : decode cX12_schedule 39 = .ok (.iastore, 1) := by decide +kernel
theorem dX12_schedule_40 : decode cX12_schedule 40 = .ok (.iinc 6 1, 3) := by decide +kernel
theorem dX12_schedule_43 : decode cX12_schedule 43 = .ok (.goto (-23), 3) := by decide +kernel
theorem dX12_schedule_46 : decode cX12_schedule 46 = .ok (.iconst 0, 1) := by decide +kernel
theorem dX12_schedule_47 : decode cX12_schedule 47 = .ok (.istore 6, 2) := by decide +kernel
theorem dX12_schedule_49 : decode cX12_schedule 49 = .ok (.iload 6, 2) := by decide +kernel
theorem dX12_schedule_51 : decode cX12_schedule 51 = .ok (.aload_n 0, 1) := by decide +kernel
theorem dX12_schedule_52 : decode cX12_schedule 52 = .ok (.getfield 13, 3) := by decide +kernel
theorem dX12_schedule_55 : decode cX12_schedule 55 = .ok (.if_icmp .ge 88, 3) := by decide +kernel
theorem dX12_schedule_58 : decode cX12_schedule 58 = .ok (.lload_n 1, 1) := by decide +kernel
theorem dX12_schedule_59 : decode cX12_schedule 59 = .ok (.iload 6, 2) := by decide +kernel
theorem dX12_schedule_61 : decode cX12_schedule 61 = .ok (.invokestatic 232, 3) := by decide +kernel
theorem dX12_schedule_64 : decode cX12_schedule 64 = .ok (.istore 7, 2) := by decide +kernel
theorem dX12_schedule_66 : decode cX12_schedule 66 = .ok (.iload 4, 2) := by decide +kernel
theorem dX12_schedule_68 : decode cX12_schedule 68 = .ok (.iload 7, 2) := by decide +kernel
theorem dX12_schedule_70 : decode cX12_schedule 70 = .ok (.iconst 2, 1) := by decide +kernel
theorem dX12_schedule_71 : decode cX12_schedule 71 = .ok (.irem, 1) := by decide +kernel
theorem dX12_schedule_72 : decode cX12_schedule 72 = .ok (.iconst 1, 1) := by decide +kernel
theorem dX12_schedule_73 : decode cX12_schedule 73 = .ok (.if_icmp .ne 10, 3) := by decide +kernel
theorem dX12_schedule_76 : decode cX12_schedule 76 = .ok (.iconst 1, 1) := by decide +kernel
theorem dX12_schedule_77 : decode cX12_schedule 77 = .ok (.iload 6, 2) := by decide +kernel
theorem dX12_schedule_79 : decode cX12_schedule 79 = .ok (.ishl, 1) := by decide +kernel
theorem dX12_schedule_80 : decode cX12_schedule 80 = .ok (.goto 4, 3) := by decide +kernel
theorem dX12_schedule_83 : decode cX12_schedule 83 = .ok (.iconst 0, 1) := by decide +kernel
theorem dX12_schedule_84 : decode cX12_schedule 84 = .ok (.ior, 1) := by decide +kernel
theorem dX12_schedule_85 : decode cX12_schedule 85 = .ok (.istore 4, 2) := by decide +kernel
theorem dX12_schedule_87 : decode cX12_schedule 87 = .ok (.iload 5, 2) := by decide +kernel
theorem dX12_schedule_89 : decode cX12_schedule 89 = .ok (.iload 7, 2) := by decide +kernel
theorem dX12_schedule_91 : decode cX12_schedule 91 = .ok (.iconst 2, 1) := by decide +kernel
theorem dX12_schedule_92 : decode cX12_schedule 92 = .ok (.idiv, 1) := by decide +kernel
theorem dX12_schedule_93 : decode cX12_schedule 93 = .ok (.iconst 2, 1) := by decide +kernel
theorem dX12_schedule_94 : decode cX12_schedule 94 = .ok (.irem, 1) := by decide +kernel
theorem dX12_schedule_95 : decode cX12_schedule 95 = .ok (.iconst 1, 1) := by decide +kernel
theorem dX12_schedule_96 : decode cX12_schedule 96 = .ok (.if_icmp .ne 10, 3) := by decide +kernel
theorem dX12_schedule_99 : decode cX12_schedule 99 = .ok (.iconst 1, 1) := by decide +kernel
theorem dX12_schedule_100 : decode cX12_schedule 100 = .ok (.iload 6, 2) := by decide +kernel
theorem dX12_schedule_102 : decode cX12_schedule 102 = .ok (.ishl, 1) := by decide +kernel
theorem dX12_schedule_103 : decode cX12_schedule 103 = .ok (.goto 4, 3) := by decide +kernel
theorem dX12_schedule_106 : decode cX12_schedule 106 = .ok (.iconst 0, 1) := by decide +kernel
theorem dX12_schedule_107 : decode cX12_schedule 107 = .ok (.ior, 1) := by decide +kernel
theorem dX12_schedule_108 : decode cX12_schedule 108 = .ok (.istore 5, 2) := by decide +kernel
theorem dX12_schedule_110 : decode cX12_schedule 110 = .ok (.aload_n 0, 1) := by decide +kernel
theorem dX12_schedule_111 : decode cX12_schedule 111 = .ok (.getfield 35, 3) := by decide +kernel
theorem dX12_schedule_114 : decode cX12_schedule 114 = .ok (.iload 6, 2) := by decide +kernel
theorem dX12_schedule_116 : decode cX12_schedule 116 = .ok (.iconst 0, 1) := by decide +kernel
theorem dX12_schedule_117 : decode cX12_schedule 117 = .ok (.invokestatic 96, 3) := by decide +kernel
theorem dX12_schedule_120 : decode cX12_schedule 120 = .ok (.aload_n 0, 1) := by decide +kernel
theorem dX12_schedule_121 : decode cX12_schedule 121 = .ok (.getfield 35, 3) := by decide +kernel
theorem dX12_schedule_124 : decode cX12_schedule 124 = .ok (.iload 6, 2) := by decide +kernel
theorem dX12_schedule_126 : decode cX12_schedule 126 = .ok (.invokestatic 88, 3) := by decide +kernel
theorem dX12_schedule_129 : decode cX12_schedule 129 = .ok (.bipush 47, 2) := by decide +kernel
theorem dX12_schedule_131 : decode cX12_schedule 131 = .ok (.iadd, 1) := by decide +kernel
theorem dX12_schedule_132 : decode cX12_schedule 132 = .ok (.iload 7, 2) := by decide +kernel
theorem dX12_schedule_134 : decode cX12_schedule 134 = .ok (.iconst 4, 1) := by decide +kernel
theorem dX12_schedule_135 : decode cX12_schedule 135 = .ok (.idiv, 1) := by decide +kernel
theorem dX12_schedule_136 : decode cX12_schedule 136 = .ok (.iastore, 1) := by decide +kernel
theorem dX12_schedule_137 : decode cX12_schedule 137 = .ok (.iinc 6 1, 3) := by decide +kernel
theorem dX12_schedule_140 : decode cX12_schedule 140 = .ok (.goto (-91), 3) := by decide +kernel
theorem dX12_schedule_143 : decode cX12_schedule 143 = .ok (.iconst 0, 1) := by decide +kernel
theorem dX12_schedule_144 : decode cX12_schedule 144 = .ok (.istore 6, 2) := by decide +kernel
theorem dX12_schedule_146 : decode cX12_schedule 146 = .ok (.iload 6, 2) := by decide +kernel
theorem dX12_schedule_148 : decode cX12_schedule 148 = .ok (.ifCond .ne 17, 3) := by decide +kernel
theorem dX12_schedule_151 : decode cX12_schedule 151 = .ok (.aload_n 0, 1) := by decide +kernel
theorem dX12_schedule_152 : decode cX12_schedule 152 = .ok (.aload_n 0, 1) := by decide +kernel
theorem dX12_schedule_153 : decode cX12_schedule 153 = .ok (.getfield 35, 3) := by decide +kernel
theorem dX12_schedule_156 : decode cX12_schedule 156 = .ok (.iload_n 3, 1) := by decide +kernel
theorem dX12_schedule_157 : decode cX12_schedule 157 = .ok (.invokevirtual 201, 3) := by decide +kernel
theorem dX12_schedule_160 : decode cX12_schedule 160 = .ok (.istore 6, 2) := by decide +kernel
theorem dX12_schedule_162 : decode cX12_schedule 162 = .ok (.goto (-16), 3) := by decide +kernel
theorem dX12_schedule_165 : decode cX12_schedule 165 = .ok (.iload 6, 2) := by decide +kernel
theorem dX12_schedule_167 : decode cX12_schedule 167 = .ok (.iconst 1, 1) := by decide +kernel
theorem dX12_schedule_168 : decode cX12_schedule 168 = .ok (.if_icmp .ne 21, 3) := by decide +kernel
theorem dX12_schedule_171 : decode cX12_schedule 171 = .ok (.aload_n 0, 1) := by decide +kernel
theorem dX12_schedule_172 : decode cX12_schedule 172 = .ok (.getfield 116, 3) := by decide +kernel
theorem dX12_schedule_175 : decode cX12_schedule 175 = .ok (.ifCond .eq 7, 3) := by decide +kernel
theorem dX12_schedule_178 : decode cX12_schedule 178 = .ok (.iconst 0, 1) := by decide +kernel
theorem dX12_schedule_179 : decode cX12_schedule 179 = .ok (.goto 5, 3) := by decide +kernel
theorem dX12_schedule_182 : decode cX12_schedule 182 = .ok (.iload 4, 2) := by decide +kernel
theorem dX12_schedule_184 : decode cX12_schedule 184 = .ok (.istore 4, 2) := by decide +kernel
theorem dX12_schedule_186 : decode cX12_schedule 186 = .ok (.goto 28, 3) := by decide +kernel
theorem dX12_schedule_189 : decode cX12_schedule 189 = .ok (.iload 6, 2) := by decide +kernel
theorem dX12_schedule_191 : decode cX12_schedule 191 = .ok (.iconst 3, 1) := by decide +kernel
theorem dX12_schedule_192 : decode cX12_schedule 192 = .ok (.if_icmp .ne 14, 3) := by decide +kernel
theorem dX12_schedule_195 : decode cX12_schedule 195 = .ok (.iload 4, 2) := by decide +kernel
theorem dX12_schedule_197 : decode cX12_schedule 197 = .ok (.iconst 1, 1) := by decide +kernel
theorem dX12_schedule_198 : decode cX12_schedule 198 = .ok (.iload_n 3, 1) := by decide +kernel
theorem dX12_schedule_199 : decode cX12_schedule 199 = .ok (.ishl, 1) := by decide +kernel
theorem dX12_schedule_200 : decode cX12_schedule 200 = .ok (.ior, 1) := by decide +kernel
theorem dX12_schedule_201 : decode cX12_schedule 201 = .ok (.istore 4, 2) := by decide +kernel
theorem dX12_schedule_203 : decode cX12_schedule 203 = .ok (.goto 11, 3) := by decide +kernel
theorem dX12_schedule_206 : decode cX12_schedule 206 = .ok (.iload 5, 2) := by decide +kernel
theorem dX12_schedule_208 : decode cX12_schedule 208 = .ok (.iconst 1, 1) := by decide +kernel
theorem dX12_schedule_209 : decode cX12_schedule 209 = .ok (.iload_n 3, 1) := by decide +kernel
theorem dX12_schedule_210 : decode cX12_schedule 210 = .ok (.ishl, 1) := by decide +kernel
theorem dX12_schedule_211 : decode cX12_schedule 211 = .ok (.ior, 1) := by decide +kernel
theorem dX12_schedule_212 : decode cX12_schedule 212 = .ok (.istore 5, 2) := by decide +kernel
theorem dX12_schedule_214 : decode cX12_schedule 214 = .ok (.aload_n 0, 1) := by decide +kernel
theorem dX12_schedule_215 : decode cX12_schedule 215 = .ok (.aload_n 0, 1) := by decide +kernel
theorem dX12_schedule_216 : decode cX12_schedule 216 = .ok (.getfield 35, 3) := by decide +kernel
theorem dX12_schedule_219 : decode cX12_schedule 219 = .ok (.iload 4, 2) := by decide +kernel
theorem dX12_schedule_221 : decode cX12_schedule 221 = .ok (.iload 5, 2) := by decide +kernel
theorem dX12_schedule_223 : decode cX12_schedule 223 = .ok (.invokestatic 235, 3) := by decide +kernel
theorem dX12_schedule_226 : decode cX12_schedule 226 = .ok (.invokevirtual 239, 3) := by decide +kernel
theorem dX12_schedule_229 : decode cX12_schedule 229 = .ok (.return_, 1) := by decide +kernel
theorem dX12_explore_0 : decode cX12_explore 0 = .ok (.aload_n 0, 1) := by decide +kernel
theorem dX12_explore_1 : decode cX12_explore 1 = .ok (.iconst 0, 1) := by decide +kernel
theorem dX12_explore_2 : decode cX12_explore 2 = .ok (.putfield 216, 3) := by decide +kernel
theorem dX12_explore_5 : decode cX12_explore 5 = .ok (.aload_n 0, 1) := by decide +kernel
theorem dX12_explore_6 : decode cX12_explore 6 = .ok (.iconst 0, 1) := by decide +kernel
theorem dX12_explore_7 : decode cX12_explore 7 = .ok (.putfield 221, 3) := by decide +kernel
theorem dX12_explore_10 : decode cX12_explore 10 = .ok (.iconst 0, 1) := by decide +kernel
theorem dX12_explore_11 : decode cX12_explore 11 = .ok (.istore_n 1, 1) := by decide +kernel
theorem dX12_explore_12 : decode cX12_explore 12 = .ok (.iconst 0, 1) := by decide +kernel
theorem dX12_explore_13 : decode cX12_explore 13 = .ok (.istore_n 2, 1) := by decide +kernel
theorem dX12_explore_14 : decode cX12_explore 14 = .ok (.iload_n 2, 1) := by decide +kernel
theorem dX12_explore_15 : decode cX12_explore 15 = .ok (.aload_n 0, 1) := by decide +kernel
theorem dX12_explore_16 : decode cX12_explore 16 = .ok (.getfield 13, 3) := by decide +kernel
theorem dX12_explore_19 : decode cX12_explore 19 = .ok (.if_icmp .ge 34, 3) := by decide +kernel
theorem dX12_explore_22 : decode cX12_explore 22 = .ok (.iload_n 1, 1) := by decide +kernel
theorem dX12_explore_23 : decode cX12_explore 23 = .ok (.aload_n 0, 1) := by decide +kernel
theorem dX12_explore_24 : decode cX12_explore 24 = .ok (.getfield 32, 3) := by decide +kernel
theorem dX12_explore_27 : decode cX12_explore 27 = .ok (.iload_n 2, 1) := by decide +kernel
theorem dX12_explore_28 : decode cX12_explore 28 = .ok (.invokestatic 88, 3) := by decide +kernel
theorem dX12_explore_31 : decode cX12_explore 31 = .ok (.iconst 0, 1) := by decide +kernel
theorem dX12_explore_32 : decode cX12_explore 32 = .ok (.iadd, 1) := by decide +kernel
theorem dX12_explore_33 : decode cX12_explore 33 = .ok (.iaload, 1) := by decide +kernel
theorem dX12_explore_34 : decode cX12_explore 34 = .ok (.iconst 3, 1) := by decide +kernel
theorem dX12_explore_35 : decode cX12_explore 35 = .ok (.if_icmp .ne 9, 3) := by decide +kernel
theorem dX12_explore_38 : decode cX12_explore 38 = .ok (.iconst 1, 1) := by decide +kernel
theorem dX12_explore_39 : decode cX12_explore 39 = .ok (.iload_n 2, 1) := by decide +kernel
theorem dX12_explore_40 : decode cX12_explore 40 = .ok (.ishl, 1) := by decide +kernel
theorem dX12_explore_41 : decode cX12_explore 41 = .ok (.goto 4, 3) := by decide +kernel
theorem dX12_explore_44 : decode cX12_explore 44 = .ok (.iconst 0, 1) := by decide +kernel
theorem dX12_explore_45 : decode cX12_explore 45 = .ok (.ior, 1) := by decide +kernel
theorem dX12_explore_46 : decode cX12_explore 46 = .ok (.istore_n 1, 1) := by decide +kernel
theorem dX12_explore_47 : decode cX12_explore 47 = .ok (.iinc 2 1, 3) := by decide +kernel
theorem dX12_explore_50 : decode cX12_explore 50 = .ok (.goto (-36), 3) := by decide +kernel
theorem dX12_explore_53 : decode cX12_explore 53 = .ok (.aload_n 0, 1) := by decide +kernel
theorem dX12_explore_54 : decode cX12_explore 54 = .ok (.aload_n 0, 1) := by decide +kernel
theorem dX12_explore_55 : decode cX12_explore 55 = .ok (.getfield 32, 3) := by decide +kernel
theorem dX12_explore_58 : decode cX12_explore 58 = .ok (.iconst 0, 1) := by decide +kernel
theorem dX12_explore_59 : decode cX12_explore 59 = .ok (.iload_n 1, 1) := by decide +kernel
theorem dX12_explore_60 : decode cX12_explore 60 = .ok (.invokestatic 235, 3) := by decide +kernel
theorem dX12_explore_63 : decode cX12_explore 63 = .ok (.invokevirtual 239, 3) := by decide +kernel
theorem dX12_explore_66 : decode cX12_explore 66 = .ok (.iconst 0, 1) := by decide +kernel
theorem dX12_explore_67 : decode cX12_explore 67 = .ok (.istore_n 2, 1) := by decide +kernel
theorem dX12_explore_68 : decode cX12_explore 68 = .ok (.iload_n 2, 1) := by decide +kernel
theorem dX12_explore_69 : decode cX12_explore 69 = .ok (.aload_n 0, 1) := by decide +kernel
theorem dX12_explore_70 : decode cX12_explore 70 = .ok (.getfield 216, 3) := by decide +kernel
theorem dX12_explore_73 : decode cX12_explore 73 = .ok (.if_icmp .ge 83, 3) := by decide +kernel
theorem dX12_explore_76 : decode cX12_explore 76 = .ok (.iconst 1, 1) := by decide +kernel
theorem dX12_explore_77 : decode cX12_explore 77 = .ok (.istore_n 3, 1) := by decide +kernel
theorem dX12_explore_78 : decode cX12_explore 78 = .ok (.iconst 0, 1) := by decide +kernel
theorem dX12_explore_79 : decode cX12_explore 79 = .ok (.istore 4, 2) := by decide +kernel
theorem dX12_explore_81 : decode cX12_explore 81 = .ok (.iload 4, 2) := by decide +kernel
theorem dX12_explore_83 : decode cX12_explore 83 = .ok (.aload_n 0, 1) := by decide +kernel
theorem dX12_explore_84 : decode cX12_explore 84 = .ok (.getfield 13, 3) := by decide +kernel
theorem dX12_explore_87 : decode cX12_explore 87 = .ok (.if_icmp .ge 49, 3) := by decide +kernel
theorem dX12_explore_90 : decode cX12_explore 90 = .ok (.aload_n 0, 1) := by decide +kernel
theorem dX12_explore_91 : decode cX12_explore 91 = .ok (.getfield 78, 3) := by decide +kernel
theorem dX12_explore_94 : decode cX12_explore 94 = .ok (.iload_n 2, 1) := by decide +kernel
theorem dX12_explore_95 : decode cX12_explore 95 = .ok (.laload, 1) := by decide +kernel
theorem dX12_explore_96 : decode cX12_explore 96 = .ok (.iload 4, 2) := by decide +kernel
theorem dX12_explore_98 : decode cX12_explore 98 = .ok (.invokestatic 232, 3) := by decide +kernel
theorem dX12_explore_101 : decode cX12_explore 101 = .ok (.istore 5, 2) := by decide +kernel
theorem dX12_explore_103 : decode cX12_explore 103 = .ok (.iload 5, 2) := by decide +kernel
theorem dX12_explore_105 : decode cX12_explore 105 = .ok (.iconst 3, 1) := by decide +kernel
theorem dX12_explore_106 : decode cX12_explore 106 = .ok (.if_icmp .le 24, 3) := by decide +kernel
theorem dX12_explore_109 : decode cX12_explore 109 = .ok (.iload 5, 2) := by decide +kernel
theorem dX12_explore_111 : decode cX12_explore 111 = .ok (.iconst 4, 1) := by decide +kernel
theorem dX12_explore_112 : decode cX12_explore 112 = .ok (.irem, 1) := by decide +kernel
theorem dX12_explore_113 : decode cX12_explore 113 = .ok (.ifCond .ne 17, 3) := by decide +kernel
theorem dX12_explore_116 : decode cX12_explore 116 = .ok (.iconst 0, 1) := by decide +kernel
theorem dX12_explore_117 : decode cX12_explore 117 = .ok (.istore_n 3, 1) := by decide +kernel
theorem dX12_explore_118 : decode cX12_explore 118 = .ok (.aload_n 0, 1) := by decide +kernel
theorem dX12_explore_119 : decode cX12_explore 119 = .ok (.aload_n 0, 1) := by decide +kernel
theorem dX12_explore_120 : decode cX12_explore 120 = .ok (.getfield 78, 3) := by decide +kernel
theorem dX12_explore_123 : decode cX12_explore 123 = .ok (.iload_n 2, 1) := by decide +kernel
theorem dX12_explore_124 : decode cX12_explore 124 = .ok (.laload, 1) := by decide +kernel
theorem dX12_explore_125 : decode cX12_explore 125 = .ok (.iload 4, 2) := by decide +kernel
theorem dX12_explore_127 : decode cX12_explore 127 = .ok (.invokevirtual 243, 3) := by decide +kernel
theorem dX12_explore_130 : decode cX12_explore 130 = .ok (.iinc 4 1, 3) := by decide +kernel
theorem dX12_explore_133 : decode cX12_explore 133 = .ok (.goto (-52), 3) := by decide +kernel
theorem dX12_explore_136 : decode cX12_explore 136 = .ok (.iload_n 3, 1) := by decide +kernel
theorem dX12_explore_137 : decode cX12_explore 137 = .ok (.ifCond .eq 13, 3) := by decide +kernel
theorem dX12_explore_140 : decode cX12_explore 140 = .ok (.aload_n 0, 1) := by decide +kernel
theorem dX12_explore_141 : decode cX12_explore 141 = .ok (.aload_n 0, 1) := by decide +kernel
theorem dX12_explore_142 : decode cX12_explore 142 = .ok (.getfield 78, 3) := by decide +kernel
theorem dX12_explore_145 : decode cX12_explore 145 = .ok (.iload_n 2, 1) := by decide +kernel
theorem dX12_explore_146 : decode cX12_explore 146 = .ok (.laload, 1) := by decide +kernel
theorem dX12_explore_147 : decode cX12_explore 147 = .ok (.invokevirtual 247, 3) := by decide +kernel
theorem dX12_explore_150 : decode cX12_explore 150 = .ok (.iinc 2 1, 3) := by decide +kernel
theorem dX12_explore_153 : decode cX12_explore 153 = .ok (.goto (-85), 3) := by decide +kernel
theorem dX12_explore_156 : decode cX12_explore 156 = .ok (.return_, 1) := by decide +kernel
theorem dX12_outcomeCount_0 : decode cX12_outcomeCount 0 = .ok (.aload_n 0, 1) := by decide +kernel
theorem dX12_outcomeCount_1 : decode cX12_outcomeCount 1 = .ok (.iconst 0, 1) := by decide +kernel
theorem dX12_outcomeCount_2 : decode cX12_outcomeCount 2 = .ok (.putfield 85, 3) := by decide +kernel
theorem dX12_outcomeCount_5 : decode cX12_outcomeCount 5 = .ok (.aload_n 0, 1) := by decide +kernel
theorem dX12_outcomeCount_6 : decode cX12_outcomeCount 6 = .ok (.invokevirtual 250, 3) := by decide +kernel
theorem dX12_outcomeCount_9 : decode cX12_outcomeCount 9 = .ok (.aload_n 0, 1) := by decide +kernel
theorem dX12_outcomeCount_10 : decode cX12_outcomeCount 10 = .ok (.getfield 221, 3) := by decide +kernel
theorem dX12_outcomeCount_13 : decode cX12_outcomeCount 13 = .ok (.ireturn, 1) := by decide +kernel
theorem dX12_possibleOutcomes_0 : decode cX12_possibleOutcomes 0 = .ok (.aload_n 0, 1) := by decide +kernel
theorem dX12_possibleOutcomes_1 : decode cX12_possibleOutcomes 1 = .ok (.iconst 0, 1) := by decide +kernel
theorem dX12_possibleOutcomes_2 : decode cX12_possibleOutcomes 2 = .ok (.putfield 85, 3) := by decide +kernel
theorem dX12_possibleOutcomes_5 : decode cX12_possibleOutcomes 5 = .ok (.aload_n 0, 1) := by decide +kernel
theorem dX12_possibleOutcomes_6 : decode cX12_possibleOutcomes 6 = .ok (.invokevirtual 250, 3) := by decide +kernel
theorem dX12_possibleOutcomes_9 : decode cX12_possibleOutcomes 9 = .ok (.iconst 0, 1) := by decide +kernel
theorem dX12_possibleOutcomes_10 : decode cX12_possibleOutcomes 10 = .ok (.istore_n 1, 1) := by decide +kernel
theorem dX12_possibleOutcomes_11 : decode cX12_possibleOutcomes 11 = .ok (.iconst 0, 1) := by decide +kernel
theorem dX12_possibleOutcomes_12 : decode cX12_possibleOutcomes 12 = .ok (.istore_n 2, 1) := by decide +kernel
theorem dX12_possibleOutcomes_13 : decode cX12_possibleOutcomes 13 = .ok (.iload_n 2, 1) := by decide +kernel
theorem dX12_possibleOutcomes_14 : decode cX12_possibleOutcomes 14 = .ok (.aload_n 0, 1) := by decide +kernel
theorem dX12_possibleOutcomes_15 : decode cX12_possibleOutcomes 15 = .ok (.getfield 221, 3) := by decide +kernel
theorem dX12_possibleOutcomes_18 : decode cX12_possibleOutcomes 18 = .ok (.if_icmp .ge 77, 3) := by decide +kernel
theorem dX12_possibleOutcomes_21 : decode cX12_possibleOutcomes 21 = .ok (.iconst 1, 1) := by decide +kernel
theorem dX12_possibleOutcomes_22 : decode cX12_possibleOutcomes 22 = .ok (.istore_n 3, 1) := by decide +kernel
theorem dX12_possibleOutcomes_23 : decode cX12_possibleOutcomes 23 = .ok (.iconst 0, 1) := by decide +kernel
theorem dX12_possibleOutcomes_24 : decode cX12_possibleOutcomes 24 = .ok (.istore 4, 2) := by decide +kernel
theorem dX12_possibleOutcomes_26 : decode cX12_possibleOutcomes 26 = .ok (.iload 4, 2) := by decide +kernel
theorem dX12_possibleOutcomes_28 : decode cX12_possibleOutcomes 28 = .ok (.aload_n 0, 1) := by decide +kernel
theorem dX12_possibleOutcomes_29 : decode cX12_possibleOutcomes 29 = .ok (.getfield 253, 3) := by decide +kernel
theorem dX12_possibleOutcomes_32 : decode cX12_possibleOutcomes 32 = .ok (.if_icmp .ge 45, 3) := by decide +kernel
theorem dX12_possibleOutcomes_35 : decode cX12_possibleOutcomes 35 = .ok (.iload_n 3, 1) := by decide +kernel
theorem dX12_possibleOutcomes_36 : decode cX12_possibleOutcomes 36 = .ok (.ifCond .eq 33, 3) := by decide +kernel
theorem dX12_possibleOutcomes_39 : decode cX12_possibleOutcomes 39 = .ok (.aload_n 0, 1) := by decide +kernel
theorem dX12_possibleOutcomes_40 : decode cX12_possibleOutcomes 40 = .ok (.getfield 82, 3) := by decide +kernel
theorem dX12_possibleOutcomes_43 : decode cX12_possibleOutcomes 43 = .ok (.iload_n 2, 1) := by decide +kernel
theorem dX12_possibleOutcomes_44 : decode cX12_possibleOutcomes 44 = .ok (.laload, 1) := by decide +kernel
theorem dX12_possibleOutcomes_45 : decode cX12_possibleOutcomes 45 = .ok (.aload_n 0, 1) := by decide +kernel
theorem dX12_possibleOutcomes_46 : decode cX12_possibleOutcomes 46 = .ok (.getfield 48, 3) := by decide +kernel
theorem dX12_possibleOutcomes_49 : decode cX12_possibleOutcomes 49 = .ok (.iload 4, 2) := by decide +kernel
theorem dX12_possibleOutcomes_51 : decode cX12_possibleOutcomes 51 = .ok (.iaload, 1) := by decide +kernel
theorem dX12_possibleOutcomes_52 : decode cX12_possibleOutcomes 52 = .ok (.invokestatic 228, 3) := by decide +kernel
theorem dX12_possibleOutcomes_55 : decode cX12_possibleOutcomes 55 = .ok (.aload_n 0, 1) := by decide +kernel
theorem dX12_possibleOutcomes_56 : decode cX12_possibleOutcomes 56 = .ok (.getfield 51, 3) := by decide +kernel
theorem dX12_possibleOutcomes_59 : decode cX12_possibleOutcomes 59 = .ok (.iload 4, 2) := by decide +kernel
theorem dX12_possibleOutcomes_61 : decode cX12_possibleOutcomes 61 = .ok (.iaload, 1) := by decide +kernel
theorem dX12_possibleOutcomes_62 : decode cX12_possibleOutcomes 62 = .ok (.if_icmp .ne 7, 3) := by decide +kernel
theorem dX12_possibleOutcomes_65 : decode cX12_possibleOutcomes 65 = .ok (.iconst 1, 1) := by decide +kernel
theorem dX12_possibleOutcomes_66 : decode cX12_possibleOutcomes 66 = .ok (.goto 4, 3) := by decide +kernel
theorem dX12_possibleOutcomes_69 : decode cX12_possibleOutcomes 69 = .ok (.iconst 0, 1) := by decide +kernel
theorem dX12_possibleOutcomes_70 : decode cX12_possibleOutcomes 70 = .ok (.istore_n 3, 1) := by decide +kernel
theorem dX12_possibleOutcomes_71 : decode cX12_possibleOutcomes 71 = .ok (.iinc 4 1, 3) := by decide +kernel
theorem dX12_possibleOutcomes_74 : decode cX12_possibleOutcomes 74 = .ok (.goto (-48), 3) := by decide +kernel
theorem dX12_possibleOutcomes_77 : decode cX12_possibleOutcomes 77 = .ok (.iload_n 1, 1) := by decide +kernel
theorem dX12_possibleOutcomes_78 : decode cX12_possibleOutcomes 78 = .ok (.iload_n 3, 1) := by decide +kernel
theorem dX12_possibleOutcomes_79 : decode cX12_possibleOutcomes 79 = .ok (.ifCond .eq 7, 3) := by decide +kernel
theorem dX12_possibleOutcomes_82 : decode cX12_possibleOutcomes 82 = .ok (.iconst 1, 1) := by decide +kernel
theorem dX12_possibleOutcomes_83 : decode cX12_possibleOutcomes 83 = .ok (.goto 4, 3) := by decide +kernel
theorem dX12_possibleOutcomes_86 : decode cX12_possibleOutcomes 86 = .ok (.iconst 0, 1) := by decide +kernel
theorem dX12_possibleOutcomes_87 : decode cX12_possibleOutcomes 87 = .ok (.iadd, 1) := by decide +kernel
theorem dX12_possibleOutcomes_88 : decode cX12_possibleOutcomes 88 = .ok (.istore_n 1, 1) := by decide +kernel
theorem dX12_possibleOutcomes_89 : decode cX12_possibleOutcomes 89 = .ok (.iinc 2 1, 3) := by decide +kernel
theorem dX12_possibleOutcomes_92 : decode cX12_possibleOutcomes 92 = .ok (.goto (-79), 3) := by decide +kernel
theorem dX12_possibleOutcomes_95 : decode cX12_possibleOutcomes 95 = .ok (.iload_n 1, 1) := by decide +kernel
theorem dX12_possibleOutcomes_96 : decode cX12_possibleOutcomes 96 = .ok (.ireturn, 1) := by decide +kernel
theorem dX12_canDeadlock_0 : decode cX12_canDeadlock 0 = .ok (.aload_n 0, 1) := by decide +kernel
theorem dX12_canDeadlock_1 : decode cX12_canDeadlock 1 = .ok (.iconst 0, 1) := by decide +kernel
theorem dX12_canDeadlock_2 : decode cX12_canDeadlock 2 = .ok (.putfield 85, 3) := by decide +kernel
theorem dX12_canDeadlock_5 : decode cX12_canDeadlock 5 = .ok (.aload_n 0, 1) := by decide +kernel
theorem dX12_canDeadlock_6 : decode cX12_canDeadlock 6 = .ok (.invokevirtual 250, 3) := by decide +kernel
theorem dX12_canDeadlock_9 : decode cX12_canDeadlock 9 = .ok (.iconst 0, 1) := by decide +kernel
theorem dX12_canDeadlock_10 : decode cX12_canDeadlock 10 = .ok (.istore_n 1, 1) := by decide +kernel
theorem dX12_canDeadlock_11 : decode cX12_canDeadlock 11 = .ok (.iload_n 1, 1) := by decide +kernel
theorem dX12_canDeadlock_12 : decode cX12_canDeadlock 12 = .ok (.aload_n 0, 1) := by decide +kernel
theorem dX12_canDeadlock_13 : decode cX12_canDeadlock 13 = .ok (.getfield 221, 3) := by decide +kernel
theorem dX12_canDeadlock_16 : decode cX12_canDeadlock 16 = .ok (.if_icmp .ge 26, 3) := by decide +kernel
theorem dX12_canDeadlock_19 : decode cX12_canDeadlock 19 = .ok (.aload_n 0, 1) := by decide +kernel
theorem dX12_canDeadlock_20 : decode cX12_canDeadlock 20 = .ok (.getfield 82, 3) := by decide +kernel
theorem dX12_canDeadlock_23 : decode cX12_canDeadlock 23 = .ok (.iload_n 1, 1) := by decide +kernel
theorem dX12_canDeadlock_24 : decode cX12_canDeadlock 24 = .ok (.laload, 1) := by decide +kernel
theorem dX12_canDeadlock_25 : decode cX12_canDeadlock 25 = .ok (.ldc2_w 256, 3) := by decide +kernel
theorem dX12_canDeadlock_28 : decode cX12_canDeadlock 28 = .ok (.land, 1) := by decide +kernel
theorem dX12_canDeadlock_29 : decode cX12_canDeadlock 29 = .ok (.lconst 0, 1) := by decide +kernel
theorem dX12_canDeadlock_30 : decode cX12_canDeadlock 30 = .ok (.lcmp, 1) := by decide +kernel
theorem dX12_canDeadlock_31 : decode cX12_canDeadlock 31 = .ok (.ifCond .eq 5, 3) := by decide +kernel
theorem dX12_canDeadlock_34 : decode cX12_canDeadlock 34 = .ok (.iconst 1, 1) := by decide +kernel
theorem dX12_canDeadlock_35 : decode cX12_canDeadlock 35 = .ok (.ireturn, 1) := by decide +kernel
theorem dX12_canDeadlock_36 : decode cX12_canDeadlock 36 = .ok (.iinc 1 1, 3) := by decide +kernel
theorem dX12_canDeadlock_39 : decode cX12_canDeadlock 39 = .ok (.goto (-28), 3) := by decide +kernel
theorem dX12_canDeadlock_42 : decode cX12_canDeadlock 42 = .ok (.iconst 0, 1) := by decide +kernel
theorem dX12_canDeadlock_43 : decode cX12_canDeadlock 43 = .ok (.ireturn, 1) := by decide +kernel
theorem dX12_greatestOutcome_0 : decode cX12_greatestOutcome 0 = .ok (.aload_n 0, 1) := by decide +kernel
theorem dX12_greatestOutcome_1 : decode cX12_greatestOutcome 1 = .ok (.iconst 0, 1) := by decide +kernel
theorem dX12_greatestOutcome_2 : decode cX12_greatestOutcome 2 = .ok (.putfield 85, 3) := by decide +kernel
theorem dX12_greatestOutcome_5 : decode cX12_greatestOutcome 5 = .ok (.iload_n 1, 1) := by decide +kernel
theorem dX12_greatestOutcome_6 : decode cX12_greatestOutcome 6 = .ok (.invokestatic 192, 3) := by decide +kernel
theorem dX12_greatestOutcome_9 : decode cX12_greatestOutcome 9 = .ok (.ifCond .eq 5, 3) := by decide +kernel
theorem dX12_greatestOutcome_12 : decode cX12_greatestOutcome 12 = .ok (.iconst (-1), 1) := by decide +kernel
theorem dX12_greatestOutcome_13 : decode cX12_greatestOutcome 13 = .ok (.ireturn, 1) := by decide +kernel
theorem dX12_greatestOutcome_14 : decode cX12_greatestOutcome 14 = .ok (.aload_n 0, 1) := by decide +kernel
theorem dX12_greatestOutcome_15 : decode cX12_greatestOutcome 15 = .ok (.invokevirtual 250, 3) := by decide +kernel
theorem dX12_greatestOutcome_18 : decode cX12_greatestOutcome 18 = .ok (.bipush (-100), 2) := by decide +kernel
theorem dX12_greatestOutcome_20 : decode cX12_greatestOutcome 20 = .ok (.istore_n 2, 1) := by decide +kernel
theorem dX12_greatestOutcome_21 : decode cX12_greatestOutcome 21 = .ok (.iconst 0, 1) := by decide +kernel
theorem dX12_greatestOutcome_22 : decode cX12_greatestOutcome 22 = .ok (.istore_n 3, 1) := by decide +kernel
theorem dX12_greatestOutcome_23 : decode cX12_greatestOutcome 23 = .ok (.iload_n 3, 1) := by decide +kernel
theorem dX12_greatestOutcome_24 : decode cX12_greatestOutcome 24 = .ok (.aload_n 0, 1) := by decide +kernel
theorem dX12_greatestOutcome_25 : decode cX12_greatestOutcome 25 = .ok (.getfield 221, 3) := by decide +kernel
theorem dX12_greatestOutcome_28 : decode cX12_greatestOutcome 28 = .ok (.if_icmp .ge 34, 3) := by decide +kernel
theorem dX12_greatestOutcome_31 : decode cX12_greatestOutcome 31 = .ok (.aload_n 0, 1) := by decide +kernel
theorem dX12_greatestOutcome_32 : decode cX12_greatestOutcome 32 = .ok (.getfield 82, 3) := by decide +kernel
theorem dX12_greatestOutcome_35 : decode cX12_greatestOutcome 35 = .ok (.iload_n 3, 1) := by decide +kernel
theorem dX12_greatestOutcome_36 : decode cX12_greatestOutcome 36 = .ok (.laload, 1) := by decide +kernel
theorem dX12_greatestOutcome_37 : decode cX12_greatestOutcome 37 = .ok (.iload_n 1, 1) := by decide +kernel
theorem dX12_greatestOutcome_38 : decode cX12_greatestOutcome 38 = .ok (.invokestatic 228, 3) := by decide +kernel
theorem dX12_greatestOutcome_41 : decode cX12_greatestOutcome 41 = .ok (.istore 4, 2) := by decide +kernel
theorem dX12_greatestOutcome_43 : decode cX12_greatestOutcome 43 = .ok (.iload 4, 2) := by decide +kernel
theorem dX12_greatestOutcome_45 : decode cX12_greatestOutcome 45 = .ok (.iload_n 2, 1) := by decide +kernel
theorem dX12_greatestOutcome_46 : decode cX12_greatestOutcome 46 = .ok (.if_icmp .le 8, 3) := by decide +kernel
theorem dX12_greatestOutcome_49 : decode cX12_greatestOutcome 49 = .ok (.iload 4, 2) := by decide +kernel
theorem dX12_greatestOutcome_51 : decode cX12_greatestOutcome 51 = .ok (.goto 4, 3) := by decide +kernel
theorem dX12_greatestOutcome_54 : decode cX12_greatestOutcome 54 = .ok (.iload_n 2, 1) := by decide +kernel
theorem dX12_greatestOutcome_55 : decode cX12_greatestOutcome 55 = .ok (.istore_n 2, 1) := by decide +kernel
theorem dX12_greatestOutcome_56 : decode cX12_greatestOutcome 56 = .ok (.iinc 3 1, 3) := by decide +kernel
theorem dX12_greatestOutcome_59 : decode cX12_greatestOutcome 59 = .ok (.goto (-36), 3) := by decide +kernel
theorem dX12_greatestOutcome_62 : decode cX12_greatestOutcome 62 = .ok (.iload_n 2, 1) := by decide +kernel
theorem dX12_greatestOutcome_63 : decode cX12_greatestOutcome 63 = .ok (.bipush 100, 2) := by decide +kernel
theorem dX12_greatestOutcome_65 : decode cX12_greatestOutcome 65 = .ok (.iadd, 1) := by decide +kernel
theorem dX12_greatestOutcome_66 : decode cX12_greatestOutcome 66 = .ok (.ireturn, 1) := by decide +kernel
theorem dX12_command_0 : decode cX12_command 0 = .ok (.aload_n 0, 1) := by decide +kernel
theorem dX12_command_1 : decode cX12_command 1 = .ok (.iload_n 2, 1) := by decide +kernel
theorem dX12_command_2 : decode cX12_command 2 = .ok (.invokevirtual 195, 3) := by decide +kernel
theorem dX12_command_5 : decode cX12_command 5 = .ok (.ifCond .ne 7, 3) := by decide +kernel
theorem dX12_command_8 : decode cX12_command 8 = .ok (.iconst 1, 1) := by decide +kernel
theorem dX12_command_9 : decode cX12_command 9 = .ok (.goto 4, 3) := by decide +kernel
theorem dX12_command_12 : decode cX12_command 12 = .ok (.iconst 0, 1) := by decide +kernel
theorem dX12_command_13 : decode cX12_command 13 = .ok (.istore 4, 2) := by decide +kernel
theorem dX12_command_15 : decode cX12_command 15 = .ok (.iload_n 2, 1) := by decide +kernel
theorem dX12_command_16 : decode cX12_command 16 = .ok (.invokestatic 192, 3) := by decide +kernel
theorem dX12_command_19 : decode cX12_command 19 = .ok (.ifCond .ne 7, 3) := by decide +kernel
theorem dX12_command_22 : decode cX12_command 22 = .ok (.iconst 1, 1) := by decide +kernel
theorem dX12_command_23 : decode cX12_command 23 = .ok (.goto 4, 3) := by decide +kernel
theorem dX12_command_26 : decode cX12_command 26 = .ok (.iconst 0, 1) := by decide +kernel
theorem dX12_command_27 : decode cX12_command 27 = .ok (.istore 5, 2) := by decide +kernel
theorem dX12_command_29 : decode cX12_command 29 = .ok (.iload_n 1, 1) := by decide +kernel
theorem dX12_command_30 : decode cX12_command 30 = .ok (.tableswitch 207 1 5 #[34, 109, 135, 156, 180], 34) := by decide +kernel
theorem dX12_command_64 : decode cX12_command 64 = .ok (.iload 4, 2) := by decide +kernel
theorem dX12_command_66 : decode cX12_command 66 = .ok (.ifCond .eq 11, 3) := by decide +kernel
theorem dX12_command_69 : decode cX12_command 69 = .ok (.iload_n 3, 1) := by decide +kernel
theorem dX12_command_70 : decode cX12_command 70 = .ok (.ifCond .le 7, 3) := by decide +kernel
theorem dX12_command_73 : decode cX12_command 73 = .ok (.iconst 1, 1) := by decide +kernel
theorem dX12_command_74 : decode cX12_command 74 = .ok (.goto 4, 3) := by decide +kernel
theorem dX12_command_77 : decode cX12_command 77 = .ok (.iconst 0, 1) := by decide +kernel
theorem dX12_command_78 : decode cX12_command 78 = .ok (.istore 6, 2) := by decide +kernel
theorem dX12_command_80 : decode cX12_command 80 = .ok (.iconst 0, 1) := by decide +kernel
theorem dX12_command_81 : decode cX12_command 81 = .ok (.istore 7, 2) := by decide +kernel
theorem dX12_command_83 : decode cX12_command 83 = .ok (.iload 7, 2) := by decide +kernel
theorem dX12_command_85 : decode cX12_command 85 = .ok (.iload_n 3, 1) := by decide +kernel
theorem dX12_command_86 : decode cX12_command 86 = .ok (.if_icmp .ge 50, 3) := by decide +kernel
theorem dX12_command_89 : decode cX12_command 89 = .ok (.iload 6, 2) := by decide +kernel
theorem dX12_command_91 : decode cX12_command 91 = .ok (.ifCond .eq 45, 3) := by decide +kernel
theorem dX12_command_94 : decode cX12_command 94 = .ok (.aload_n 0, 1) := by decide +kernel
theorem dX12_command_95 : decode cX12_command 95 = .ok (.getfield 35, 3) := by decide +kernel
theorem dX12_command_98 : decode cX12_command 98 = .ok (.iload_n 2, 1) := by decide +kernel
theorem dX12_command_99 : decode cX12_command 99 = .ok (.invokestatic 88, 3) := by decide +kernel
theorem dX12_command_102 : decode cX12_command 102 = .ok (.iconst 0, 1) := by decide +kernel
theorem dX12_command_103 : decode cX12_command 103 = .ok (.iadd, 1) := by decide +kernel
theorem dX12_command_104 : decode cX12_command 104 = .ok (.iaload, 1) := by decide +kernel
theorem dX12_command_105 : decode cX12_command 105 = .ok (.ifCond .ne 7, 3) := by decide +kernel
theorem dX12_command_108 : decode cX12_command 108 = .ok (.iconst 1, 1) := by decide +kernel
theorem dX12_command_109 : decode cX12_command 109 = .ok (.goto 4, 3) := by decide +kernel
theorem dX12_command_112 : decode cX12_command 112 = .ok (.iconst 0, 1) := by decide +kernel
theorem dX12_command_113 : decode cX12_command 113 = .ok (.istore 6, 2) := by decide +kernel
theorem dX12_command_115 : decode cX12_command 115 = .ok (.iload 6, 2) := by decide +kernel
theorem dX12_command_117 : decode cX12_command 117 = .ok (.ifCond .eq 13, 3) := by decide +kernel
theorem dX12_command_120 : decode cX12_command 120 = .ok (.aload_n 0, 1) := by decide +kernel
theorem dX12_command_121 : decode cX12_command 121 = .ok (.aload_n 0, 1) := by decide +kernel
theorem dX12_command_122 : decode cX12_command 122 = .ok (.getfield 35, 3) := by decide +kernel
theorem dX12_command_125 : decode cX12_command 125 = .ok (.iload_n 2, 1) := by decide +kernel
theorem dX12_command_126 : decode cX12_command 126 = .ok (.invokevirtual 201, 3) := by decide +kernel
theorem dX12_command_129 : decode cX12_command 129 = .ok (.pop, 1) := by decide +kernel
theorem dX12_command_130 : decode cX12_command 130 = .ok (.iinc 7 1, 3) := by decide +kernel
theorem dX12_command_133 : decode cX12_command 133 = .ok (.goto (-50), 3) := by decide +kernel
theorem dX12_command_136 : decode cX12_command 136 = .ok (.iload 6, 2) := by decide +kernel
theorem dX12_command_138 : decode cX12_command 138 = .ok (.ireturn, 1) := by decide +kernel
theorem dX12_command_139 : decode cX12_command 139 = .ok (.iload 4, 2) := by decide +kernel
theorem dX12_command_141 : decode cX12_command 141 = .ok (.ifCond .eq 22, 3) := by decide +kernel
theorem dX12_command_144 : decode cX12_command 144 = .ok (.aload_n 0, 1) := by decide +kernel
theorem dX12_command_145 : decode cX12_command 145 = .ok (.getfield 35, 3) := by decide +kernel
theorem dX12_command_148 : decode cX12_command 148 = .ok (.iload_n 2, 1) := by decide +kernel
theorem dX12_command_149 : decode cX12_command 149 = .ok (.invokestatic 88, 3) := by decide +kernel
theorem dX12_command_152 : decode cX12_command 152 = .ok (.iconst 0, 1) := by decide +kernel
theorem dX12_command_153 : decode cX12_command 153 = .ok (.iadd, 1) := by decide +kernel
theorem dX12_command_154 : decode cX12_command 154 = .ok (.iaload, 1) := by decide +kernel
theorem dX12_command_155 : decode cX12_command 155 = .ok (.iload_n 3, 1) := by decide +kernel
theorem dX12_command_156 : decode cX12_command 156 = .ok (.if_icmp .ne 7, 3) := by decide +kernel
theorem dX12_command_159 : decode cX12_command 159 = .ok (.iconst 1, 1) := by decide +kernel
theorem dX12_command_160 : decode cX12_command 160 = .ok (.goto 4, 3) := by decide +kernel
theorem dX12_command_163 : decode cX12_command 163 = .ok (.iconst 0, 1) := by decide +kernel
theorem dX12_command_164 : decode cX12_command 164 = .ok (.ireturn, 1) := by decide +kernel
theorem dX12_command_165 : decode cX12_command 165 = .ok (.iload 5, 2) := by decide +kernel
theorem dX12_command_167 : decode cX12_command 167 = .ok (.ifCond .eq 17, 3) := by decide +kernel
theorem dX12_command_170 : decode cX12_command 170 = .ok (.aload_n 0, 1) := by decide +kernel
theorem dX12_command_171 : decode cX12_command 171 = .ok (.getfield 35, 3) := by decide +kernel
theorem dX12_command_174 : decode cX12_command 174 = .ok (.iload_n 2, 1) := by decide +kernel
theorem dX12_command_175 : decode cX12_command 175 = .ok (.iaload, 1) := by decide +kernel
theorem dX12_command_176 : decode cX12_command 176 = .ok (.iload_n 3, 1) := by decide +kernel
theorem dX12_command_177 : decode cX12_command 177 = .ok (.if_icmp .ne 7, 3) := by decide +kernel
theorem dX12_command_180 : decode cX12_command 180 = .ok (.iconst 1, 1) := by decide +kernel
theorem dX12_command_181 : decode cX12_command 181 = .ok (.goto 4, 3) := by decide +kernel
theorem dX12_command_184 : decode cX12_command 184 = .ok (.iconst 0, 1) := by decide +kernel
theorem dX12_command_185 : decode cX12_command 185 = .ok (.ireturn, 1) := by decide +kernel
theorem dX12_command_186 : decode cX12_command 186 = .ok (.iload 5, 2) := by decide +kernel
theorem dX12_command_188 : decode cX12_command 188 = .ok (.ifCond .eq 20, 3) := by decide +kernel
theorem dX12_command_191 : decode cX12_command 191 = .ok (.aload_n 0, 1) := by decide +kernel
theorem dX12_command_192 : decode cX12_command 192 = .ok (.getfield 35, 3) := by decide +kernel
theorem dX12_command_195 : decode cX12_command 195 = .ok (.bipush 6, 2) := by decide +kernel
theorem dX12_command_197 : decode cX12_command 197 = .ok (.iload_n 2, 1) := by decide +kernel
theorem dX12_command_198 : decode cX12_command 198 = .ok (.iadd, 1) := by decide +kernel
theorem dX12_command_199 : decode cX12_command 199 = .ok (.iaload, 1) := by decide +kernel
theorem dX12_command_200 : decode cX12_command 200 = .ok (.iload_n 3, 1) := by decide +kernel
theorem dX12_command_201 : decode cX12_command 201 = .ok (.if_icmp .ne 7, 3) := by decide +kernel
theorem dX12_command_204 : decode cX12_command 204 = .ok (.iconst 1, 1) := by decide +kernel
theorem dX12_command_205 : decode cX12_command 205 = .ok (.goto 4, 3) := by decide +kernel
theorem dX12_command_208 : decode cX12_command 208 = .ok (.iconst 0, 1) := by decide +kernel
theorem dX12_command_209 : decode cX12_command 209 = .ok (.ireturn, 1) := by decide +kernel
theorem dX12_command_210 : decode cX12_command 210 = .ok (.iload 4, 2) := by decide +kernel
theorem dX12_command_212 : decode cX12_command 212 = .ok (.ifCond .eq 23, 3) := by decide +kernel
theorem dX12_command_215 : decode cX12_command 215 = .ok (.aload_n 0, 1) := by decide +kernel
theorem dX12_command_216 : decode cX12_command 216 = .ok (.getfield 35, 3) := by decide +kernel
theorem dX12_command_219 : decode cX12_command 219 = .ok (.iload_n 2, 1) := by decide +kernel
theorem dX12_command_220 : decode cX12_command 220 = .ok (.invokestatic 88, 3) := by decide +kernel
theorem dX12_command_223 : decode cX12_command 223 = .ok (.bipush 48, 2) := by decide +kernel
theorem dX12_command_225 : decode cX12_command 225 = .ok (.iadd, 1) := by decide +kernel
theorem dX12_command_226 : decode cX12_command 226 = .ok (.iaload, 1) := by decide +kernel
theorem dX12_command_227 : decode cX12_command 227 = .ok (.iload_n 3, 1) := by decide +kernel
theorem dX12_command_228 : decode cX12_command 228 = .ok (.if_icmp .ne 7, 3) := by decide +kernel
theorem dX12_command_231 : decode cX12_command 231 = .ok (.iconst 1, 1) := by decide +kernel
theorem dX12_command_232 : decode cX12_command 232 = .ok (.goto 4, 3) := by decide +kernel
theorem dX12_command_235 : decode cX12_command 235 = .ok (.iconst 0, 1) := by decide +kernel
theorem dX12_command_236 : decode cX12_command 236 = .ok (.ireturn, 1) := by decide +kernel
theorem dX12_command_237 : decode cX12_command 237 = .ok (.iconst 0, 1) := by decide +kernel
theorem dX12_command_238 : decode cX12_command 238 = .ok (.ireturn, 1) := by decide +kernel
theorem dX12_thousands_0 : decode cX12_thousands 0 = .ok (.lconst 1, 1) := by decide +kernel
theorem dX12_thousands_1 : decode cX12_thousands 1 = .ok (.lstore_n 1, 1) := by decide +kernel
theorem dX12_thousands_2 : decode cX12_thousands 2 = .ok (.iconst 0, 1) := by decide +kernel
theorem dX12_thousands_3 : decode cX12_thousands 3 = .ok (.istore_n 3, 1) := by decide +kernel
theorem dX12_thousands_4 : decode cX12_thousands 4 = .ok (.iload_n 3, 1) := by decide +kernel
theorem dX12_thousands_5 : decode cX12_thousands 5 = .ok (.iload_n 0, 1) := by decide +kernel
theorem dX12_thousands_6 : decode cX12_thousands 6 = .ok (.if_icmp .ge 15, 3) := by decide +kernel
theorem dX12_thousands_9 : decode cX12_thousands 9 = .ok (.lload_n 1, 1) := by decide +kernel
theorem dX12_thousands_10 : decode cX12_thousands 10 = .ok (.ldc2_w 258, 3) := by decide +kernel
theorem dX12_thousands_13 : decode cX12_thousands 13 = .ok (.lmul, 1) := by decide +kernel
theorem dX12_thousands_14 : decode cX12_thousands 14 = .ok (.lstore_n 1, 1) := by decide +kernel
theorem dX12_thousands_15 : decode cX12_thousands 15 = .ok (.iinc 3 1, 3) := by decide +kernel
theorem dX12_thousands_18 : decode cX12_thousands 18 = .ok (.goto (-14), 3) := by decide +kernel
theorem dX12_thousands_21 : decode cX12_thousands 21 = .ok (.lload_n 1, 1) := by decide +kernel
theorem dX12_thousands_22 : decode cX12_thousands 22 = .ok (.lreturn, 1) := by decide +kernel
theorem dX12_runScript_0 : decode cX12_runScript 0 = .ok (.aload_n 0, 1) := by decide +kernel
theorem dX12_runScript_1 : decode cX12_runScript 1 = .ok (.iconst 0, 1) := by decide +kernel
theorem dX12_runScript_2 : decode cX12_runScript 2 = .ok (.putfield 85, 3) := by decide +kernel
theorem dX12_runScript_5 : decode cX12_runScript 5 = .ok (.iload_n 1, 1) := by decide +kernel
theorem dX12_runScript_6 : decode cX12_runScript 6 = .ok (.i2l, 1) := by decide +kernel
theorem dX12_runScript_7 : decode cX12_runScript 7 = .ok (.lconst 1, 1) := by decide +kernel
theorem dX12_runScript_8 : decode cX12_runScript 8 = .ok (.ldc2_w 260, 3) := by decide +kernel
theorem dX12_runScript_11 : decode cX12_runScript 11 = .ok (.invokestatic 148, 3) := by decide +kernel
theorem dX12_runScript_14 : decode cX12_runScript 14 = .ok (.ifCond .eq 17, 3) := by decide +kernel
theorem dX12_runScript_17 : decode cX12_runScript 17 = .ok (.lload_n 2, 1) := by decide +kernel
theorem dX12_runScript_18 : decode cX12_runScript 18 = .ok (.lconst 0, 1) := by decide +kernel
theorem dX12_runScript_19 : decode cX12_runScript 19 = .ok (.iload_n 1, 1) := by decide +kernel
theorem dX12_runScript_20 : decode cX12_runScript 20 = .ok (.invokestatic 262, 3) := by decide +kernel
theorem dX12_runScript_23 : decode cX12_runScript 23 = .ok (.lconst 1, 1) := by decide +kernel
theorem dX12_runScript_24 : decode cX12_runScript 24 = .ok (.lsub, 1) := by decide +kernel
theorem dX12_runScript_25 : decode cX12_runScript 25 = .ok (.invokestatic 148, 3) := by decide +kernel
theorem dX12_runScript_28 : decode cX12_runScript 28 = .ok (.ifCond .ne 6, 3) := by decide +kernel
theorem dX12_runScript_31 : decode cX12_runScript 31 = .ok (.bipush (-2), 2) := by decide +kernel
theorem dX12_runScript_33 : decode cX12_runScript 33 = .ok (.ireturn, 1) := by decide +kernel
theorem dX12_runScript_34 : decode cX12_runScript 34 = .ok (.aload_n 0, 1) := by decide +kernel
theorem dX12_runScript_35 : decode cX12_runScript 35 = .ok (.getfield 32, 3) := by decide +kernel
theorem dX12_runScript_38 : decode cX12_runScript 38 = .ok (.aload_n 0, 1) := by decide +kernel
theorem dX12_runScript_39 : decode cX12_runScript 39 = .ok (.getfield 35, 3) := by decide +kernel
theorem dX12_runScript_42 : decode cX12_runScript 42 = .ok (.invokestatic 224, 3) := by decide +kernel
theorem dX12_runScript_45 : decode cX12_runScript 45 = .ok (.iconst 0, 1) := by decide +kernel
theorem dX12_runScript_46 : decode cX12_runScript 46 = .ok (.istore 4, 2) := by decide +kernel
theorem dX12_runScript_48 : decode cX12_runScript 48 = .ok (.iload 4, 2) := by decide +kernel
theorem dX12_runScript_50 : decode cX12_runScript 50 = .ok (.iload_n 1, 1) := by decide +kernel
theorem dX12_runScript_51 : decode cX12_runScript 51 = .ok (.if_icmp .ge 55, 3) := by decide +kernel
theorem dX12_runScript_54 : decode cX12_runScript 54 = .ok (.lload_n 2, 1) := by decide +kernel
theorem dX12_runScript_55 : decode cX12_runScript 55 = .ok (.iload_n 1, 1) := by decide +kernel
theorem dX12_runScript_56 : decode cX12_runScript 56 = .ok (.iconst 1, 1) := by decide +kernel
theorem dX12_runScript_57 : decode cX12_runScript 57 = .ok (.isub, 1) := by decide +kernel
theorem dX12_runScript_58 : decode cX12_runScript 58 = .ok (.iload 4, 2) := by decide +kernel
theorem dX12_runScript_60 : decode cX12_runScript 60 = .ok (.isub, 1) := by decide +kernel
theorem dX12_runScript_61 : decode cX12_runScript 61 = .ok (.invokestatic 262, 3) := by decide +kernel
theorem dX12_runScript_64 : decode cX12_runScript 64 = .ok (.ldiv, 1) := by decide +kernel
theorem dX12_runScript_65 : decode cX12_runScript 65 = .ok (.ldc2_w 258, 3) := by decide +kernel
theorem dX12_runScript_68 : decode cX12_runScript 68 = .ok (.lrem, 1) := by decide +kernel
theorem dX12_runScript_69 : decode cX12_runScript 69 = .ok (.l2i, 1) := by decide +kernel
theorem dX12_runScript_70 : decode cX12_runScript 70 = .ok (.istore 5, 2) := by decide +kernel
theorem dX12_runScript_72 : decode cX12_runScript 72 = .ok (.aload_n 0, 1) := by decide +kernel
theorem dX12_runScript_73 : decode cX12_runScript 73 = .ok (.iload 5, 2) := by decide +kernel
theorem dX12_runScript_75 : decode cX12_runScript 75 = .ok (.bipush 100, 2) := by decide +kernel
theorem dX12_runScript_77 : decode cX12_runScript 77 = .ok (.idiv, 1) := by decide +kernel
theorem dX12_runScript_78 : decode cX12_runScript 78 = .ok (.iload 5, 2) := by decide +kernel
theorem dX12_runScript_80 : decode cX12_runScript 80 = .ok (.bipush 10, 2) := by decide +kernel
theorem dX12_runScript_82 : decode cX12_runScript 82 = .ok (.idiv, 1) := by decide +kernel
theorem dX12_runScript_83 : decode cX12_runScript 83 = .ok (.bipush 10, 2) := by decide +kernel
theorem dX12_runScript_85 : decode cX12_runScript 85 = .ok (.irem, 1) := by decide +kernel
theorem dX12_runScript_86 : decode cX12_runScript 86 = .ok (.iload 5, 2) := by decide +kernel
theorem dX12_runScript_88 : decode cX12_runScript 88 = .ok (.bipush 10, 2) := by decide +kernel
theorem dX12_runScript_90 : decode cX12_runScript 90 = .ok (.irem, 1) := by decide +kernel
theorem dX12_runScript_91 : decode cX12_runScript 91 = .ok (.invokevirtual 266, 3) := by decide +kernel
theorem dX12_runScript_94 : decode cX12_runScript 94 = .ok (.ifCond .ne 6, 3) := by decide +kernel
theorem dX12_runScript_97 : decode cX12_runScript 97 = .ok (.iload 4, 2) := by decide +kernel
theorem dX12_runScript_99 : decode cX12_runScript 99 = .ok (.ireturn, 1) := by decide +kernel
theorem dX12_runScript_100 : decode cX12_runScript 100 = .ok (.iinc 4 1, 3) := by decide +kernel
theorem dX12_runScript_103 : decode cX12_runScript 103 = .ok (.goto (-55), 3) := by decide +kernel
theorem dX12_runScript_106 : decode cX12_runScript 106 = .ok (.bipush (-9), 2) := by decide +kernel
theorem dX12_runScript_108 : decode cX12_runScript 108 = .ok (.ireturn, 1) := by decide +kernel
theorem dX12_observe_0 : decode cX12_observe 0 = .ok (.aload_n 0, 1) := by decide +kernel
theorem dX12_observe_1 : decode cX12_observe 1 = .ok (.iconst 0, 1) := by decide +kernel
theorem dX12_observe_2 : decode cX12_observe 2 = .ok (.putfield 85, 3) := by decide +kernel
theorem dX12_observe_5 : decode cX12_observe 5 = .ok (.iload_n 1, 1) := by decide +kernel
theorem dX12_observe_6 : decode cX12_observe 6 = .ok (.invokestatic 192, 3) := by decide +kernel
theorem dX12_observe_9 : decode cX12_observe 9 = .ok (.ifCond .eq 5, 3) := by decide +kernel
theorem dX12_observe_12 : decode cX12_observe 12 = .ok (.iconst (-1), 1) := by decide +kernel
theorem dX12_observe_13 : decode cX12_observe 13 = .ok (.ireturn, 1) := by decide +kernel
theorem dX12_observe_14 : decode cX12_observe 14 = .ok (.iload_n 2, 1) := by decide +kernel
theorem dX12_observe_15 : decode cX12_observe 15 = .ok (.i2l, 1) := by decide +kernel
theorem dX12_observe_16 : decode cX12_observe 16 = .ok (.ldc2_w 204, 3) := by decide +kernel
theorem dX12_observe_19 : decode cX12_observe 19 = .ok (.ldc2_w 206, 3) := by decide +kernel
theorem dX12_observe_22 : decode cX12_observe 22 = .ok (.invokestatic 148, 3) := by decide +kernel
theorem dX12_observe_25 : decode cX12_observe 25 = .ok (.ifCond .ne 6, 3) := by decide +kernel
theorem dX12_observe_28 : decode cX12_observe 28 = .ok (.bipush (-2), 2) := by decide +kernel
theorem dX12_observe_30 : decode cX12_observe 30 = .ok (.ireturn, 1) := by decide +kernel
theorem dX12_observe_31 : decode cX12_observe 31 = .ok (.aload_n 0, 1) := by decide +kernel
theorem dX12_observe_32 : decode cX12_observe 32 = .ok (.getfield 253, 3) := by decide +kernel
theorem dX12_observe_35 : decode cX12_observe 35 = .ok (.iconst 4, 1) := by decide +kernel
theorem dX12_observe_36 : decode cX12_observe 36 = .ok (.if_icmp .ne 54, 3) := by decide +kernel
theorem dX12_observe_39 : decode cX12_observe 39 = .ok (.iconst 0, 1) := by decide +kernel
theorem dX12_observe_40 : decode cX12_observe 40 = .ok (.istore_n 3, 1) := by decide +kernel
theorem dX12_observe_41 : decode cX12_observe 41 = .ok (.iload_n 3, 1) := by decide +kernel
theorem dX12_observe_42 : decode cX12_observe 42 = .ok (.iconst 3, 1) := by decide +kernel
theorem dX12_observe_43 : decode cX12_observe 43 = .ok (.if_icmp .ge 37, 3) := by decide +kernel
theorem dX12_observe_46 : decode cX12_observe 46 = .ok (.aload_n 0, 1) := by decide +kernel
theorem dX12_observe_47 : decode cX12_observe 47 = .ok (.getfield 48, 3) := by decide +kernel
theorem dX12_observe_50 : decode cX12_observe 50 = .ok (.iload_n 3, 1) := by decide +kernel
theorem dX12_observe_51 : decode cX12_observe 51 = .ok (.aload_n 0, 1) := by decide +kernel
theorem dX12_observe_52 : decode cX12_observe 52 = .ok (.getfield 48, 3) := by decide +kernel
theorem dX12_observe_55 : decode cX12_observe 55 = .ok (.iload_n 3, 1) := by decide +kernel
theorem dX12_observe_56 : decode cX12_observe 56 = .ok (.iconst 1, 1) := by decide +kernel
theorem dX12_observe_57 : decode cX12_observe 57 = .ok (.iadd, 1) := by decide +kernel
theorem dX12_observe_58 : decode cX12_observe 58 = .ok (.iaload, 1) := by decide +kernel
theorem dX12_observe_59 : decode cX12_observe 59 = .ok (.iastore, 1) := by decide +kernel
theorem dX12_observe_60 : decode cX12_observe 60 = .ok (.aload_n 0, 1) := by decide +kernel
theorem dX12_observe_61 : decode cX12_observe 61 = .ok (.getfield 51, 3) := by decide +kernel
theorem dX12_observe_64 : decode cX12_observe 64 = .ok (.iload_n 3, 1) := by decide +kernel
theorem dX12_observe_65 : decode cX12_observe 65 = .ok (.aload_n 0, 1) := by decide +kernel
theorem dX12_observe_66 : decode cX12_observe 66 = .ok (.getfield 51, 3) := by decide +kernel
theorem dX12_observe_69 : decode cX12_observe 69 = .ok (.iload_n 3, 1) := by decide +kernel
theorem dX12_observe_70 : decode cX12_observe 70 = .ok (.iconst 1, 1) := by decide +kernel
theorem dX12_observe_71 : decode cX12_observe 71 = .ok (.iadd, 1) := by decide +kernel
theorem dX12_observe_72 : decode cX12_observe 72 = .ok (.iaload, 1) := by decide +kernel
theorem dX12_observe_73 : decode cX12_observe 73 = .ok (.iastore, 1) := by decide +kernel
theorem dX12_observe_74 : decode cX12_observe 74 = .ok (.iinc 3 1, 3) := by decide +kernel
theorem dX12_observe_77 : decode cX12_observe 77 = .ok (.goto (-36), 3) := by decide +kernel
theorem dX12_observe_80 : decode cX12_observe 80 = .ok (.aload_n 0, 1) := by decide +kernel
theorem dX12_observe_81 : decode cX12_observe 81 = .ok (.dup, 1) := by decide +kernel
theorem dX12_observe_82 : decode cX12_observe 82 = .ok (.getfield 253, 3) := by decide +kernel
theorem dX12_observe_85 : decode cX12_observe 85 = .ok (.iconst 1, 1) := by decide +kernel
theorem dX12_observe_86 : decode cX12_observe 86 = .ok (.isub, 1) := by decide +kernel
theorem dX12_observe_87 : decode cX12_observe 87 = .ok (.putfield 253, 3) := by decide +kernel
theorem dX12_observe_90 : decode cX12_observe 90 = .ok (.aload_n 0, 1) := by decide +kernel
theorem dX12_observe_91 : decode cX12_observe 91 = .ok (.getfield 48, 3) := by decide +kernel
theorem dX12_observe_94 : decode cX12_observe 94 = .ok (.aload_n 0, 1) := by decide +kernel
theorem dX12_observe_95 : decode cX12_observe 95 = .ok (.getfield 253, 3) := by decide +kernel
theorem dX12_observe_98 : decode cX12_observe 98 = .ok (.iload_n 1, 1) := by decide +kernel
theorem dX12_observe_99 : decode cX12_observe 99 = .ok (.iastore, 1) := by decide +kernel
theorem dX12_observe_100 : decode cX12_observe 100 = .ok (.aload_n 0, 1) := by decide +kernel
theorem dX12_observe_101 : decode cX12_observe 101 = .ok (.getfield 51, 3) := by decide +kernel
theorem dX12_observe_104 : decode cX12_observe 104 = .ok (.aload_n 0, 1) := by decide +kernel
theorem dX12_observe_105 : decode cX12_observe 105 = .ok (.getfield 253, 3) := by decide +kernel
theorem dX12_observe_108 : decode cX12_observe 108 = .ok (.iload_n 2, 1) := by decide +kernel
theorem dX12_observe_109 : decode cX12_observe 109 = .ok (.iastore, 1) := by decide +kernel
theorem dX12_observe_110 : decode cX12_observe 110 = .ok (.aload_n 0, 1) := by decide +kernel
theorem dX12_observe_111 : decode cX12_observe 111 = .ok (.dup, 1) := by decide +kernel
theorem dX12_observe_112 : decode cX12_observe 112 = .ok (.getfield 253, 3) := by decide +kernel
theorem dX12_observe_115 : decode cX12_observe 115 = .ok (.iconst 1, 1) := by decide +kernel
theorem dX12_observe_116 : decode cX12_observe 116 = .ok (.iadd, 1) := by decide +kernel
theorem dX12_observe_117 : decode cX12_observe 117 = .ok (.putfield 253, 3) := by decide +kernel
theorem dX12_observe_120 : decode cX12_observe 120 = .ok (.aload_n 0, 1) := by decide +kernel
theorem dX12_observe_121 : decode cX12_observe 121 = .ok (.getfield 253, 3) := by decide +kernel
theorem dX12_observe_124 : decode cX12_observe 124 = .ok (.ireturn, 1) := by decide +kernel
theorem dX12_doneThreads_0 : decode cX12_doneThreads 0 = .ok (.iconst 0, 1) := by decide +kernel
theorem dX12_doneThreads_1 : decode cX12_doneThreads 1 = .ok (.istore_n 1, 1) := by decide +kernel
theorem dX12_doneThreads_2 : decode cX12_doneThreads 2 = .ok (.iconst 0, 1) := by decide +kernel
theorem dX12_doneThreads_3 : decode cX12_doneThreads 3 = .ok (.istore_n 2, 1) := by decide +kernel
theorem dX12_doneThreads_4 : decode cX12_doneThreads 4 = .ok (.iload_n 2, 1) := by decide +kernel
theorem dX12_doneThreads_5 : decode cX12_doneThreads 5 = .ok (.aload_n 0, 1) := by decide +kernel
theorem dX12_doneThreads_6 : decode cX12_doneThreads 6 = .ok (.getfield 13, 3) := by decide +kernel
theorem dX12_doneThreads_9 : decode cX12_doneThreads 9 = .ok (.if_icmp .ge 32, 3) := by decide +kernel
theorem dX12_doneThreads_12 : decode cX12_doneThreads 12 = .ok (.iload_n 1, 1) := by decide +kernel
theorem dX12_doneThreads_13 : decode cX12_doneThreads 13 = .ok (.aload_n 0, 1) := by decide +kernel
theorem dX12_doneThreads_14 : decode cX12_doneThreads 14 = .ok (.getfield 32, 3) := by decide +kernel
theorem dX12_doneThreads_17 : decode cX12_doneThreads 17 = .ok (.iload_n 2, 1) := by decide +kernel
theorem dX12_doneThreads_18 : decode cX12_doneThreads 18 = .ok (.invokestatic 88, 3) := by decide +kernel
theorem dX12_doneThreads_21 : decode cX12_doneThreads 21 = .ok (.iconst 0, 1) := by decide +kernel
theorem dX12_doneThreads_22 : decode cX12_doneThreads 22 = .ok (.iadd, 1) := by decide +kernel
theorem dX12_doneThreads_23 : decode cX12_doneThreads 23 = .ok (.iaload, 1) := by decide +kernel
theorem dX12_doneThreads_24 : decode cX12_doneThreads 24 = .ok (.iconst 2, 1) := by decide +kernel
theorem dX12_doneThreads_25 : decode cX12_doneThreads 25 = .ok (.if_icmp .ne 7, 3) := by decide +kernel
theorem dX12_doneThreads_28 : decode cX12_doneThreads 28 = .ok (.iconst 1, 1) := by decide +kernel
theorem dX12_doneThreads_29 : decode cX12_doneThreads 29 = .ok (.goto 4, 3) := by decide +kernel
theorem dX12_doneThreads_32 : decode cX12_doneThreads 32 = .ok (.iconst 0, 1) := by decide +kernel
theorem dX12_doneThreads_33 : decode cX12_doneThreads 33 = .ok (.iadd, 1) := by decide +kernel
theorem dX12_doneThreads_34 : decode cX12_doneThreads 34 = .ok (.istore_n 1, 1) := by decide +kernel
theorem dX12_doneThreads_35 : decode cX12_doneThreads 35 = .ok (.iinc 2 1, 3) := by decide +kernel
theorem dX12_doneThreads_38 : decode cX12_doneThreads 38 = .ok (.goto (-34), 3) := by decide +kernel
theorem dX12_doneThreads_41 : decode cX12_doneThreads 41 = .ok (.iload_n 1, 1) := by decide +kernel
theorem dX12_doneThreads_42 : decode cX12_doneThreads 42 = .ok (.ireturn, 1) := by decide +kernel
theorem dX12_save_0 : decode cX12_save 0 = .ok (.aload_n 0, 1) := by decide +kernel
theorem dX12_save_1 : decode cX12_save 1 = .ok (.iconst 0, 1) := by decide +kernel
theorem dX12_save_2 : decode cX12_save 2 = .ok (.putfield 85, 3) := by decide +kernel
theorem dX12_save_5 : decode cX12_save 5 = .ok (.iload_n 1, 1) := by decide +kernel
theorem dX12_save_6 : decode cX12_save 6 = .ok (.i2l, 1) := by decide +kernel
theorem dX12_save_7 : decode cX12_save 7 = .ok (.lconst 0, 1) := by decide +kernel
theorem dX12_save_8 : decode cX12_save 8 = .ok (.lconst 1, 1) := by decide +kernel
theorem dX12_save_9 : decode cX12_save 9 = .ok (.invokestatic 148, 3) := by decide +kernel
theorem dX12_save_12 : decode cX12_save 12 = .ok (.ifCond .ne 5, 3) := by decide +kernel
theorem dX12_save_15 : decode cX12_save 15 = .ok (.iconst (-1), 1) := by decide +kernel
theorem dX12_save_16 : decode cX12_save 16 = .ok (.ireturn, 1) := by decide +kernel
theorem dX12_save_17 : decode cX12_save 17 = .ok (.aload_n 0, 1) := by decide +kernel
theorem dX12_save_18 : decode cX12_save 18 = .ok (.getfield 44, 3) := by decide +kernel
theorem dX12_save_21 : decode cX12_save 21 = .ok (.iload_n 1, 1) := by decide +kernel
theorem dX12_save_22 : decode cX12_save 22 = .ok (.iconst 1, 1) := by decide +kernel
theorem dX12_save_23 : decode cX12_save 23 = .ok (.bastore, 1) := by decide +kernel
theorem dX12_save_24 : decode cX12_save 24 = .ok (.iconst 0, 1) := by decide +kernel
theorem dX12_save_25 : decode cX12_save 25 = .ok (.istore_n 2, 1) := by decide +kernel
theorem dX12_save_26 : decode cX12_save 26 = .ok (.iload_n 2, 1) := by decide +kernel
theorem dX12_save_27 : decode cX12_save 27 = .ok (.sipush 172, 3) := by decide +kernel
theorem dX12_save_30 : decode cX12_save 30 = .ok (.if_icmp .ge 27, 3) := by decide +kernel
theorem dX12_save_33 : decode cX12_save 33 = .ok (.aload_n 0, 1) := by decide +kernel
theorem dX12_save_34 : decode cX12_save 34 = .ok (.getfield 41, 3) := by decide +kernel
theorem dX12_save_37 : decode cX12_save 37 = .ok (.sipush 172, 3) := by decide +kernel
theorem dX12_save_40 : decode cX12_save 40 = .ok (.iload_n 1, 1) := by decide +kernel
theorem dX12_save_41 : decode cX12_save 41 = .ok (.imul, 1) := by decide +kernel
theorem dX12_save_42 : decode cX12_save 42 = .ok (.iload_n 2, 1) := by decide +kernel
theorem dX12_save_43 : decode cX12_save 43 = .ok (.iadd, 1) := by decide +kernel
theorem dX12_save_44 : decode cX12_save 44 = .ok (.aload_n 0, 1) := by decide +kernel
theorem dX12_save_45 : decode cX12_save 45 = .ok (.getfield 32, 3) := by decide +kernel
theorem dX12_save_48 : decode cX12_save 48 = .ok (.iload_n 2, 1) := by decide +kernel
theorem dX12_save_49 : decode cX12_save 49 = .ok (.iaload, 1) := by decide +kernel
theorem dX12_save_50 : decode cX12_save 50 = .ok (.iastore, 1) := by decide +kernel
theorem dX12_save_51 : decode cX12_save 51 = .ok (.iinc 2 1, 3) := by decide +kernel
theorem dX12_save_54 : decode cX12_save 54 = .ok (.goto (-28), 3) := by decide +kernel
theorem dX12_save_57 : decode cX12_save 57 = .ok (.aload_n 0, 1) := by decide +kernel
theorem dX12_save_58 : decode cX12_save 58 = .ok (.invokevirtual 270, 3) := by decide +kernel
theorem dX12_save_61 : decode cX12_save 61 = .ok (.ireturn, 1) := by decide +kernel
theorem dX12_restore_0 : decode cX12_restore 0 = .ok (.aload_n 0, 1) := by decide +kernel
theorem dX12_restore_1 : decode cX12_restore 1 = .ok (.iconst 0, 1) := by decide +kernel
theorem dX12_restore_2 : decode cX12_restore 2 = .ok (.putfield 85, 3) := by decide +kernel
theorem dX12_restore_5 : decode cX12_restore 5 = .ok (.iload_n 1, 1) := by decide +kernel
theorem dX12_restore_6 : decode cX12_restore 6 = .ok (.i2l, 1) := by decide +kernel
theorem dX12_restore_7 : decode cX12_restore 7 = .ok (.lconst 0, 1) := by decide +kernel
theorem dX12_restore_8 : decode cX12_restore 8 = .ok (.lconst 1, 1) := by decide +kernel
theorem dX12_restore_9 : decode cX12_restore 9 = .ok (.invokestatic 148, 3) := by decide +kernel
theorem dX12_restore_12 : decode cX12_restore 12 = .ok (.ifCond .ne 5, 3) := by decide +kernel
theorem dX12_restore_15 : decode cX12_restore 15 = .ok (.iconst (-1), 1) := by decide +kernel
theorem dX12_restore_16 : decode cX12_restore 16 = .ok (.ireturn, 1) := by decide +kernel
theorem dX12_restore_17 : decode cX12_restore 17 = .ok (.aload_n 0, 1) := by decide +kernel
theorem dX12_restore_18 : decode cX12_restore 18 = .ok (.getfield 44, 3) := by decide +kernel
theorem dX12_restore_21 : decode cX12_restore 21 = .ok (.iload_n 1, 1) := by decide +kernel
theorem dX12_restore_22 : decode cX12_restore 22 = .ok (.baload, 1) := by decide +kernel
theorem dX12_restore_23 : decode cX12_restore 23 = .ok (.ifCond .ne 6, 3) := by decide +kernel
theorem dX12_restore_26 : decode cX12_restore 26 = .ok (.bipush (-3), 2) := by decide +kernel
theorem dX12_restore_28 : decode cX12_restore 28 = .ok (.ireturn, 1) := by decide +kernel
theorem dX12_restore_29 : decode cX12_restore 29 = .ok (.iconst 0, 1) := by decide +kernel
theorem dX12_restore_30 : decode cX12_restore 30 = .ok (.istore_n 2, 1) := by decide +kernel
theorem dX12_restore_31 : decode cX12_restore 31 = .ok (.iload_n 2, 1) := by decide +kernel
theorem dX12_restore_32 : decode cX12_restore 32 = .ok (.sipush 172, 3) := by decide +kernel
theorem dX12_restore_35 : decode cX12_restore 35 = .ok (.if_icmp .ge 27, 3) := by decide +kernel
theorem dX12_restore_38 : decode cX12_restore 38 = .ok (.aload_n 0, 1) := by decide +kernel
theorem dX12_restore_39 : decode cX12_restore 39 = .ok (.getfield 32, 3) := by decide +kernel
theorem dX12_restore_42 : decode cX12_restore 42 = .ok (.iload_n 2, 1) := by decide +kernel
theorem dX12_restore_43 : decode cX12_restore 43 = .ok (.aload_n 0, 1) := by decide +kernel
theorem dX12_restore_44 : decode cX12_restore 44 = .ok (.getfield 41, 3) := by decide +kernel
theorem dX12_restore_47 : decode cX12_restore 47 = .ok (.sipush 172, 3) := by decide +kernel
theorem dX12_restore_50 : decode cX12_restore 50 = .ok (.iload_n 1, 1) := by decide +kernel
theorem dX12_restore_51 : decode cX12_restore 51 = .ok (.imul, 1) := by decide +kernel
theorem dX12_restore_52 : decode cX12_restore 52 = .ok (.iload_n 2, 1) := by decide +kernel
theorem dX12_restore_53 : decode cX12_restore 53 = .ok (.iadd, 1) := by decide +kernel
theorem dX12_restore_54 : decode cX12_restore 54 = .ok (.iaload, 1) := by decide +kernel
theorem dX12_restore_55 : decode cX12_restore 55 = .ok (.iastore, 1) := by decide +kernel
theorem dX12_restore_56 : decode cX12_restore 56 = .ok (.iinc 2 1, 3) := by decide +kernel
theorem dX12_restore_59 : decode cX12_restore 59 = .ok (.goto (-28), 3) := by decide +kernel
theorem dX12_restore_62 : decode cX12_restore 62 = .ok (.aload_n 0, 1) := by decide +kernel
theorem dX12_restore_63 : decode cX12_restore 63 = .ok (.iconst 0, 1) := by decide +kernel
theorem dX12_restore_64 : decode cX12_restore 64 = .ok (.putfield 187, 3) := by decide +kernel
theorem dX12_restore_67 : decode cX12_restore 67 = .ok (.aload_n 0, 1) := by decide +kernel
theorem dX12_restore_68 : decode cX12_restore 68 = .ok (.invokevirtual 270, 3) := by decide +kernel
theorem dX12_restore_71 : decode cX12_restore 71 = .ok (.ireturn, 1) := by decide +kernel
theorem dJ9_max_7cf53_0 : decode cJ9_max_7cf53 0 = .ok (.iload_n 0, 1) := by decide +kernel
theorem dJ9_max_7cf53_1 : decode cJ9_max_7cf53 1 = .ok (.iload_n 1, 1) := by decide +kernel
theorem dJ9_max_7cf53_2 : decode cJ9_max_7cf53 2 = .ok (.if_icmp .lt 7, 3) := by decide +kernel
theorem dJ9_max_7cf53_5 : decode cJ9_max_7cf53 5 = .ok (.iload_n 0, 1) := by decide +kernel
theorem dJ9_max_7cf53_6 : decode cJ9_max_7cf53 6 = .ok (.goto 4, 3) := by decide +kernel
theorem dJ9_max_7cf53_9 : decode cJ9_max_7cf53 9 = .ok (.iload_n 1, 1) := by decide +kernel
theorem dJ9_max_7cf53_10 : decode cJ9_max_7cf53 10 = .ok (.ireturn, 1) := by decide +kernel
theorem dJ9_min_7cf53_0 : decode cJ9_min_7cf53 0 = .ok (.iload_n 0, 1) := by decide +kernel
theorem dJ9_min_7cf53_1 : decode cJ9_min_7cf53 1 = .ok (.iload_n 1, 1) := by decide +kernel
theorem dJ9_min_7cf53_2 : decode cJ9_min_7cf53 2 = .ok (.if_icmp .gt 7, 3) := by decide +kernel
theorem dJ9_min_7cf53_5 : decode cJ9_min_7cf53 5 = .ok (.iload_n 0, 1) := by decide +kernel
theorem dJ9_min_7cf53_6 : decode cJ9_min_7cf53 6 = .ok (.goto 4, 3) := by decide +kernel
theorem dJ9_min_7cf53_9 : decode cJ9_min_7cf53 9 = .ok (.iload_n 1, 1) := by decide +kernel
theorem dJ9_min_7cf53_10 : decode cJ9_min_7cf53 10 = .ok (.ireturn, 1) := by decide +kernel
theorem dJ7_fill_53178_0 : decode cJ7_fill_53178 0 = .ok (.iconst 0, 1) := by decide +kernel
theorem dJ7_fill_53178_1 : decode cJ7_fill_53178 1 = .ok (.istore_n 2, 1) := by decide +kernel
theorem dJ7_fill_53178_2 : decode cJ7_fill_53178 2 = .ok (.aload_n 0, 1) := by decide +kernel
theorem dJ7_fill_53178_3 : decode cJ7_fill_53178 3 = .ok (.arraylength, 1) := by decide +kernel
theorem dJ7_fill_53178_4 : decode cJ7_fill_53178 4 = .ok (.istore_n 3, 1) := by decide +kernel
theorem dJ7_fill_53178_5 : decode cJ7_fill_53178 5 = .ok (.iload_n 2, 1) := by decide +kernel
theorem dJ7_fill_53178_6 : decode cJ7_fill_53178 6 = .ok (.iload_n 3, 1) := by decide +kernel
theorem dJ7_fill_53178_7 : decode cJ7_fill_53178 7 = .ok (.if_icmp .ge 13, 3) := by decide +kernel
theorem dJ7_fill_53178_10 : decode cJ7_fill_53178 10 = .ok (.aload_n 0, 1) := by decide +kernel
theorem dJ7_fill_53178_11 : decode cJ7_fill_53178 11 = .ok (.iload_n 2, 1) := by decide +kernel
theorem dJ7_fill_53178_12 : decode cJ7_fill_53178 12 = .ok (.iload_n 1, 1) := by decide +kernel
theorem dJ7_fill_53178_13 : decode cJ7_fill_53178 13 = .ok (.iastore, 1) := by decide +kernel
theorem dJ7_fill_53178_14 : decode cJ7_fill_53178 14 = .ok (.iinc 2 1, 3) := by decide +kernel
theorem dJ7_fill_53178_17 : decode cJ7_fill_53178 17 = .ok (.goto (-12), 3) := by decide +kernel
theorem dJ7_fill_53178_20 : decode cJ7_fill_53178 20 = .ok (.return_, 1) := by decide +kernel
theorem dL_law_0 : decode cL_law 0 = .ok (.new 7, 3) := by decide +kernel
theorem dL_law_3 : decode cL_law 3 = .ok (.dup, 1) := by decide +kernel
theorem dL_law_4 : decode cL_law 4 = .ok (.invokespecial 9, 3) := by decide +kernel
theorem dL_law_7 : decode cL_law 7 = .ok (.astore_n 1, 1) := by decide +kernel
theorem dL_law_8 : decode cL_law 8 = .ok (.new 10, 3) := by decide +kernel
theorem dL_law_11 : decode cL_law 11 = .ok (.dup, 1) := by decide +kernel
theorem dL_law_12 : decode cL_law 12 = .ok (.invokespecial 12, 3) := by decide +kernel
theorem dL_law_15 : decode cL_law 15 = .ok (.astore_n 2, 1) := by decide +kernel
theorem dL_law_16 : decode cL_law 16 = .ok (.iconst 0, 1) := by decide +kernel
theorem dL_law_17 : decode cL_law 17 = .ok (.istore_n 3, 1) := by decide +kernel
theorem dL_law_18 : decode cL_law 18 = .ok (.iload_n 3, 1) := by decide +kernel
theorem dL_law_19 : decode cL_law 19 = .ok (.aload_n 0, 1) := by decide +kernel
theorem dL_law_20 : decode cL_law 20 = .ok (.arraylength, 1) := by decide +kernel
theorem dL_law_21 : decode cL_law 21 = .ok (.iconst 4, 1) := by decide +kernel
theorem dL_law_22 : decode cL_law 22 = .ok (.isub, 1) := by decide +kernel
theorem dL_law_23 : decode cL_law 23 = .ok (.if_icmp .gt 824, 3) := by decide +kernel
theorem dL_law_26 : decode cL_law 26 = .ok (.aload_n 0, 1) := by decide +kernel
theorem dL_law_27 : decode cL_law 27 = .ok (.iload_n 3, 1) := by decide +kernel
theorem dL_law_28 : decode cL_law 28 = .ok (.iaload, 1) := by decide +kernel
theorem dL_law_29 : decode cL_law 29 = .ok (.bipush 31, 2) := by decide +kernel
theorem dL_law_31 : decode cL_law 31 = .ok (.iand, 1) := by decide +kernel
theorem dL_law_32 : decode cL_law 32 = .ok (.tableswitch 809 0 28 #[132, 155, 168, 181, 194, 217, 240, 253, 276, 299, 322, 355, 378, 401, 424, 447, 470, 493, 516, 549, 592, 605, 618, 631, 644, 667, 730, 763, 786], 132) := by decide +kernel
theorem dL_law_164 : decode cL_law 164 = .ok (.aload_n 1, 1) := by decide +kernel
theorem dL_law_165 : decode cL_law 165 = .ok (.aload_n 0, 1) := by decide +kernel
theorem dL_law_166 : decode cL_law 166 = .ok (.iload_n 3, 1) := by decide +kernel
theorem dL_law_167 : decode cL_law 167 = .ok (.iconst 1, 1) := by decide +kernel
theorem dL_law_168 : decode cL_law 168 = .ok (.iadd, 1) := by decide +kernel
theorem dL_law_169 : decode cL_law 169 = .ok (.iaload, 1) := by decide +kernel
theorem dL_law_170 : decode cL_law 170 = .ok (.invokevirtual 13, 3) := by decide +kernel
theorem dL_law_173 : decode cL_law 173 = .ok (.aload_n 2, 1) := by decide +kernel
theorem dL_law_174 : decode cL_law 174 = .ok (.aload_n 0, 1) := by decide +kernel
theorem dL_law_175 : decode cL_law 175 = .ok (.iload_n 3, 1) := by decide +kernel
theorem dL_law_176 : decode cL_law 176 = .ok (.iconst 1, 1) := by decide +kernel
theorem dL_law_177 : decode cL_law 177 = .ok (.iadd, 1) := by decide +kernel
theorem dL_law_178 : decode cL_law 178 = .ok (.iaload, 1) := by decide +kernel
theorem dL_law_179 : decode cL_law 179 = .ok (.invokevirtual 17, 3) := by decide +kernel
theorem dL_law_182 : decode cL_law 182 = .ok (.if_icmp .eq 659, 3) := by decide +kernel
theorem dL_law_185 : decode cL_law 185 = .ok (.iconst 0, 1) := by decide +kernel
theorem dL_law_186 : decode cL_law 186 = .ok (.ireturn, 1) := by decide +kernel
theorem dL_law_187 : decode cL_law 187 = .ok (.aload_n 1, 1) := by decide +kernel
theorem dL_law_188 : decode cL_law 188 = .ok (.invokevirtual 18, 3) := by decide +kernel
theorem dL_law_191 : decode cL_law 191 = .ok (.aload_n 2, 1) := by decide +kernel
theorem dL_law_192 : decode cL_law 192 = .ok (.invokevirtual 22, 3) := by decide +kernel
theorem dL_law_195 : decode cL_law 195 = .ok (.if_icmp .eq 646, 3) := by decide +kernel
theorem dL_law_198 : decode cL_law 198 = .ok (.iconst 0, 1) := by decide +kernel
theorem dL_law_199 : decode cL_law 199 = .ok (.ireturn, 1) := by decide +kernel
theorem dL_law_200 : decode cL_law 200 = .ok (.aload_n 1, 1) := by decide +kernel
theorem dL_law_201 : decode cL_law 201 = .ok (.invokevirtual 23, 3) := by decide +kernel
theorem dL_law_204 : decode cL_law 204 = .ok (.aload_n 2, 1) := by decide +kernel
theorem dL_law_205 : decode cL_law 205 = .ok (.invokevirtual 26, 3) := by decide +kernel
theorem dL_law_208 : decode cL_law 208 = .ok (.if_icmp .eq 633, 3) := by decide +kernel
theorem dL_law_211 : decode cL_law 211 = .ok (.iconst 0, 1) := by decide +kernel
theorem dL_law_212 : decode cL_law 212 = .ok (.ireturn, 1) := by decide +kernel
theorem dL_law_213 : decode cL_law 213 = .ok (.aload_n 1, 1) := by decide +kernel
theorem dL_law_214 : decode cL_law 214 = .ok (.invokevirtual 27, 3) := by decide +kernel
theorem dL_law_217 : decode cL_law 217 = .ok (.aload_n 2, 1) := by decide +kernel
theorem dL_law_218 : decode cL_law 218 = .ok (.invokevirtual 30, 3) := by decide +kernel
theorem dL_law_221 : decode cL_law 221 = .ok (.if_icmp .eq 620, 3) := by decide +kernel
theorem dL_law_224 : decode cL_law 224 = .ok (.iconst 0, 1) := by decide +kernel
theorem dL_law_225 : decode cL_law 225 = .ok (.ireturn, 1) := by decide +kernel
theorem dL_law_226 : decode cL_law 226 = .ok (.aload_n 1, 1) := by decide +kernel
theorem dL_law_227 : decode cL_law 227 = .ok (.aload_n 0, 1) := by decide +kernel
theorem dL_law_228 : decode cL_law 228 = .ok (.iload_n 3, 1) := by decide +kernel
theorem dL_law_229 : decode cL_law 229 = .ok (.iconst 1, 1) := by decide +kernel
theorem dL_law_230 : decode cL_law 230 = .ok (.iadd, 1) := by decide +kernel
theorem dL_law_231 : decode cL_law 231 = .ok (.iaload, 1) := by decide +kernel
theorem dL_law_232 : decode cL_law 232 = .ok (.invokevirtual 31, 3) := by decide +kernel
theorem dL_law_235 : decode cL_law 235 = .ok (.aload_n 2, 1) := by decide +kernel
theorem dL_law_236 : decode cL_law 236 = .ok (.aload_n 0, 1) := by decide +kernel
theorem dL_law_237 : decode cL_law 237 = .ok (.iload_n 3, 1) := by decide +kernel
theorem dL_law_238 : decode cL_law 238 = .ok (.iconst 1, 1) := by decide +kernel
theorem dL_law_239 : decode cL_law 239 = .ok (.iadd, 1) := by decide +kernel
theorem dL_law_240 : decode cL_law 240 = .ok (.iaload, 1) := by decide +kernel
theorem dL_law_241 : decode cL_law 241 = .ok (.invokevirtual 34, 3) := by decide +kernel
theorem dL_law_244 : decode cL_law 244 = .ok (.if_icmp .eq 597, 3) := by decide +kernel
theorem dL_law_247 : decode cL_law 247 = .ok (.iconst 0, 1) := by decide +kernel
theorem dL_law_248 : decode cL_law 248 = .ok (.ireturn, 1) := by decide +kernel
theorem dL_law_249 : decode cL_law 249 = .ok (.aload_n 1, 1) := by decide +kernel
theorem dL_law_250 : decode cL_law 250 = .ok (.aload_n 0, 1) := by decide +kernel
theorem dL_law_251 : decode cL_law 251 = .ok (.iload_n 3, 1) := by decide +kernel
theorem dL_law_252 : decode cL_law 252 = .ok (.iconst 1, 1) := by decide +kernel
theorem dL_law_253 : decode cL_law 253 = .ok (.iadd, 1) := by decide +kernel
theorem dL_law_254 : decode cL_law 254 = .ok (.iaload, 1) := by decide +kernel
theorem dL_law_255 : decode cL_law 255 = .ok (.invokevirtual 35, 3) := by decide +kernel
theorem dL_law_258 : decode cL_law 258 = .ok (.aload_n 2, 1) := by decide +kernel
theorem dL_law_259 : decode cL_law 259 = .ok (.aload_n 0, 1) := by decide +kernel
theorem dL_law_260 : decode cL_law 260 = .ok (.iload_n 3, 1) := by decide +kernel
theorem dL_law_261 : decode cL_law 261 = .ok (.iconst 1, 1) := by decide +kernel
theorem dL_law_262 : decode cL_law 262 = .ok (.iadd, 1) := by decide +kernel
theorem dL_law_263 : decode cL_law 263 = .ok (.iaload, 1) := by decide +kernel
theorem dL_law_264 : decode cL_law 264 = .ok (.invokevirtual 38, 3) := by decide +kernel
theorem dL_law_267 : decode cL_law 267 = .ok (.if_icmp .eq 574, 3) := by decide +kernel
theorem dL_law_270 : decode cL_law 270 = .ok (.iconst 0, 1) := by decide +kernel
theorem dL_law_271 : decode cL_law 271 = .ok (.ireturn, 1) := by decide +kernel
theorem dL_law_272 : decode cL_law 272 = .ok (.aload_n 1, 1) := by decide +kernel
theorem dL_law_273 : decode cL_law 273 = .ok (.invokevirtual 39, 3) := by decide +kernel
theorem dL_law_276 : decode cL_law 276 = .ok (.aload_n 2, 1) := by decide +kernel
theorem dL_law_277 : decode cL_law 277 = .ok (.invokevirtual 42, 3) := by decide +kernel
theorem dL_law_280 : decode cL_law 280 = .ok (.if_icmp .eq 561, 3) := by decide +kernel
theorem dL_law_283 : decode cL_law 283 = .ok (.iconst 0, 1) := by decide +kernel
theorem dL_law_284 : decode cL_law 284 = .ok (.ireturn, 1) := by decide +kernel
theorem dL_law_285 : decode cL_law 285 = .ok (.aload_n 1, 1) := by decide +kernel
theorem dL_law_286 : decode cL_law 286 = .ok (.aload_n 0, 1) := by decide +kernel
theorem dL_law_287 : decode cL_law 287 = .ok (.iload_n 3, 1) := by decide +kernel
theorem dL_law_288 : decode cL_law 288 = .ok (.iconst 1, 1) := by decide +kernel
theorem dL_law_289 : decode cL_law 289 = .ok (.iadd, 1) := by decide +kernel
theorem dL_law_290 : decode cL_law 290 = .ok (.iaload, 1) := by decide +kernel
theorem dL_law_291 : decode cL_law 291 = .ok (.invokevirtual 43, 3) := by decide +kernel
theorem dL_law_294 : decode cL_law 294 = .ok (.aload_n 2, 1) := by decide +kernel
theorem dL_law_295 : decode cL_law 295 = .ok (.aload_n 0, 1) := by decide +kernel
theorem dL_law_296 : decode cL_law 296 = .ok (.iload_n 3, 1) := by decide +kernel
theorem dL_law_297 : decode cL_law 297 = .ok (.iconst 1, 1) := by decide +kernel
theorem dL_law_298 : decode cL_law 298 = .ok (.iadd, 1) := by decide +kernel
theorem dL_law_299 : decode cL_law 299 = .ok (.iaload, 1) := by decide +kernel
theorem dL_law_300 : decode cL_law 300 = .ok (.invokevirtual 46, 3) := by decide +kernel
theorem dL_law_303 : decode cL_law 303 = .ok (.if_icmp .eq 538, 3) := by decide +kernel
theorem dL_law_306 : decode cL_law 306 = .ok (.iconst 0, 1) := by decide +kernel
theorem dL_law_307 : decode cL_law 307 = .ok (.ireturn, 1) := by decide +kernel
theorem dL_law_308 : decode cL_law 308 = .ok (.aload_n 1, 1) := by decide +kernel
theorem dL_law_309 : decode cL_law 309 = .ok (.aload_n 0, 1) := by decide +kernel
theorem dL_law_310 : decode cL_law 310 = .ok (.iload_n 3, 1) := by decide +kernel
theorem dL_law_311 : decode cL_law 311 = .ok (.iconst 1, 1) := by decide +kernel
theorem dL_law_312 : decode cL_law 312 = .ok (.iadd, 1) := by decide +kernel
theorem dL_law_313 : decode cL_law 313 = .ok (.iaload, 1) := by decide +kernel
theorem dL_law_314 : decode cL_law 314 = .ok (.invokevirtual 47, 3) := by decide +kernel
theorem dL_law_317 : decode cL_law 317 = .ok (.aload_n 2, 1) := by decide +kernel
theorem dL_law_318 : decode cL_law 318 = .ok (.aload_n 0, 1) := by decide +kernel
theorem dL_law_319 : decode cL_law 319 = .ok (.iload_n 3, 1) := by decide +kernel
theorem dL_law_320 : decode cL_law 320 = .ok (.iconst 1, 1) := by decide +kernel
theorem dL_law_321 : decode cL_law 321 = .ok (.iadd, 1) := by decide +kernel
theorem dL_law_322 : decode cL_law 322 = .ok (.iaload, 1) := by decide +kernel
theorem dL_law_323 : decode cL_law 323 = .ok (.invokevirtual 50, 3) := by decide +kernel
theorem dL_law_326 : decode cL_law 326 = .ok (.if_icmp .eq 515, 3) := by decide +kernel
theorem dL_law_329 : decode cL_law 329 = .ok (.iconst 0, 1) := by decide +kernel
theorem dL_law_330 : decode cL_law 330 = .ok (.ireturn, 1) := by decide +kernel
theorem dL_law_331 : decode cL_law 331 = .ok (.aload_n 1, 1) := by decide +kernel
theorem dL_law_332 : decode cL_law 332 = .ok (.aload_n 0, 1) := by decide +kernel
theorem dL_law_333 : decode cL_law 333 = .ok (.iload_n 3, 1) := by decide +kernel
theorem dL_law_334 : decode cL_law 334 = .ok (.iconst 1, 1) := by decide +kernel
theorem dL_law_335 : decode cL_law 335 = .ok (.iadd, 1) := by decide +kernel
theorem dL_law_336 : decode cL_law 336 = .ok (.iaload, 1) := by decide +kernel
theorem dL_law_337 : decode cL_law 337 = .ok (.invokevirtual 51, 3) := by decide +kernel
theorem dL_law_340 : decode cL_law 340 = .ok (.aload_n 2, 1) := by decide +kernel
theorem dL_law_341 : decode cL_law 341 = .ok (.aload_n 0, 1) := by decide +kernel
theorem dL_law_342 : decode cL_law 342 = .ok (.iload_n 3, 1) := by decide +kernel
theorem dL_law_343 : decode cL_law 343 = .ok (.iconst 1, 1) := by decide +kernel
theorem dL_law_344 : decode cL_law 344 = .ok (.iadd, 1) := by decide +kernel
theorem dL_law_345 : decode cL_law 345 = .ok (.iaload, 1) := by decide +kernel
theorem dL_law_346 : decode cL_law 346 = .ok (.invokevirtual 54, 3) := by decide +kernel
theorem dL_law_349 : decode cL_law 349 = .ok (.if_icmp .eq 492, 3) := by decide +kernel
theorem dL_law_352 : decode cL_law 352 = .ok (.iconst 0, 1) := by decide +kernel
theorem dL_law_353 : decode cL_law 353 = .ok (.ireturn, 1) := by decide +kernel
theorem dL_law_354 : decode cL_law 354 = .ok (.aload_n 1, 1) := by decide +kernel
theorem dL_law_355 : decode cL_law 355 = .ok (.aload_n 0, 1) := by decide +kernel
theorem dL_law_356 : decode cL_law 356 = .ok (.iload_n 3, 1) := by decide +kernel
theorem dL_law_357 : decode cL_law 357 = .ok (.iconst 1, 1) := by decide +kernel
theorem dL_law_358 : decode cL_law 358 = .ok (.iadd, 1) := by decide +kernel
theorem dL_law_359 : decode cL_law 359 = .ok (.iaload, 1) := by decide +kernel
theorem dL_law_360 : decode cL_law 360 = .ok (.aload_n 0, 1) := by decide +kernel
theorem dL_law_361 : decode cL_law 361 = .ok (.iload_n 3, 1) := by decide +kernel
theorem dL_law_362 : decode cL_law 362 = .ok (.iconst 2, 1) := by decide +kernel
theorem dL_law_363 : decode cL_law 363 = .ok (.iadd, 1) := by decide +kernel
theorem dL_law_364 : decode cL_law 364 = .ok (.iaload, 1) := by decide +kernel
theorem dL_law_365 : decode cL_law 365 = .ok (.invokevirtual 55, 3) := by decide +kernel
theorem dL_law_368 : decode cL_law 368 = .ok (.aload_n 2, 1) := by decide +kernel
theorem dL_law_369 : decode cL_law 369 = .ok (.aload_n 0, 1) := by decide +kernel
theorem dL_law_370 : decode cL_law 370 = .ok (.iload_n 3, 1) := by decide +kernel
theorem dL_law_371 : decode cL_law 371 = .ok (.iconst 1, 1) := by decide +kernel
theorem dL_law_372 : decode cL_law 372 = .ok (.iadd, 1) := by decide +kernel
theorem dL_law_373 : decode cL_law 373 = .ok (.iaload, 1) := by decide +kernel
theorem dL_law_374 : decode cL_law 374 = .ok (.aload_n 0, 1) := by decide +kernel
theorem dL_law_375 : decode cL_law 375 = .ok (.iload_n 3, 1) := by decide +kernel
theorem dL_law_376 : decode cL_law 376 = .ok (.iconst 2, 1) := by decide +kernel
theorem dL_law_377 : decode cL_law 377 = .ok (.iadd, 1) := by decide +kernel
theorem dL_law_378 : decode cL_law 378 = .ok (.iaload, 1) := by decide +kernel
theorem dL_law_379 : decode cL_law 379 = .ok (.invokevirtual 59, 3) := by decide +kernel
theorem dL_law_382 : decode cL_law 382 = .ok (.if_icmp .eq 459, 3) := by decide +kernel
theorem dL_law_385 : decode cL_law 385 = .ok (.iconst 0, 1) := by decide +kernel
theorem dL_law_386 : decode cL_law 386 = .ok (.ireturn, 1) := by decide +kernel
theorem dL_law_387 : decode cL_law 387 = .ok (.aload_n 1, 1) := by decide +kernel
theorem dL_law_388 : decode cL_law 388 = .ok (.aload_n 0, 1) := by decide +kernel
theorem dL_law_389 : decode cL_law 389 = .ok (.iload_n 3, 1) := by decide +kernel
theorem dL_law_390 : decode cL_law 390 = .ok (.iconst 1, 1) := by decide +kernel
theorem dL_law_391 : decode cL_law 391 = .ok (.iadd, 1) := by decide +kernel
theorem dL_law_392 : decode cL_law 392 = .ok (.iaload, 1) := by decide +kernel
theorem dL_law_393 : decode cL_law 393 = .ok (.invokevirtual 60, 3) := by decide +kernel
theorem dL_law_396 : decode cL_law 396 = .ok (.aload_n 2, 1) := by decide +kernel
theorem dL_law_397 : decode cL_law 397 = .ok (.aload_n 0, 1) := by decide +kernel
theorem dL_law_398 : decode cL_law 398 = .ok (.iload_n 3, 1) := by decide +kernel
theorem dL_law_399 : decode cL_law 399 = .ok (.iconst 1, 1) := by decide +kernel
theorem dL_law_400 : decode cL_law 400 = .ok (.iadd, 1) := by decide +kernel
theorem dL_law_401 : decode cL_law 401 = .ok (.iaload, 1) := by decide +kernel
theorem dL_law_402 : decode cL_law 402 = .ok (.invokevirtual 63, 3) := by decide +kernel
theorem dL_law_405 : decode cL_law 405 = .ok (.if_icmp .eq 436, 3) := by decide +kernel
theorem dL_law_408 : decode cL_law 408 = .ok (.iconst 0, 1) := by decide +kernel
theorem dL_law_409 : decode cL_law 409 = .ok (.ireturn, 1) := by decide +kernel
theorem dL_law_410 : decode cL_law 410 = .ok (.aload_n 1, 1) := by decide +kernel
theorem dL_law_411 : decode cL_law 411 = .ok (.aload_n 0, 1) := by decide +kernel
theorem dL_law_412 : decode cL_law 412 = .ok (.iload_n 3, 1) := by decide +kernel
theorem dL_law_413 : decode cL_law 413 = .ok (.iconst 1, 1) := by decide +kernel
theorem dL_law_414 : decode cL_law 414 = .ok (.iadd, 1) := by decide +kernel
theorem dL_law_415 : decode cL_law 415 = .ok (.iaload, 1) := by decide +kernel
theorem dL_law_416 : decode cL_law 416 = .ok (.invokevirtual 64, 3) := by decide +kernel
theorem dL_law_419 : decode cL_law 419 = .ok (.aload_n 2, 1) := by decide +kernel
theorem dL_law_420 : decode cL_law 420 = .ok (.aload_n 0, 1) := by decide +kernel
theorem dL_law_421 : decode cL_law 421 = .ok (.iload_n 3, 1) := by decide +kernel
theorem dL_law_422 : decode cL_law 422 = .ok (.iconst 1, 1) := by decide +kernel
theorem dL_law_423 : decode cL_law 423 = .ok (.iadd, 1) := by decide +kernel
theorem dL_law_424 : decode cL_law 424 = .ok (.iaload, 1) := by decide +kernel
theorem dL_law_425 : decode cL_law 425 = .ok (.invokevirtual 67, 3) := by decide +kernel
theorem dL_law_428 : decode cL_law 428 = .ok (.if_icmp .eq 413, 3) := by decide +kernel
theorem dL_law_431 : decode cL_law 431 = .ok (.iconst 0, 1) := by decide +kernel
theorem dL_law_432 : decode cL_law 432 = .ok (.ireturn, 1) := by decide +kernel
theorem dL_law_433 : decode cL_law 433 = .ok (.aload_n 1, 1) := by decide +kernel
theorem dL_law_434 : decode cL_law 434 = .ok (.aload_n 0, 1) := by decide +kernel
theorem dL_law_435 : decode cL_law 435 = .ok (.iload_n 3, 1) := by decide +kernel
theorem dL_law_436 : decode cL_law 436 = .ok (.iconst 1, 1) := by decide +kernel
theorem dL_law_437 : decode cL_law 437 = .ok (.iadd, 1) := by decide +kernel
theorem dL_law_438 : decode cL_law 438 = .ok (.iaload, 1) := by decide +kernel
theorem dL_law_439 : decode cL_law 439 = .ok (.invokevirtual 68, 3) := by decide +kernel
theorem dL_law_442 : decode cL_law 442 = .ok (.aload_n 2, 1) := by decide +kernel
theorem dL_law_443 : decode cL_law 443 = .ok (.aload_n 0, 1) := by decide +kernel
theorem dL_law_444 : decode cL_law 444 = .ok (.iload_n 3, 1) := by decide +kernel
theorem dL_law_445 : decode cL_law 445 = .ok (.iconst 1, 1) := by decide +kernel
theorem dL_law_446 : decode cL_law 446 = .ok (.iadd, 1) := by decide +kernel
theorem dL_law_447 : decode cL_law 447 = .ok (.iaload, 1) := by decide +kernel
theorem dL_law_448 : decode cL_law 448 = .ok (.invokevirtual 71, 3) := by decide +kernel
theorem dL_law_451 : decode cL_law 451 = .ok (.if_icmp .eq 390, 3) := by decide +kernel
theorem dL_law_454 : decode cL_law 454 = .ok (.iconst 0, 1) := by decide +kernel
theorem dL_law_455 : decode cL_law 455 = .ok (.ireturn, 1) := by decide +kernel
theorem dL_law_456 : decode cL_law 456 = .ok (.aload_n 1, 1) := by decide +kernel
theorem dL_law_457 : decode cL_law 457 = .ok (.aload_n 0, 1) := by decide +kernel
theorem dL_law_458 : decode cL_law 458 = .ok (.iload_n 3, 1) := by decide +kernel
theorem dL_law_459 : decode cL_law 459 = .ok (.iconst 1, 1) := by decide +kernel
theorem dL_law_460 : decode cL_law 460 = .ok (.iadd, 1) := by decide +kernel
theorem dL_law_461 : decode cL_law 461 = .ok (.iaload, 1) := by decide +kernel
theorem dL_law_462 : decode cL_law 462 = .ok (.invokevirtual 72, 3) := by decide +kernel
theorem dL_law_465 : decode cL_law 465 = .ok (.aload_n 2, 1) := by decide +kernel
theorem dL_law_466 : decode cL_law 466 = .ok (.aload_n 0, 1) := by decide +kernel
theorem dL_law_467 : decode cL_law 467 = .ok (.iload_n 3, 1) := by decide +kernel
theorem dL_law_468 : decode cL_law 468 = .ok (.iconst 1, 1) := by decide +kernel
theorem dL_law_469 : decode cL_law 469 = .ok (.iadd, 1) := by decide +kernel
theorem dL_law_470 : decode cL_law 470 = .ok (.iaload, 1) := by decide +kernel
theorem dL_law_471 : decode cL_law 471 = .ok (.invokevirtual 75, 3) := by decide +kernel
theorem dL_law_474 : decode cL_law 474 = .ok (.if_icmp .eq 367, 3) := by decide +kernel
theorem dL_law_477 : decode cL_law 477 = .ok (.iconst 0, 1) := by decide +kernel
theorem dL_law_478 : decode cL_law 478 = .ok (.ireturn, 1) := by decide +kernel
theorem dL_law_479 : decode cL_law 479 = .ok (.aload_n 1, 1) := by decide +kernel
theorem dL_law_480 : decode cL_law 480 = .ok (.aload_n 0, 1) := by decide +kernel
theorem dL_law_481 : decode cL_law 481 = .ok (.iload_n 3, 1) := by decide +kernel
theorem dL_law_482 : decode cL_law 482 = .ok (.iconst 1, 1) := by decide +kernel
theorem dL_law_483 : decode cL_law 483 = .ok (.iadd, 1) := by decide +kernel
theorem dL_law_484 : decode cL_law 484 = .ok (.iaload, 1) := by decide +kernel
theorem dL_law_485 : decode cL_law 485 = .ok (.invokevirtual 76, 3) := by decide +kernel
theorem dL_law_488 : decode cL_law 488 = .ok (.aload_n 2, 1) := by decide +kernel
theorem dL_law_489 : decode cL_law 489 = .ok (.aload_n 0, 1) := by decide +kernel
theorem dL_law_490 : decode cL_law 490 = .ok (.iload_n 3, 1) := by decide +kernel
theorem dL_law_491 : decode cL_law 491 = .ok (.iconst 1, 1) := by decide +kernel
theorem dL_law_492 : decode cL_law 492 = .ok (.iadd, 1) := by decide +kernel
theorem dL_law_493 : decode cL_law 493 = .ok (.iaload, 1) := by decide +kernel
theorem dL_law_494 : decode cL_law 494 = .ok (.invokevirtual 79, 3) := by decide +kernel
theorem dL_law_497 : decode cL_law 497 = .ok (.if_icmp .eq 344, 3) := by decide +kernel
theorem dL_law_500 : decode cL_law 500 = .ok (.iconst 0, 1) := by decide +kernel
theorem dL_law_501 : decode cL_law 501 = .ok (.ireturn, 1) := by decide +kernel
theorem dL_law_502 : decode cL_law 502 = .ok (.aload_n 1, 1) := by decide +kernel
theorem dL_law_503 : decode cL_law 503 = .ok (.aload_n 0, 1) := by decide +kernel
theorem dL_law_504 : decode cL_law 504 = .ok (.iload_n 3, 1) := by decide +kernel
theorem dL_law_505 : decode cL_law 505 = .ok (.iconst 1, 1) := by decide +kernel
theorem dL_law_506 : decode cL_law 506 = .ok (.iadd, 1) := by decide +kernel
theorem dL_law_507 : decode cL_law 507 = .ok (.iaload, 1) := by decide +kernel
theorem dL_law_508 : decode cL_law 508 = .ok (.invokevirtual 80, 3) := by decide +kernel
theorem dL_law_511 : decode cL_law 511 = .ok (.aload_n 2, 1) := by decide +kernel
theorem dL_law_512 : decode cL_law 512 = .ok (.aload_n 0, 1) := by decide +kernel
theorem dL_law_513 : decode cL_law 513 = .ok (.iload_n 3, 1) := by decide +kernel
theorem dL_law_514 : decode cL_law 514 = .ok (.iconst 1, 1) := by decide +kernel
theorem dL_law_515 : decode cL_law 515 = .ok (.iadd, 1) := by decide +kernel
theorem dL_law_516 : decode cL_law 516 = .ok (.iaload, 1) := by decide +kernel
theorem dL_law_517 : decode cL_law 517 = .ok (.invokevirtual 83, 3) := by decide +kernel
theorem dL_law_520 : decode cL_law 520 = .ok (.if_icmp .eq 321, 3) := by decide +kernel
theorem dL_law_523 : decode cL_law 523 = .ok (.iconst 0, 1) := by decide +kernel
theorem dL_law_524 : decode cL_law 524 = .ok (.ireturn, 1) := by decide +kernel
theorem dL_law_525 : decode cL_law 525 = .ok (.aload_n 1, 1) := by decide +kernel
theorem dL_law_526 : decode cL_law 526 = .ok (.aload_n 0, 1) := by decide +kernel
theorem dL_law_527 : decode cL_law 527 = .ok (.iload_n 3, 1) := by decide +kernel
theorem dL_law_528 : decode cL_law 528 = .ok (.iconst 1, 1) := by decide +kernel
theorem dL_law_529 : decode cL_law 529 = .ok (.iadd, 1) := by decide +kernel
theorem dL_law_530 : decode cL_law 530 = .ok (.iaload, 1) := by decide +kernel
theorem dL_law_531 : decode cL_law 531 = .ok (.invokevirtual 84, 3) := by decide +kernel
theorem dL_law_534 : decode cL_law 534 = .ok (.aload_n 2, 1) := by decide +kernel
theorem dL_law_535 : decode cL_law 535 = .ok (.aload_n 0, 1) := by decide +kernel
theorem dL_law_536 : decode cL_law 536 = .ok (.iload_n 3, 1) := by decide +kernel
theorem dL_law_537 : decode cL_law 537 = .ok (.iconst 1, 1) := by decide +kernel
theorem dL_law_538 : decode cL_law 538 = .ok (.iadd, 1) := by decide +kernel
theorem dL_law_539 : decode cL_law 539 = .ok (.iaload, 1) := by decide +kernel
theorem dL_law_540 : decode cL_law 540 = .ok (.invokevirtual 87, 3) := by decide +kernel
theorem dL_law_543 : decode cL_law 543 = .ok (.if_icmp .eq 298, 3) := by decide +kernel
theorem dL_law_546 : decode cL_law 546 = .ok (.iconst 0, 1) := by decide +kernel
theorem dL_law_547 : decode cL_law 547 = .ok (.ireturn, 1) := by decide +kernel
theorem dL_law_548 : decode cL_law 548 = .ok (.aload_n 1, 1) := by decide +kernel
theorem dL_law_549 : decode cL_law 549 = .ok (.aload_n 0, 1) := by decide +kernel
theorem dL_law_550 : decode cL_law 550 = .ok (.iload_n 3, 1) := by decide +kernel
theorem dL_law_551 : decode cL_law 551 = .ok (.iconst 1, 1) := by decide +kernel
theorem dL_law_552 : decode cL_law 552 = .ok (.iadd, 1) := by decide +kernel
theorem dL_law_553 : decode cL_law 553 = .ok (.iaload, 1) := by decide +kernel
theorem dL_law_554 : decode cL_law 554 = .ok (.aload_n 0, 1) := by decide +kernel
theorem dL_law_555 : decode cL_law 555 = .ok (.iload_n 3, 1) := by decide +kernel
theorem dL_law_556 : decode cL_law 556 = .ok (.iconst 2, 1) := by decide +kernel
theorem dL_law_557 : decode cL_law 557 = .ok (.iadd, 1) := by decide +kernel
theorem dL_law_558 : decode cL_law 558 = .ok (.iaload, 1) := by decide +kernel
theorem dL_law_559 : decode cL_law 559 = .ok (.invokevirtual 88, 3) := by decide +kernel
theorem dL_law_562 : decode cL_law 562 = .ok (.aload_n 2, 1) := by decide +kernel
theorem dL_law_563 : decode cL_law 563 = .ok (.aload_n 0, 1) := by decide +kernel
theorem dL_law_564 : decode cL_law 564 = .ok (.iload_n 3, 1) := by decide +kernel
theorem dL_law_565 : decode cL_law 565 = .ok (.iconst 1, 1) := by decide +kernel
theorem dL_law_566 : decode cL_law 566 = .ok (.iadd, 1) := by decide +kernel
theorem dL_law_567 : decode cL_law 567 = .ok (.iaload, 1) := by decide +kernel
theorem dL_law_568 : decode cL_law 568 = .ok (.aload_n 0, 1) := by decide +kernel
theorem dL_law_569 : decode cL_law 569 = .ok (.iload_n 3, 1) := by decide +kernel
theorem dL_law_570 : decode cL_law 570 = .ok (.iconst 2, 1) := by decide +kernel
theorem dL_law_571 : decode cL_law 571 = .ok (.iadd, 1) := by decide +kernel
theorem dL_law_572 : decode cL_law 572 = .ok (.iaload, 1) := by decide +kernel
theorem dL_law_573 : decode cL_law 573 = .ok (.invokevirtual 91, 3) := by decide +kernel
theorem dL_law_576 : decode cL_law 576 = .ok (.if_icmp .eq 265, 3) := by decide +kernel
theorem dL_law_579 : decode cL_law 579 = .ok (.iconst 0, 1) := by decide +kernel
theorem dL_law_580 : decode cL_law 580 = .ok (.ireturn, 1) := by decide +kernel
theorem dL_law_581 : decode cL_law 581 = .ok (.aload_n 1, 1) := by decide +kernel
theorem dL_law_582 : decode cL_law 582 = .ok (.aload_n 0, 1) := by decide +kernel
theorem dL_law_583 : decode cL_law 583 = .ok (.iload_n 3, 1) := by decide +kernel
theorem dL_law_584 : decode cL_law 584 = .ok (.iconst 1, 1) := by decide +kernel
theorem dL_law_585 : decode cL_law 585 = .ok (.iadd, 1) := by decide +kernel
theorem dL_law_586 : decode cL_law 586 = .ok (.iaload, 1) := by decide +kernel
theorem dL_law_587 : decode cL_law 587 = .ok (.aload_n 0, 1) := by decide +kernel
theorem dL_law_588 : decode cL_law 588 = .ok (.iload_n 3, 1) := by decide +kernel
theorem dL_law_589 : decode cL_law 589 = .ok (.iconst 2, 1) := by decide +kernel
theorem dL_law_590 : decode cL_law 590 = .ok (.iadd, 1) := by decide +kernel
theorem dL_law_591 : decode cL_law 591 = .ok (.iaload, 1) := by decide +kernel
theorem dL_law_592 : decode cL_law 592 = .ok (.aload_n 0, 1) := by decide +kernel
theorem dL_law_593 : decode cL_law 593 = .ok (.iload_n 3, 1) := by decide +kernel
theorem dL_law_594 : decode cL_law 594 = .ok (.iconst 3, 1) := by decide +kernel
theorem dL_law_595 : decode cL_law 595 = .ok (.iadd, 1) := by decide +kernel
theorem dL_law_596 : decode cL_law 596 = .ok (.iaload, 1) := by decide +kernel
theorem dL_law_597 : decode cL_law 597 = .ok (.invokevirtual 92, 3) := by decide +kernel
theorem dL_law_600 : decode cL_law 600 = .ok (.aload_n 2, 1) := by decide +kernel
theorem dL_law_601 : decode cL_law 601 = .ok (.aload_n 0, 1) := by decide +kernel
theorem dL_law_602 : decode cL_law 602 = .ok (.iload_n 3, 1) := by decide +kernel
theorem dL_law_603 : decode cL_law 603 = .ok (.iconst 1, 1) := by decide +kernel
theorem dL_law_604 : decode cL_law 604 = .ok (.iadd, 1) := by decide +kernel
theorem dL_law_605 : decode cL_law 605 = .ok (.iaload, 1) := by decide +kernel
theorem dL_law_606 : decode cL_law 606 = .ok (.aload_n 0, 1) := by decide +kernel
theorem dL_law_607 : decode cL_law 607 = .ok (.iload_n 3, 1) := by decide +kernel
theorem dL_law_608 : decode cL_law 608 = .ok (.iconst 2, 1) := by decide +kernel
theorem dL_law_609 : decode cL_law 609 = .ok (.iadd, 1) := by decide +kernel
theorem dL_law_610 : decode cL_law 610 = .ok (.iaload, 1) := by decide +kernel
theorem dL_law_611 : decode cL_law 611 = .ok (.aload_n 0, 1) := by decide +kernel
theorem dL_law_612 : decode cL_law 612 = .ok (.iload_n 3, 1) := by decide +kernel
theorem dL_law_613 : decode cL_law 613 = .ok (.iconst 3, 1) := by decide +kernel
theorem dL_law_614 : decode cL_law 614 = .ok (.iadd, 1) := by decide +kernel
theorem dL_law_615 : decode cL_law 615 = .ok (.iaload, 1) := by decide +kernel
theorem dL_law_616 : decode cL_law 616 = .ok (.invokevirtual 96, 3) := by decide +kernel
theorem dL_law_619 : decode cL_law 619 = .ok (.if_icmp .eq 222, 3) := by decide +kernel
theorem dL_law_622 : decode cL_law 622 = .ok (.iconst 0, 1) := by decide +kernel
theorem dL_law_623 : decode cL_law 623 = .ok (.ireturn, 1) := by decide +kernel
theorem dL_law_624 : decode cL_law 624 = .ok (.aload_n 1, 1) := by decide +kernel
theorem dL_law_625 : decode cL_law 625 = .ok (.invokevirtual 97, 3) := by decide +kernel
theorem dL_law_628 : decode cL_law 628 = .ok (.aload_n 2, 1) := by decide +kernel
theorem dL_law_629 : decode cL_law 629 = .ok (.invokevirtual 100, 3) := by decide +kernel
theorem dL_law_632 : decode cL_law 632 = .ok (.if_icmp .eq 209, 3) := by decide +kernel
theorem dL_law_635 : decode cL_law 635 = .ok (.iconst 0, 1) := by decide +kernel
theorem dL_law_636 : decode cL_law 636 = .ok (.ireturn, 1) := by decide +kernel
theorem dL_law_637 : decode cL_law 637 = .ok (.aload_n 1, 1) := by decide +kernel
theorem dL_law_638 : decode cL_law 638 = .ok (.invokevirtual 101, 3) := by decide +kernel
theorem dL_law_641 : decode cL_law 641 = .ok (.aload_n 2, 1) := by decide +kernel
theorem dL_law_642 : decode cL_law 642 = .ok (.invokevirtual 104, 3) := by decide +kernel
theorem dL_law_645 : decode cL_law 645 = .ok (.if_icmp .eq 196, 3) := by decide +kernel
theorem dL_law_648 : decode cL_law 648 = .ok (.iconst 0, 1) := by decide +kernel
theorem dL_law_649 : decode cL_law 649 = .ok (.ireturn, 1) := by decide +kernel
theorem dL_law_650 : decode cL_law 650 = .ok (.aload_n 1, 1) := by decide +kernel
theorem dL_law_651 : decode cL_law 651 = .ok (.invokevirtual 105, 3) := by decide +kernel
theorem dL_law_654 : decode cL_law 654 = .ok (.aload_n 2, 1) := by decide +kernel
theorem dL_law_655 : decode cL_law 655 = .ok (.invokevirtual 108, 3) := by decide +kernel
theorem dL_law_658 : decode cL_law 658 = .ok (.if_icmp .eq 183, 3) := by decide +kernel
theorem dL_law_661 : decode cL_law 661 = .ok (.iconst 0, 1) := by decide +kernel
theorem dL_law_662 : decode cL_law 662 = .ok (.ireturn, 1) := by decide +kernel
theorem dL_law_663 : decode cL_law 663 = .ok (.aload_n 1, 1) := by decide +kernel
theorem dL_law_664 : decode cL_law 664 = .ok (.invokevirtual 109, 3) := by decide +kernel
theorem dL_law_667 : decode cL_law 667 = .ok (.aload_n 2, 1) := by decide +kernel
theorem dL_law_668 : decode cL_law 668 = .ok (.invokevirtual 112, 3) := by decide +kernel
theorem dL_law_671 : decode cL_law 671 = .ok (.if_icmp .eq 170, 3) := by decide +kernel
theorem dL_law_674 : decode cL_law 674 = .ok (.iconst 0, 1) := by decide +kernel
theorem dL_law_675 : decode cL_law 675 = .ok (.ireturn, 1) := by decide +kernel
theorem dL_law_676 : decode cL_law 676 = .ok (.aload_n 1, 1) := by decide +kernel
theorem dL_law_677 : decode cL_law 677 = .ok (.aload_n 0, 1) := by decide +kernel
theorem dL_law_678 : decode cL_law 678 = .ok (.iload_n 3, 1) := by decide +kernel
theorem dL_law_679 : decode cL_law 679 = .ok (.iconst 1, 1) := by decide +kernel
theorem dL_law_680 : decode cL_law 680 = .ok (.iadd, 1) := by decide +kernel
theorem dL_law_681 : decode cL_law 681 = .ok (.iaload, 1) := by decide +kernel
theorem dL_law_682 : decode cL_law 682 = .ok (.invokevirtual 113, 3) := by decide +kernel
theorem dL_law_685 : decode cL_law 685 = .ok (.aload_n 2, 1) := by decide +kernel
theorem dL_law_686 : decode cL_law 686 = .ok (.aload_n 0, 1) := by decide +kernel
theorem dL_law_687 : decode cL_law 687 = .ok (.iload_n 3, 1) := by decide +kernel
theorem dL_law_688 : decode cL_law 688 = .ok (.iconst 1, 1) := by decide +kernel
theorem dL_law_689 : decode cL_law 689 = .ok (.iadd, 1) := by decide +kernel
theorem dL_law_690 : decode cL_law 690 = .ok (.iaload, 1) := by decide +kernel
theorem dL_law_691 : decode cL_law 691 = .ok (.invokevirtual 116, 3) := by decide +kernel
theorem dL_law_694 : decode cL_law 694 = .ok (.if_icmp .eq 147, 3) := by decide +kernel
theorem dL_law_697 : decode cL_law 697 = .ok (.iconst 0, 1) := by decide +kernel
theorem dL_law_698 : decode cL_law 698 = .ok (.ireturn, 1) := by decide +kernel
theorem dL_law_699 : decode cL_law 699 = .ok (.aload_n 1, 1) := by decide +kernel
theorem dL_law_700 : decode cL_law 700 = .ok (.aload_n 0, 1) := by decide +kernel
theorem dL_law_701 : decode cL_law 701 = .ok (.iload_n 3, 1) := by decide +kernel
theorem dL_law_702 : decode cL_law 702 = .ok (.iconst 1, 1) := by decide +kernel
theorem dL_law_703 : decode cL_law 703 = .ok (.iadd, 1) := by decide +kernel
theorem dL_law_704 : decode cL_law 704 = .ok (.iaload, 1) := by decide +kernel
theorem dL_law_705 : decode cL_law 705 = .ok (.aload_n 0, 1) := by decide +kernel
theorem dL_law_706 : decode cL_law 706 = .ok (.iload_n 3, 1) := by decide +kernel
theorem dL_law_707 : decode cL_law 707 = .ok (.iconst 2, 1) := by decide +kernel
theorem dL_law_708 : decode cL_law 708 = .ok (.iadd, 1) := by decide +kernel
theorem dL_law_709 : decode cL_law 709 = .ok (.iaload, 1) := by decide +kernel
theorem dL_law_710 : decode cL_law 710 = .ok (.i2l, 1) := by decide +kernel
theorem dL_law_711 : decode cL_law 711 = .ok (.bipush 32, 2) := by decide +kernel
theorem dL_law_713 : decode cL_law 713 = .ok (.lshl, 1) := by decide +kernel
theorem dL_law_714 : decode cL_law 714 = .ok (.aload_n 0, 1) := by decide +kernel
theorem dL_law_715 : decode cL_law 715 = .ok (.iload_n 3, 1) := by decide +kernel
theorem dL_law_716 : decode cL_law 716 = .ok (.iconst 3, 1) := by decide +kernel
theorem dL_law_717 : decode cL_law 717 = .ok (.iadd, 1) := by decide +kernel
theorem dL_law_718 : decode cL_law 718 = .ok (.iaload, 1) := by decide +kernel
theorem dL_law_719 : decode cL_law 719 = .ok (.i2l, 1) := by decide +kernel
theorem dL_law_720 : decode cL_law 720 = .ok (.ldc2_w 117, 3) := by decide +kernel
theorem dL_law_723 : decode cL_law 723 = .ok (.land, 1) := by decide +kernel
theorem dL_law_724 : decode cL_law 724 = .ok (.lor, 1) := by decide +kernel
theorem dL_law_725 : decode cL_law 725 = .ok (.invokevirtual 119, 3) := by decide +kernel
theorem dL_law_728 : decode cL_law 728 = .ok (.aload_n 2, 1) := by decide +kernel
theorem dL_law_729 : decode cL_law 729 = .ok (.aload_n 0, 1) := by decide +kernel
theorem dL_law_730 : decode cL_law 730 = .ok (.iload_n 3, 1) := by decide +kernel
theorem dL_law_731 : decode cL_law 731 = .ok (.iconst 1, 1) := by decide +kernel
theorem dL_law_732 : decode cL_law 732 = .ok (.iadd, 1) := by decide +kernel
theorem dL_law_733 : decode cL_law 733 = .ok (.iaload, 1) := by decide +kernel
theorem dL_law_734 : decode cL_law 734 = .ok (.aload_n 0, 1) := by decide +kernel
theorem dL_law_735 : decode cL_law 735 = .ok (.iload_n 3, 1) := by decide +kernel
theorem dL_law_736 : decode cL_law 736 = .ok (.iconst 2, 1) := by decide +kernel
theorem dL_law_737 : decode cL_law 737 = .ok (.iadd, 1) := by decide +kernel
theorem dL_law_738 : decode cL_law 738 = .ok (.iaload, 1) := by decide +kernel
theorem dL_law_739 : decode cL_law 739 = .ok (.i2l, 1) := by decide +kernel
theorem dL_law_740 : decode cL_law 740 = .ok (.bipush 32, 2) := by decide +kernel
theorem dL_law_742 : decode cL_law 742 = .ok (.lshl, 1) := by decide +kernel
theorem dL_law_743 : decode cL_law 743 = .ok (.aload_n 0, 1) := by decide +kernel
theorem dL_law_744 : decode cL_law 744 = .ok (.iload_n 3, 1) := by decide +kernel
theorem dL_law_745 : decode cL_law 745 = .ok (.iconst 3, 1) := by decide +kernel
theorem dL_law_746 : decode cL_law 746 = .ok (.iadd, 1) := by decide +kernel
theorem dL_law_747 : decode cL_law 747 = .ok (.iaload, 1) := by decide +kernel
theorem dL_law_748 : decode cL_law 748 = .ok (.i2l, 1) := by decide +kernel
theorem dL_law_749 : decode cL_law 749 = .ok (.ldc2_w 117, 3) := by decide +kernel
theorem dL_law_752 : decode cL_law 752 = .ok (.land, 1) := by decide +kernel
theorem dL_law_753 : decode cL_law 753 = .ok (.lor, 1) := by decide +kernel
theorem dL_law_754 : decode cL_law 754 = .ok (.invokevirtual 123, 3) := by decide +kernel
theorem dL_law_757 : decode cL_law 757 = .ok (.if_icmp .eq 84, 3) := by decide +kernel
theorem dL_law_760 : decode cL_law 760 = .ok (.iconst 0, 1) := by decide +kernel
theorem dL_law_761 : decode cL_law 761 = .ok (.ireturn, 1) := by decide +kernel
theorem dL_law_762 : decode cL_law 762 = .ok (.aload_n 1, 1) := by decide +kernel
theorem dL_law_763 : decode cL_law 763 = .ok (.aload_n 0, 1) := by decide +kernel
theorem dL_law_764 : decode cL_law 764 = .ok (.iload_n 3, 1) := by decide +kernel
theorem dL_law_765 : decode cL_law 765 = .ok (.iconst 1, 1) := by decide +kernel
theorem dL_law_766 : decode cL_law 766 = .ok (.iadd, 1) := by decide +kernel
theorem dL_law_767 : decode cL_law 767 = .ok (.iaload, 1) := by decide +kernel
theorem dL_law_768 : decode cL_law 768 = .ok (.aload_n 0, 1) := by decide +kernel
theorem dL_law_769 : decode cL_law 769 = .ok (.iload_n 3, 1) := by decide +kernel
theorem dL_law_770 : decode cL_law 770 = .ok (.iconst 2, 1) := by decide +kernel
theorem dL_law_771 : decode cL_law 771 = .ok (.iadd, 1) := by decide +kernel
theorem dL_law_772 : decode cL_law 772 = .ok (.iaload, 1) := by decide +kernel
theorem dL_law_773 : decode cL_law 773 = .ok (.invokevirtual 124, 3) := by decide +kernel
theorem dL_law_776 : decode cL_law 776 = .ok (.aload_n 2, 1) := by decide +kernel
theorem dL_law_777 : decode cL_law 777 = .ok (.aload_n 0, 1) := by decide +kernel
theorem dL_law_778 : decode cL_law 778 = .ok (.iload_n 3, 1) := by decide +kernel
theorem dL_law_779 : decode cL_law 779 = .ok (.iconst 1, 1) := by decide +kernel
theorem dL_law_780 : decode cL_law 780 = .ok (.iadd, 1) := by decide +kernel
theorem dL_law_781 : decode cL_law 781 = .ok (.iaload, 1) := by decide +kernel
theorem dL_law_782 : decode cL_law 782 = .ok (.aload_n 0, 1) := by decide +kernel
theorem dL_law_783 : decode cL_law 783 = .ok (.iload_n 3, 1) := by decide +kernel
theorem dL_law_784 : decode cL_law 784 = .ok (.iconst 2, 1) := by decide +kernel
theorem dL_law_785 : decode cL_law 785 = .ok (.iadd, 1) := by decide +kernel
theorem dL_law_786 : decode cL_law 786 = .ok (.iaload, 1) := by decide +kernel
theorem dL_law_787 : decode cL_law 787 = .ok (.invokevirtual 127, 3) := by decide +kernel
theorem dL_law_790 : decode cL_law 790 = .ok (.if_icmp .eq 51, 3) := by decide +kernel
theorem dL_law_793 : decode cL_law 793 = .ok (.iconst 0, 1) := by decide +kernel
theorem dL_law_794 : decode cL_law 794 = .ok (.ireturn, 1) := by decide +kernel
theorem dL_law_795 : decode cL_law 795 = .ok (.aload_n 1, 1) := by decide +kernel
theorem dL_law_796 : decode cL_law 796 = .ok (.aload_n 0, 1) := by decide +kernel
theorem dL_law_797 : decode cL_law 797 = .ok (.iload_n 3, 1) := by decide +kernel
theorem dL_law_798 : decode cL_law 798 = .ok (.iconst 1, 1) := by decide +kernel
theorem dL_law_799 : decode cL_law 799 = .ok (.iadd, 1) := by decide +kernel
theorem dL_law_800 : decode cL_law 800 = .ok (.iaload, 1) := by decide +kernel
theorem dL_law_801 : decode cL_law 801 = .ok (.invokevirtual 128, 3) := by decide +kernel
theorem dL_law_804 : decode cL_law 804 = .ok (.aload_n 2, 1) := by decide +kernel
theorem dL_law_805 : decode cL_law 805 = .ok (.aload_n 0, 1) := by decide +kernel
theorem dL_law_806 : decode cL_law 806 = .ok (.iload_n 3, 1) := by decide +kernel
theorem dL_law_807 : decode cL_law 807 = .ok (.iconst 1, 1) := by decide +kernel
theorem dL_law_808 : decode cL_law 808 = .ok (.iadd, 1) := by decide +kernel
theorem dL_law_809 : decode cL_law 809 = .ok (.iaload, 1) := by decide +kernel
theorem dL_law_810 : decode cL_law 810 = .ok (.invokevirtual 131, 3) := by decide +kernel
theorem dL_law_813 : decode cL_law 813 = .ok (.if_icmp .eq 28, 3) := by decide +kernel
theorem dL_law_816 : decode cL_law 816 = .ok (.iconst 0, 1) := by decide +kernel
theorem dL_law_817 : decode cL_law 817 = .ok (.ireturn, 1) := by decide +kernel
theorem dL_law_818 : decode cL_law 818 = .ok (.aload_n 1, 1) := by decide +kernel
theorem dL_law_819 : decode cL_law 819 = .ok (.aload_n 0, 1) := by decide +kernel
theorem dL_law_820 : decode cL_law 820 = .ok (.iload_n 3, 1) := by decide +kernel
theorem dL_law_821 : decode cL_law 821 = .ok (.iconst 1, 1) := by decide +kernel
theorem dL_law_822 : decode cL_law 822 = .ok (.iadd, 1) := by decide +kernel
theorem dL_law_823 : decode cL_law 823 = .ok (.iaload, 1) := by decide +kernel
theorem dL_law_824 : decode cL_law 824 = .ok (.invokevirtual 132, 3) := by decide +kernel
theorem dL_law_827 : decode cL_law 827 = .ok (.aload_n 2, 1) := by decide +kernel
theorem dL_law_828 : decode cL_law 828 = .ok (.aload_n 0, 1) := by decide +kernel
theorem dL_law_829 : decode cL_law 829 = .ok (.iload_n 3, 1) := by decide +kernel
theorem dL_law_830 : decode cL_law 830 = .ok (.iconst 1, 1) := by decide +kernel
theorem dL_law_831 : decode cL_law 831 = .ok (.iadd, 1) := by decide +kernel
theorem dL_law_832 : decode cL_law 832 = .ok (.iaload, 1) := by decide +kernel
theorem dL_law_833 : decode cL_law 833 = .ok (.invokevirtual 135, 3) := by decide +kernel
theorem dL_law_836 : decode cL_law 836 = .ok (.if_icmp .eq 5, 3) := by decide +kernel
theorem dL_law_839 : decode cL_law 839 = .ok (.iconst 0, 1) := by decide +kernel
theorem dL_law_840 : decode cL_law 840 = .ok (.ireturn, 1) := by decide +kernel
theorem dL_law_841 : decode cL_law 841 = .ok (.iinc 3 4, 3) := by decide +kernel
theorem dL_law_844 : decode cL_law 844 = .ok (.goto (-826), 3) := by decide +kernel
theorem dL_law_847 : decode cL_law 847 = .ok (.iconst 1, 1) := by decide +kernel
theorem dL_law_848 : decode cL_law 848 = .ok (.ireturn, 1) := by decide +kernel

theorem mx_0 : Cond.methodLink RL 13 yX11_append ∈ ct_UW := ct_w2 117 (by decide +kernel) rfl
theorem mx_1 : Cond.instanceMethod yX11_append ∈ ct_UW := ct_w2 118 (by decide +kernel) rfl
theorem mx_2 : Cond.selects RX11 yX11_append yX11_append ∈ ct_UW := ct_w2 119 (by decide +kernel) rfl
theorem mx_3 : Cond.initialized RX11 ∈ ct_UW := ct_w1 1 (by decide +kernel) rfl
theorem mx_4 : Cond.code yX11_append cX11_append 2 (some .int) ∈ ct_UW := ct_w2 120 (by decide +kernel) rfl
theorem mx_5 : Cond.methodLink RL 17 yX12_append ∈ ct_UW := ct_w4 165 (by decide +kernel) rfl
theorem mx_6 : Cond.instanceMethod yX12_append ∈ ct_UW := ct_w4 166 (by decide +kernel) rfl
theorem mx_7 : Cond.selects RX12 yX12_append yX12_append ∈ ct_UW := ct_w4 167 (by decide +kernel) rfl
theorem mx_8 : Cond.initialized RX12 ∈ ct_UW := ct_w1 13 (by decide +kernel) rfl
theorem mx_9 : Cond.code yX12_append cX12_append 2 (some .int) ∈ ct_UW := ct_w4 168 (by decide +kernel) rfl
theorem mx_10 : Cond.methodLink RL 18 yX11_clearText ∈ ct_UW := ct_w2 125 (by decide +kernel) rfl
theorem mx_11 : Cond.instanceMethod yX11_clearText ∈ ct_UW := ct_w2 126 (by decide +kernel) rfl
theorem mx_12 : Cond.selects RX11 yX11_clearText yX11_clearText ∈ ct_UW := ct_w2 127 (by decide +kernel) rfl
theorem mx_13 : Cond.code yX11_clearText cX11_clearText 2 (some .int) ∈ ct_UW := ct_w2 128 (by decide +kernel) rfl
theorem mx_14 : Cond.methodLink RL 22 yX12_clearText ∈ ct_UW := ct_w4 173 (by decide +kernel) rfl
theorem mx_15 : Cond.instanceMethod yX12_clearText ∈ ct_UW := ct_w4 174 (by decide +kernel) rfl
theorem mx_16 : Cond.selects RX12 yX12_clearText yX12_clearText ∈ ct_UW := ct_w4 175 (by decide +kernel) rfl
theorem mx_17 : Cond.code yX12_clearText cX12_clearText 2 (some .int) ∈ ct_UW := ct_w4 176 (by decide +kernel) rfl
theorem mx_18 : Cond.methodLink RL 23 yX11_errorPosition ∈ ct_UW := ct_w2 129 (by decide +kernel) rfl
theorem mx_19 : Cond.instanceMethod yX11_errorPosition ∈ ct_UW := ct_w2 130 (by decide +kernel) rfl
theorem mx_20 : Cond.selects RX11 yX11_errorPosition yX11_errorPosition ∈ ct_UW := ct_w2 131 (by decide +kernel) rfl
theorem mx_21 : Cond.code yX11_errorPosition cX11_errorPosition 1 (some .int) ∈ ct_UW := ct_w2 132 (by decide +kernel) rfl
theorem mx_22 : Cond.methodLink RL 26 yX12_errorPosition ∈ ct_UW := ct_w4 177 (by decide +kernel) rfl
theorem mx_23 : Cond.instanceMethod yX12_errorPosition ∈ ct_UW := ct_w4 178 (by decide +kernel) rfl
theorem mx_24 : Cond.selects RX12 yX12_errorPosition yX12_errorPosition ∈ ct_UW := ct_w4 179 (by decide +kernel) rfl
theorem mx_25 : Cond.code yX12_errorPosition cX12_errorPosition 2 (some .int) ∈ ct_UW := ct_w4 180 (by decide +kernel) rfl
theorem mx_26 : Cond.methodLink RL 27 yX11_load ∈ ct_UW := ct_w2 167 (by decide +kernel) rfl
theorem mx_27 : Cond.instanceMethod yX11_load ∈ ct_UW := ct_w2 168 (by decide +kernel) rfl
theorem mx_28 : Cond.selects RX11 yX11_load yX11_load ∈ ct_UW := ct_w2 169 (by decide +kernel) rfl
theorem mx_29 : Cond.code yX11_load cX11_load 2 (some .int) ∈ ct_UW := ct_w2 170 (by decide +kernel) rfl
theorem mx_30 : Cond.methodLink RL 30 yX12_load ∈ ct_UW := ct_w4 201 (by decide +kernel) rfl
theorem mx_31 : Cond.instanceMethod yX12_load ∈ ct_UW := ct_w4 202 (by decide +kernel) rfl
theorem mx_32 : Cond.selects RX12 yX12_load yX12_load ∈ ct_UW := ct_w4 203 (by decide +kernel) rfl
theorem mx_33 : Cond.code yX12_load cX12_load 2 (some .int) ∈ ct_UW := ct_w4 204 (by decide +kernel) rfl
theorem mx_34 : Cond.methodLink RL 31 yX11_value ∈ ct_UW := ct_w2 213 (by decide +kernel) rfl
theorem mx_35 : Cond.instanceMethod yX11_value ∈ ct_UW := ct_w2 214 (by decide +kernel) rfl
theorem mx_36 : Cond.selects RX11 yX11_value yX11_value ∈ ct_UW := ct_w2 215 (by decide +kernel) rfl
theorem mx_37 : Cond.code yX11_value cX11_value 2 (some .int) ∈ ct_UW := ct_w2 216 (by decide +kernel) rfl
theorem mx_38 : Cond.methodLink RL 34 yX12_value ∈ ct_UW := ct_w4 209 (by decide +kernel) rfl
theorem mx_39 : Cond.instanceMethod yX12_value ∈ ct_UW := ct_w4 210 (by decide +kernel) rfl
theorem mx_40 : Cond.selects RX12 yX12_value yX12_value ∈ ct_UW := ct_w4 211 (by decide +kernel) rfl
theorem mx_41 : Cond.code yX12_value cX12_value 2 (some .int) ∈ ct_UW := ct_w4 212 (by decide +kernel) rfl
theorem mx_42 : Cond.methodLink RL 35 yX11_version ∈ ct_UW := ct_w2 220 (by decide +kernel) rfl
theorem mx_43 : Cond.instanceMethod yX11_version ∈ ct_UW := ct_w2 221 (by decide +kernel) rfl
theorem mx_44 : Cond.selects RX11 yX11_version yX11_version ∈ ct_UW := ct_w2 222 (by decide +kernel) rfl
theorem mx_45 : Cond.code yX11_version cX11_version 2 (some .int) ∈ ct_UW := ct_w2 223 (by decide +kernel) rfl
theorem mx_46 : Cond.methodLink RL 38 yX12_version ∈ ct_UW := ct_w4 217 (by decide +kernel) rfl
theorem mx_47 : Cond.instanceMethod yX12_version ∈ ct_UW := ct_w4 218 (by decide +kernel) rfl
theorem mx_48 : Cond.selects RX12 yX12_version yX12_version ∈ ct_UW := ct_w4 219 (by decide +kernel) rfl
theorem mx_49 : Cond.code yX12_version cX12_version 2 (some .int) ∈ ct_UW := ct_w4 220 (by decide +kernel) rfl
theorem mx_50 : Cond.methodLink RL 39 yX11_threadCount ∈ ct_UW := ct_w2 224 (by decide +kernel) rfl
theorem mx_51 : Cond.instanceMethod yX11_threadCount ∈ ct_UW := ct_w2 225 (by decide +kernel) rfl
theorem mx_52 : Cond.selects RX11 yX11_threadCount yX11_threadCount ∈ ct_UW := ct_w2 226 (by decide +kernel) rfl
theorem mx_53 : Cond.code yX11_threadCount cX11_threadCount 1 (some .int) ∈ ct_UW := ct_w2 227 (by decide +kernel) rfl
theorem mx_54 : Cond.methodLink RL 42 yX12_threadCount ∈ ct_UW := ct_w4 221 (by decide +kernel) rfl
theorem mx_55 : Cond.instanceMethod yX12_threadCount ∈ ct_UW := ct_w4 222 (by decide +kernel) rfl
theorem mx_56 : Cond.selects RX12 yX12_threadCount yX12_threadCount ∈ ct_UW := ct_w4 223 (by decide +kernel) rfl
theorem mx_57 : Cond.code yX12_threadCount cX12_threadCount 1 (some .int) ∈ ct_UW := ct_w4 224 (by decide +kernel) rfl
theorem mx_58 : Cond.methodLink RL 43 yX11_state ∈ ct_UW := ct_w2 228 (by decide +kernel) rfl
theorem mx_59 : Cond.instanceMethod yX11_state ∈ ct_UW := ct_w2 229 (by decide +kernel) rfl
theorem mx_60 : Cond.selects RX11 yX11_state yX11_state ∈ ct_UW := ct_w2 230 (by decide +kernel) rfl
theorem mx_61 : Cond.code yX11_state cX11_state 2 (some .int) ∈ ct_UW := ct_w2 231 (by decide +kernel) rfl
theorem mx_62 : Cond.methodLink RL 46 yX12_state ∈ ct_UW := ct_w4 225 (by decide +kernel) rfl
theorem mx_63 : Cond.instanceMethod yX12_state ∈ ct_UW := ct_w4 226 (by decide +kernel) rfl
theorem mx_64 : Cond.selects RX12 yX12_state yX12_state ∈ ct_UW := ct_w4 227 (by decide +kernel) rfl
theorem mx_65 : Cond.code yX12_state cX12_state 2 (some .int) ∈ ct_UW := ct_w4 228 (by decide +kernel) rfl
theorem mx_66 : Cond.methodLink RL 47 yX11_position ∈ ct_UW := ct_w2 236 (by decide +kernel) rfl
theorem mx_67 : Cond.instanceMethod yX11_position ∈ ct_UW := ct_w2 237 (by decide +kernel) rfl
theorem mx_68 : Cond.selects RX11 yX11_position yX11_position ∈ ct_UW := ct_w2 238 (by decide +kernel) rfl
theorem mx_69 : Cond.code yX11_position cX11_position 2 (some .int) ∈ ct_UW := ct_w2 239 (by decide +kernel) rfl
theorem mx_70 : Cond.methodLink RL 50 yX12_position ∈ ct_UW := ct_w4 233 (by decide +kernel) rfl
theorem mx_71 : Cond.instanceMethod yX12_position ∈ ct_UW := ct_w4 234 (by decide +kernel) rfl
theorem mx_72 : Cond.selects RX12 yX12_position yX12_position ∈ ct_UW := ct_w4 235 (by decide +kernel) rfl
theorem mx_73 : Cond.code yX12_position cX12_position 2 (some .int) ∈ ct_UW := ct_w4 236 (by decide +kernel) rfl
theorem mx_74 : Cond.methodLink RL 51 yX11_accumulator ∈ ct_UW := ct_w3 0 (by decide +kernel) rfl
theorem mx_75 : Cond.instanceMethod yX11_accumulator ∈ ct_UW := ct_w3 1 (by decide +kernel) rfl
theorem mx_76 : Cond.selects RX11 yX11_accumulator yX11_accumulator ∈ ct_UW := ct_w3 2 (by decide +kernel) rfl
theorem mx_77 : Cond.code yX11_accumulator cX11_accumulator 2 (some .int) ∈ ct_UW := ct_w3 3 (by decide +kernel) rfl
theorem mx_78 : Cond.methodLink RL 54 yX12_accumulator ∈ ct_UW := ct_w4 237 (by decide +kernel) rfl
theorem mx_79 : Cond.instanceMethod yX12_accumulator ∈ ct_UW := ct_w4 238 (by decide +kernel) rfl
theorem mx_80 : Cond.selects RX12 yX12_accumulator yX12_accumulator ∈ ct_UW := ct_w4 239 (by decide +kernel) rfl
theorem mx_81 : Cond.code yX12_accumulator cX12_accumulator 2 (some .int) ∈ ct_UW := ct_w5 0 (by decide +kernel) rfl
theorem mx_82 : Cond.methodLink RL 55 yX11_seenValue ∈ ct_UW := ct_w3 4 (by decide +kernel) rfl
theorem mx_83 : Cond.instanceMethod yX11_seenValue ∈ ct_UW := ct_w3 5 (by decide +kernel) rfl
theorem mx_84 : Cond.selects RX11 yX11_seenValue yX11_seenValue ∈ ct_UW := ct_w3 6 (by decide +kernel) rfl
theorem mx_85 : Cond.code yX11_seenValue cX11_seenValue 3 (some .int) ∈ ct_UW := ct_w3 7 (by decide +kernel) rfl
theorem mx_86 : Cond.methodLink RL 59 yX12_seenValue ∈ ct_UW := ct_w5 1 (by decide +kernel) rfl
theorem mx_87 : Cond.instanceMethod yX12_seenValue ∈ ct_UW := ct_w5 2 (by decide +kernel) rfl
theorem mx_88 : Cond.selects RX12 yX12_seenValue yX12_seenValue ∈ ct_UW := ct_w5 3 (by decide +kernel) rfl
theorem mx_89 : Cond.code yX12_seenValue cX12_seenValue 3 (some .int) ∈ ct_UW := ct_w5 4 (by decide +kernel) rfl
theorem mx_90 : Cond.methodLink RL 60 yX11_readSet ∈ ct_UW := ct_w3 17 (by decide +kernel) rfl
theorem mx_91 : Cond.instanceMethod yX11_readSet ∈ ct_UW := ct_w3 18 (by decide +kernel) rfl
theorem mx_92 : Cond.selects RX11 yX11_readSet yX11_readSet ∈ ct_UW := ct_w3 19 (by decide +kernel) rfl
theorem mx_93 : Cond.code yX11_readSet cX11_readSet 2 (some .int) ∈ ct_UW := ct_w3 20 (by decide +kernel) rfl
theorem mx_94 : Cond.methodLink RL 63 yX12_readSet ∈ ct_UW := ct_w5 11 (by decide +kernel) rfl
theorem mx_95 : Cond.instanceMethod yX12_readSet ∈ ct_UW := ct_w5 12 (by decide +kernel) rfl
theorem mx_96 : Cond.selects RX12 yX12_readSet yX12_readSet ∈ ct_UW := ct_w5 13 (by decide +kernel) rfl
theorem mx_97 : Cond.code yX12_readSet cX12_readSet 4 (some .int) ∈ ct_UW := ct_w5 14 (by decide +kernel) rfl
theorem mx_98 : Cond.methodLink RL 64 yX11_writeSet ∈ ct_UW := ct_w3 21 (by decide +kernel) rfl
theorem mx_99 : Cond.instanceMethod yX11_writeSet ∈ ct_UW := ct_w3 22 (by decide +kernel) rfl
theorem mx_100 : Cond.selects RX11 yX11_writeSet yX11_writeSet ∈ ct_UW := ct_w3 23 (by decide +kernel) rfl
theorem mx_101 : Cond.code yX11_writeSet cX11_writeSet 2 (some .int) ∈ ct_UW := ct_w3 24 (by decide +kernel) rfl
theorem mx_102 : Cond.methodLink RL 67 yX12_writeSet ∈ ct_UW := ct_w5 15 (by decide +kernel) rfl
theorem mx_103 : Cond.instanceMethod yX12_writeSet ∈ ct_UW := ct_w5 16 (by decide +kernel) rfl
theorem mx_104 : Cond.selects RX12 yX12_writeSet yX12_writeSet ∈ ct_UW := ct_w5 17 (by decide +kernel) rfl
theorem mx_105 : Cond.code yX12_writeSet cX12_writeSet 2 (some .int) ∈ ct_UW := ct_w5 18 (by decide +kernel) rfl
theorem mx_106 : Cond.methodLink RL 68 yX11_openBlocks ∈ ct_UW := ct_w3 25 (by decide +kernel) rfl
theorem mx_107 : Cond.instanceMethod yX11_openBlocks ∈ ct_UW := ct_w3 26 (by decide +kernel) rfl
theorem mx_108 : Cond.selects RX11 yX11_openBlocks yX11_openBlocks ∈ ct_UW := ct_w3 27 (by decide +kernel) rfl
theorem mx_109 : Cond.code yX11_openBlocks cX11_openBlocks 2 (some .int) ∈ ct_UW := ct_w3 28 (by decide +kernel) rfl
theorem mx_110 : Cond.methodLink RL 71 yX12_openBlocks ∈ ct_UW := ct_w5 19 (by decide +kernel) rfl
theorem mx_111 : Cond.instanceMethod yX12_openBlocks ∈ ct_UW := ct_w5 20 (by decide +kernel) rfl
theorem mx_112 : Cond.selects RX12 yX12_openBlocks yX12_openBlocks ∈ ct_UW := ct_w5 21 (by decide +kernel) rfl
theorem mx_113 : Cond.code yX12_openBlocks cX12_openBlocks 2 (some .int) ∈ ct_UW := ct_w5 22 (by decide +kernel) rfl
theorem mx_114 : Cond.methodLink RL 72 yX11_runsLeft ∈ ct_UW := ct_w3 29 (by decide +kernel) rfl
theorem mx_115 : Cond.instanceMethod yX11_runsLeft ∈ ct_UW := ct_w3 30 (by decide +kernel) rfl
theorem mx_116 : Cond.selects RX11 yX11_runsLeft yX11_runsLeft ∈ ct_UW := ct_w3 31 (by decide +kernel) rfl
theorem mx_117 : Cond.code yX11_runsLeft cX11_runsLeft 2 (some .int) ∈ ct_UW := ct_w3 32 (by decide +kernel) rfl
theorem mx_118 : Cond.methodLink RL 75 yX12_runsLeft ∈ ct_UW := ct_w5 23 (by decide +kernel) rfl
theorem mx_119 : Cond.instanceMethod yX12_runsLeft ∈ ct_UW := ct_w5 24 (by decide +kernel) rfl
theorem mx_120 : Cond.selects RX12 yX12_runsLeft yX12_runsLeft ∈ ct_UW := ct_w5 25 (by decide +kernel) rfl
theorem mx_121 : Cond.code yX12_runsLeft cX12_runsLeft 2 (some .int) ∈ ct_UW := ct_w5 26 (by decide +kernel) rfl
theorem mx_122 : Cond.methodLink RL 76 yX11_restarts ∈ ct_UW := ct_w3 33 (by decide +kernel) rfl
theorem mx_123 : Cond.instanceMethod yX11_restarts ∈ ct_UW := ct_w3 34 (by decide +kernel) rfl
theorem mx_124 : Cond.selects RX11 yX11_restarts yX11_restarts ∈ ct_UW := ct_w3 35 (by decide +kernel) rfl
theorem mx_125 : Cond.code yX11_restarts cX11_restarts 2 (some .int) ∈ ct_UW := ct_w3 36 (by decide +kernel) rfl
theorem mx_126 : Cond.methodLink RL 79 yX12_restarts ∈ ct_UW := ct_w5 27 (by decide +kernel) rfl
theorem mx_127 : Cond.instanceMethod yX12_restarts ∈ ct_UW := ct_w5 28 (by decide +kernel) rfl
theorem mx_128 : Cond.selects RX12 yX12_restarts yX12_restarts ∈ ct_UW := ct_w5 29 (by decide +kernel) rfl
theorem mx_129 : Cond.code yX12_restarts cX12_restarts 2 (some .int) ∈ ct_UW := ct_w5 30 (by decide +kernel) rfl
theorem mx_130 : Cond.methodLink RL 80 yX11_step ∈ ct_UW := ct_w3 37 (by decide +kernel) rfl
theorem mx_131 : Cond.instanceMethod yX11_step ∈ ct_UW := ct_w3 38 (by decide +kernel) rfl
theorem mx_132 : Cond.selects RX11 yX11_step yX11_step ∈ ct_UW := ct_w3 39 (by decide +kernel) rfl
theorem mx_133 : Cond.code yX11_step cX11_step 2 (some .int) ∈ ct_UW := ct_w3 40 (by decide +kernel) rfl
theorem mx_134 : Cond.methodLink RL 83 yX12_step ∈ ct_UW := ct_w5 31 (by decide +kernel) rfl
theorem mx_135 : Cond.instanceMethod yX12_step ∈ ct_UW := ct_w5 32 (by decide +kernel) rfl
theorem mx_136 : Cond.selects RX12 yX12_step yX12_step ∈ ct_UW := ct_w5 33 (by decide +kernel) rfl
theorem mx_137 : Cond.code yX12_step cX12_step 2 (some .int) ∈ ct_UW := ct_w5 34 (by decide +kernel) rfl
theorem mx_138 : Cond.methodLink RL 84 yX11_run ∈ ct_UW := ct_w3 146 (by decide +kernel) rfl
theorem mx_139 : Cond.instanceMethod yX11_run ∈ ct_UW := ct_w3 147 (by decide +kernel) rfl
theorem mx_140 : Cond.selects RX11 yX11_run yX11_run ∈ ct_UW := ct_w3 148 (by decide +kernel) rfl
theorem mx_141 : Cond.code yX11_run cX11_run 4 (some .int) ∈ ct_UW := ct_w3 149 (by decide +kernel) rfl
theorem mx_142 : Cond.methodLink RL 87 yX12_run ∈ ct_UW := ct_w5 87 (by decide +kernel) rfl
theorem mx_143 : Cond.instanceMethod yX12_run ∈ ct_UW := ct_w5 88 (by decide +kernel) rfl
theorem mx_144 : Cond.selects RX12 yX12_run yX12_run ∈ ct_UW := ct_w5 89 (by decide +kernel) rfl
theorem mx_145 : Cond.code yX12_run cX12_run 4 (some .int) ∈ ct_UW := ct_w5 90 (by decide +kernel) rfl
theorem mx_146 : Cond.methodLink RL 88 yX11_setCell ∈ ct_UW := ct_w3 150 (by decide +kernel) rfl
theorem mx_147 : Cond.instanceMethod yX11_setCell ∈ ct_UW := ct_w3 151 (by decide +kernel) rfl
theorem mx_148 : Cond.selects RX11 yX11_setCell yX11_setCell ∈ ct_UW := ct_w3 152 (by decide +kernel) rfl
theorem mx_149 : Cond.code yX11_setCell cX11_setCell 3 (some .int) ∈ ct_UW := ct_w3 153 (by decide +kernel) rfl
theorem mx_150 : Cond.methodLink RL 91 yX12_setCell ∈ ct_UW := ct_w5 91 (by decide +kernel) rfl
theorem mx_151 : Cond.instanceMethod yX12_setCell ∈ ct_UW := ct_w5 92 (by decide +kernel) rfl
theorem mx_152 : Cond.selects RX12 yX12_setCell yX12_setCell ∈ ct_UW := ct_w5 93 (by decide +kernel) rfl
theorem mx_153 : Cond.code yX12_setCell cX12_setCell 3 (some .int) ∈ ct_UW := ct_w5 94 (by decide +kernel) rfl
theorem mx_154 : Cond.methodLink RL 92 yX11_addInvariant ∈ ct_UW := ct_w3 158 (by decide +kernel) rfl
theorem mx_155 : Cond.instanceMethod yX11_addInvariant ∈ ct_UW := ct_w3 159 (by decide +kernel) rfl
theorem mx_156 : Cond.selects RX11 yX11_addInvariant yX11_addInvariant ∈ ct_UW := ct_w3 160 (by decide +kernel) rfl
theorem mx_157 : Cond.code yX11_addInvariant cX11_addInvariant 4 (some .int) ∈ ct_UW := ct_w3 161 (by decide +kernel) rfl
theorem mx_158 : Cond.methodLink RL 96 yX12_addInvariant ∈ ct_UW := ct_w5 97 (by decide +kernel) rfl
theorem mx_159 : Cond.instanceMethod yX12_addInvariant ∈ ct_UW := ct_w5 98 (by decide +kernel) rfl
theorem mx_160 : Cond.selects RX12 yX12_addInvariant yX12_addInvariant ∈ ct_UW := ct_w5 99 (by decide +kernel) rfl
theorem mx_161 : Cond.code yX12_addInvariant cX12_addInvariant 5 (some .int) ∈ ct_UW := ct_w5 100 (by decide +kernel) rfl
theorem mx_162 : Cond.methodLink RL 97 yX11_undo ∈ ct_UW := ct_w3 166 (by decide +kernel) rfl
theorem mx_163 : Cond.instanceMethod yX11_undo ∈ ct_UW := ct_w3 167 (by decide +kernel) rfl
theorem mx_164 : Cond.selects RX11 yX11_undo yX11_undo ∈ ct_UW := ct_w3 168 (by decide +kernel) rfl
theorem mx_165 : Cond.code yX11_undo cX11_undo 1 (some .int) ∈ ct_UW := ct_w3 169 (by decide +kernel) rfl
theorem mx_166 : Cond.methodLink RL 100 yX12_undo ∈ ct_UW := ct_w5 101 (by decide +kernel) rfl
theorem mx_167 : Cond.instanceMethod yX12_undo ∈ ct_UW := ct_w5 102 (by decide +kernel) rfl
theorem mx_168 : Cond.selects RX12 yX12_undo yX12_undo ∈ ct_UW := ct_w5 103 (by decide +kernel) rfl
theorem mx_169 : Cond.code yX12_undo cX12_undo 2 (some .int) ∈ ct_UW := ct_w5 104 (by decide +kernel) rfl
theorem mx_170 : Cond.methodLink RL 101 yX11_outcomeCount ∈ ct_UW := ct_w3 174 (by decide +kernel) rfl
theorem mx_171 : Cond.instanceMethod yX11_outcomeCount ∈ ct_UW := ct_w3 175 (by decide +kernel) rfl
theorem mx_172 : Cond.selects RX11 yX11_outcomeCount yX11_outcomeCount ∈ ct_UW := ct_w3 176 (by decide +kernel) rfl
theorem mx_173 : Cond.code yX11_outcomeCount cX11_outcomeCount 1 (some .int) ∈ ct_UW := ct_w3 177 (by decide +kernel) rfl
theorem mx_174 : Cond.methodLink RL 104 yX12_outcomeCount ∈ ct_UW := ct_w5 105 (by decide +kernel) rfl
theorem mx_175 : Cond.instanceMethod yX12_outcomeCount ∈ ct_UW := ct_w5 106 (by decide +kernel) rfl
theorem mx_176 : Cond.selects RX12 yX12_outcomeCount yX12_outcomeCount ∈ ct_UW := ct_w5 107 (by decide +kernel) rfl
theorem mx_177 : Cond.code yX12_outcomeCount cX12_outcomeCount 1 (some .int) ∈ ct_UW := ct_w5 108 (by decide +kernel) rfl
theorem mx_178 : Cond.methodLink RL 105 yX11_possibleOutcomes ∈ ct_UW := ct_w4 2 (by decide +kernel) rfl
theorem mx_179 : Cond.instanceMethod yX11_possibleOutcomes ∈ ct_UW := ct_w4 3 (by decide +kernel) rfl
theorem mx_180 : Cond.selects RX11 yX11_possibleOutcomes yX11_possibleOutcomes ∈ ct_UW := ct_w4 4 (by decide +kernel) rfl
theorem mx_181 : Cond.code yX11_possibleOutcomes cX11_possibleOutcomes 3 (some .int) ∈ ct_UW := ct_w4 5 (by decide +kernel) rfl
theorem mx_182 : Cond.methodLink RL 108 yX12_possibleOutcomes ∈ ct_UW := ct_w5 142 (by decide +kernel) rfl
theorem mx_183 : Cond.instanceMethod yX12_possibleOutcomes ∈ ct_UW := ct_w5 143 (by decide +kernel) rfl
theorem mx_184 : Cond.selects RX12 yX12_possibleOutcomes yX12_possibleOutcomes ∈ ct_UW := ct_w5 144 (by decide +kernel) rfl
theorem mx_185 : Cond.code yX12_possibleOutcomes cX12_possibleOutcomes 5 (some .int) ∈ ct_UW := ct_w5 145 (by decide +kernel) rfl
theorem mx_186 : Cond.methodLink RL 109 yX11_canDeadlock ∈ ct_UW := ct_w4 11 (by decide +kernel) rfl
theorem mx_187 : Cond.instanceMethod yX11_canDeadlock ∈ ct_UW := ct_w4 12 (by decide +kernel) rfl
theorem mx_188 : Cond.selects RX11 yX11_canDeadlock yX11_canDeadlock ∈ ct_UW := ct_w4 13 (by decide +kernel) rfl
theorem mx_189 : Cond.code yX11_canDeadlock cX11_canDeadlock 2 (some .int) ∈ ct_UW := ct_w4 14 (by decide +kernel) rfl
theorem mx_190 : Cond.methodLink RL 112 yX12_canDeadlock ∈ ct_UW := ct_w5 146 (by decide +kernel) rfl
theorem mx_191 : Cond.instanceMethod yX12_canDeadlock ∈ ct_UW := ct_w5 147 (by decide +kernel) rfl
theorem mx_192 : Cond.selects RX12 yX12_canDeadlock yX12_canDeadlock ∈ ct_UW := ct_w5 148 (by decide +kernel) rfl
theorem mx_193 : Cond.code yX12_canDeadlock cX12_canDeadlock 2 (some .int) ∈ ct_UW := ct_w5 149 (by decide +kernel) rfl
theorem mx_194 : Cond.methodLink RL 113 yX11_greatestOutcome ∈ ct_UW := ct_w4 16 (by decide +kernel) rfl
theorem mx_195 : Cond.instanceMethod yX11_greatestOutcome ∈ ct_UW := ct_w4 17 (by decide +kernel) rfl
theorem mx_196 : Cond.selects RX11 yX11_greatestOutcome yX11_greatestOutcome ∈ ct_UW := ct_w4 18 (by decide +kernel) rfl
theorem mx_197 : Cond.code yX11_greatestOutcome cX11_greatestOutcome 4 (some .int) ∈ ct_UW := ct_w4 19 (by decide +kernel) rfl
theorem mx_198 : Cond.methodLink RL 116 yX12_greatestOutcome ∈ ct_UW := ct_w5 151 (by decide +kernel) rfl
theorem mx_199 : Cond.instanceMethod yX12_greatestOutcome ∈ ct_UW := ct_w5 152 (by decide +kernel) rfl
theorem mx_200 : Cond.selects RX12 yX12_greatestOutcome yX12_greatestOutcome ∈ ct_UW := ct_w5 153 (by decide +kernel) rfl
theorem mx_201 : Cond.code yX12_greatestOutcome cX12_greatestOutcome 5 (some .int) ∈ ct_UW := ct_w5 154 (by decide +kernel) rfl
theorem mx_202 : Cond.constantLong RL 117 (4294967295) ∈ ct_UW := ct_w5 184 (by decide +kernel) rfl
theorem mx_203 : Cond.methodLink RL 119 yX11_runScript ∈ ct_UW := ct_w4 21 (by decide +kernel) rfl
theorem mx_204 : Cond.instanceMethod yX11_runScript ∈ ct_UW := ct_w4 22 (by decide +kernel) rfl
theorem mx_205 : Cond.selects RX11 yX11_runScript yX11_runScript ∈ ct_UW := ct_w4 23 (by decide +kernel) rfl
theorem mx_206 : Cond.code yX11_runScript cX11_runScript 8 (some .int) ∈ ct_UW := ct_w4 24 (by decide +kernel) rfl
theorem mx_207 : Cond.methodLink RL 123 yX12_runScript ∈ ct_UW := ct_w5 155 (by decide +kernel) rfl
theorem mx_208 : Cond.instanceMethod yX12_runScript ∈ ct_UW := ct_w5 156 (by decide +kernel) rfl
theorem mx_209 : Cond.selects RX12 yX12_runScript yX12_runScript ∈ ct_UW := ct_w5 157 (by decide +kernel) rfl
theorem mx_210 : Cond.code yX12_runScript cX12_runScript 6 (some .int) ∈ ct_UW := ct_w5 158 (by decide +kernel) rfl
theorem mx_211 : Cond.methodLink RL 124 yX11_observe ∈ ct_UW := ct_w4 35 (by decide +kernel) rfl
theorem mx_212 : Cond.instanceMethod yX11_observe ∈ ct_UW := ct_w4 36 (by decide +kernel) rfl
theorem mx_213 : Cond.selects RX11 yX11_observe yX11_observe ∈ ct_UW := ct_w4 37 (by decide +kernel) rfl
theorem mx_214 : Cond.code yX11_observe cX11_observe 3 (some .int) ∈ ct_UW := ct_w4 38 (by decide +kernel) rfl
theorem mx_215 : Cond.methodLink RL 127 yX12_observe ∈ ct_UW := ct_w5 168 (by decide +kernel) rfl
theorem mx_216 : Cond.instanceMethod yX12_observe ∈ ct_UW := ct_w5 169 (by decide +kernel) rfl
theorem mx_217 : Cond.selects RX12 yX12_observe yX12_observe ∈ ct_UW := ct_w5 170 (by decide +kernel) rfl
theorem mx_218 : Cond.code yX12_observe cX12_observe 4 (some .int) ∈ ct_UW := ct_w5 171 (by decide +kernel) rfl
theorem mx_219 : Cond.methodLink RL 128 yX11_save ∈ ct_UW := ct_w4 44 (by decide +kernel) rfl
theorem mx_220 : Cond.instanceMethod yX11_save ∈ ct_UW := ct_w4 45 (by decide +kernel) rfl
theorem mx_221 : Cond.selects RX11 yX11_save yX11_save ∈ ct_UW := ct_w4 46 (by decide +kernel) rfl
theorem mx_222 : Cond.code yX11_save cX11_save 2 (some .int) ∈ ct_UW := ct_w4 47 (by decide +kernel) rfl
theorem mx_223 : Cond.methodLink RL 131 yX12_save ∈ ct_UW := ct_w5 172 (by decide +kernel) rfl
theorem mx_224 : Cond.instanceMethod yX12_save ∈ ct_UW := ct_w5 173 (by decide +kernel) rfl
theorem mx_225 : Cond.selects RX12 yX12_save yX12_save ∈ ct_UW := ct_w5 174 (by decide +kernel) rfl
theorem mx_226 : Cond.code yX12_save cX12_save 3 (some .int) ∈ ct_UW := ct_w5 175 (by decide +kernel) rfl
theorem mx_227 : Cond.methodLink RL 132 yX11_restore ∈ ct_UW := ct_w4 52 (by decide +kernel) rfl
theorem mx_228 : Cond.instanceMethod yX11_restore ∈ ct_UW := ct_w4 53 (by decide +kernel) rfl
theorem mx_229 : Cond.selects RX11 yX11_restore yX11_restore ∈ ct_UW := ct_w4 54 (by decide +kernel) rfl
theorem mx_230 : Cond.code yX11_restore cX11_restore 2 (some .int) ∈ ct_UW := ct_w4 55 (by decide +kernel) rfl
theorem mx_231 : Cond.methodLink RL 135 yX12_restore ∈ ct_UW := ct_w5 180 (by decide +kernel) rfl
theorem mx_232 : Cond.instanceMethod yX12_restore ∈ ct_UW := ct_w5 181 (by decide +kernel) rfl
theorem mx_233 : Cond.selects RX12 yX12_restore yX12_restore ∈ ct_UW := ct_w5 182 (by decide +kernel) rfl
theorem mx_234 : Cond.code yX12_restore cX12_restore 3 (some .int) ∈ ct_UW := ct_w5 183 (by decide +kernel) rfl
theorem kl_L_13 : ct_kV RL 13 yX11_append cX11_append 2 (some .int) 1 := ⟨mx_0, mx_1, mx_2, mx_3, mx_4, ⟨by decide +kernel, by decide +kernel, by decide +kernel⟩⟩
theorem kl_L_17 : ct_kV RL 17 yX12_append cX12_append 2 (some .int) 1 := ⟨mx_5, mx_6, mx_7, mx_8, mx_9, ⟨by decide +kernel, by decide +kernel, by decide +kernel⟩⟩
theorem kl_L_18 : ct_kV RL 18 yX11_clearText cX11_clearText 2 (some .int) 0 := ⟨mx_10, mx_11, mx_12, mx_3, mx_13, ⟨by decide +kernel, by decide +kernel, by decide +kernel⟩⟩
theorem kl_L_22 : ct_kV RL 22 yX12_clearText cX12_clearText 2 (some .int) 0 := ⟨mx_14, mx_15, mx_16, mx_8, mx_17, ⟨by decide +kernel, by decide +kernel, by decide +kernel⟩⟩
theorem kl_L_23 : ct_kV RL 23 yX11_errorPosition cX11_errorPosition 1 (some .int) 0 := ⟨mx_18, mx_19, mx_20, mx_3, mx_21, ⟨by decide +kernel, by decide +kernel, by decide +kernel⟩⟩
theorem kl_L_26 : ct_kV RL 26 yX12_errorPosition cX12_errorPosition 2 (some .int) 0 := ⟨mx_22, mx_23, mx_24, mx_8, mx_25, ⟨by decide +kernel, by decide +kernel, by decide +kernel⟩⟩
theorem kl_L_27 : ct_kV RL 27 yX11_load cX11_load 2 (some .int) 0 := ⟨mx_26, mx_27, mx_28, mx_3, mx_29, ⟨by decide +kernel, by decide +kernel, by decide +kernel⟩⟩
theorem kl_L_30 : ct_kV RL 30 yX12_load cX12_load 2 (some .int) 0 := ⟨mx_30, mx_31, mx_32, mx_8, mx_33, ⟨by decide +kernel, by decide +kernel, by decide +kernel⟩⟩
theorem kl_L_31 : ct_kV RL 31 yX11_value cX11_value 2 (some .int) 1 := ⟨mx_34, mx_35, mx_36, mx_3, mx_37, ⟨by decide +kernel, by decide +kernel, by decide +kernel⟩⟩
theorem kl_L_34 : ct_kV RL 34 yX12_value cX12_value 2 (some .int) 1 := ⟨mx_38, mx_39, mx_40, mx_8, mx_41, ⟨by decide +kernel, by decide +kernel, by decide +kernel⟩⟩
theorem kl_L_35 : ct_kV RL 35 yX11_version cX11_version 2 (some .int) 1 := ⟨mx_42, mx_43, mx_44, mx_3, mx_45, ⟨by decide +kernel, by decide +kernel, by decide +kernel⟩⟩
theorem kl_L_38 : ct_kV RL 38 yX12_version cX12_version 2 (some .int) 1 := ⟨mx_46, mx_47, mx_48, mx_8, mx_49, ⟨by decide +kernel, by decide +kernel, by decide +kernel⟩⟩
theorem kl_L_39 : ct_kV RL 39 yX11_threadCount cX11_threadCount 1 (some .int) 0 := ⟨mx_50, mx_51, mx_52, mx_3, mx_53, ⟨by decide +kernel, by decide +kernel, by decide +kernel⟩⟩
theorem kl_L_42 : ct_kV RL 42 yX12_threadCount cX12_threadCount 1 (some .int) 0 := ⟨mx_54, mx_55, mx_56, mx_8, mx_57, ⟨by decide +kernel, by decide +kernel, by decide +kernel⟩⟩
theorem kl_L_43 : ct_kV RL 43 yX11_state cX11_state 2 (some .int) 1 := ⟨mx_58, mx_59, mx_60, mx_3, mx_61, ⟨by decide +kernel, by decide +kernel, by decide +kernel⟩⟩
theorem kl_L_46 : ct_kV RL 46 yX12_state cX12_state 2 (some .int) 1 := ⟨mx_62, mx_63, mx_64, mx_8, mx_65, ⟨by decide +kernel, by decide +kernel, by decide +kernel⟩⟩
theorem kl_L_47 : ct_kV RL 47 yX11_position cX11_position 2 (some .int) 1 := ⟨mx_66, mx_67, mx_68, mx_3, mx_69, ⟨by decide +kernel, by decide +kernel, by decide +kernel⟩⟩
theorem kl_L_50 : ct_kV RL 50 yX12_position cX12_position 2 (some .int) 1 := ⟨mx_70, mx_71, mx_72, mx_8, mx_73, ⟨by decide +kernel, by decide +kernel, by decide +kernel⟩⟩
theorem kl_L_51 : ct_kV RL 51 yX11_accumulator cX11_accumulator 2 (some .int) 1 := ⟨mx_74, mx_75, mx_76, mx_3, mx_77, ⟨by decide +kernel, by decide +kernel, by decide +kernel⟩⟩
theorem kl_L_54 : ct_kV RL 54 yX12_accumulator cX12_accumulator 2 (some .int) 1 := ⟨mx_78, mx_79, mx_80, mx_8, mx_81, ⟨by decide +kernel, by decide +kernel, by decide +kernel⟩⟩
theorem kl_L_55 : ct_kV RL 55 yX11_seenValue cX11_seenValue 3 (some .int) 2 := ⟨mx_82, mx_83, mx_84, mx_3, mx_85, ⟨by decide +kernel, by decide +kernel, by decide +kernel⟩⟩
theorem kl_L_59 : ct_kV RL 59 yX12_seenValue cX12_seenValue 3 (some .int) 2 := ⟨mx_86, mx_87, mx_88, mx_8, mx_89, ⟨by decide +kernel, by decide +kernel, by decide +kernel⟩⟩
theorem kl_L_60 : ct_kV RL 60 yX11_readSet cX11_readSet 2 (some .int) 1 := ⟨mx_90, mx_91, mx_92, mx_3, mx_93, ⟨by decide +kernel, by decide +kernel, by decide +kernel⟩⟩
theorem kl_L_63 : ct_kV RL 63 yX12_readSet cX12_readSet 4 (some .int) 1 := ⟨mx_94, mx_95, mx_96, mx_8, mx_97, ⟨by decide +kernel, by decide +kernel, by decide +kernel⟩⟩
theorem kl_L_64 : ct_kV RL 64 yX11_writeSet cX11_writeSet 2 (some .int) 1 := ⟨mx_98, mx_99, mx_100, mx_3, mx_101, ⟨by decide +kernel, by decide +kernel, by decide +kernel⟩⟩
theorem kl_L_67 : ct_kV RL 67 yX12_writeSet cX12_writeSet 2 (some .int) 1 := ⟨mx_102, mx_103, mx_104, mx_8, mx_105, ⟨by decide +kernel, by decide +kernel, by decide +kernel⟩⟩
theorem kl_L_68 : ct_kV RL 68 yX11_openBlocks cX11_openBlocks 2 (some .int) 1 := ⟨mx_106, mx_107, mx_108, mx_3, mx_109, ⟨by decide +kernel, by decide +kernel, by decide +kernel⟩⟩
theorem kl_L_71 : ct_kV RL 71 yX12_openBlocks cX12_openBlocks 2 (some .int) 1 := ⟨mx_110, mx_111, mx_112, mx_8, mx_113, ⟨by decide +kernel, by decide +kernel, by decide +kernel⟩⟩
theorem kl_L_72 : ct_kV RL 72 yX11_runsLeft cX11_runsLeft 2 (some .int) 1 := ⟨mx_114, mx_115, mx_116, mx_3, mx_117, ⟨by decide +kernel, by decide +kernel, by decide +kernel⟩⟩
theorem kl_L_75 : ct_kV RL 75 yX12_runsLeft cX12_runsLeft 2 (some .int) 1 := ⟨mx_118, mx_119, mx_120, mx_8, mx_121, ⟨by decide +kernel, by decide +kernel, by decide +kernel⟩⟩
theorem kl_L_76 : ct_kV RL 76 yX11_restarts cX11_restarts 2 (some .int) 1 := ⟨mx_122, mx_123, mx_124, mx_3, mx_125, ⟨by decide +kernel, by decide +kernel, by decide +kernel⟩⟩
theorem kl_L_79 : ct_kV RL 79 yX12_restarts cX12_restarts 2 (some .int) 1 := ⟨mx_126, mx_127, mx_128, mx_8, mx_129, ⟨by decide +kernel, by decide +kernel, by decide +kernel⟩⟩
theorem kl_L_80 : ct_kV RL 80 yX11_step cX11_step 2 (some .int) 1 := ⟨mx_130, mx_131, mx_132, mx_3, mx_133, ⟨by decide +kernel, by decide +kernel, by decide +kernel⟩⟩
theorem kl_L_83 : ct_kV RL 83 yX12_step cX12_step 2 (some .int) 1 := ⟨mx_134, mx_135, mx_136, mx_8, mx_137, ⟨by decide +kernel, by decide +kernel, by decide +kernel⟩⟩
theorem kl_L_84 : ct_kV RL 84 yX11_run cX11_run 4 (some .int) 1 := ⟨mx_138, mx_139, mx_140, mx_3, mx_141, ⟨by decide +kernel, by decide +kernel, by decide +kernel⟩⟩
theorem kl_L_87 : ct_kV RL 87 yX12_run cX12_run 4 (some .int) 1 := ⟨mx_142, mx_143, mx_144, mx_8, mx_145, ⟨by decide +kernel, by decide +kernel, by decide +kernel⟩⟩
theorem kl_L_88 : ct_kV RL 88 yX11_setCell cX11_setCell 3 (some .int) 2 := ⟨mx_146, mx_147, mx_148, mx_3, mx_149, ⟨by decide +kernel, by decide +kernel, by decide +kernel⟩⟩
theorem kl_L_91 : ct_kV RL 91 yX12_setCell cX12_setCell 3 (some .int) 2 := ⟨mx_150, mx_151, mx_152, mx_8, mx_153, ⟨by decide +kernel, by decide +kernel, by decide +kernel⟩⟩
theorem kl_L_92 : ct_kV RL 92 yX11_addInvariant cX11_addInvariant 4 (some .int) 3 := ⟨mx_154, mx_155, mx_156, mx_3, mx_157, ⟨by decide +kernel, by decide +kernel, by decide +kernel⟩⟩
theorem kl_L_96 : ct_kV RL 96 yX12_addInvariant cX12_addInvariant 5 (some .int) 3 := ⟨mx_158, mx_159, mx_160, mx_8, mx_161, ⟨by decide +kernel, by decide +kernel, by decide +kernel⟩⟩
theorem kl_L_97 : ct_kV RL 97 yX11_undo cX11_undo 1 (some .int) 0 := ⟨mx_162, mx_163, mx_164, mx_3, mx_165, ⟨by decide +kernel, by decide +kernel, by decide +kernel⟩⟩
theorem kl_L_100 : ct_kV RL 100 yX12_undo cX12_undo 2 (some .int) 0 := ⟨mx_166, mx_167, mx_168, mx_8, mx_169, ⟨by decide +kernel, by decide +kernel, by decide +kernel⟩⟩
theorem kl_L_101 : ct_kV RL 101 yX11_outcomeCount cX11_outcomeCount 1 (some .int) 0 := ⟨mx_170, mx_171, mx_172, mx_3, mx_173, ⟨by decide +kernel, by decide +kernel, by decide +kernel⟩⟩
theorem kl_L_104 : ct_kV RL 104 yX12_outcomeCount cX12_outcomeCount 1 (some .int) 0 := ⟨mx_174, mx_175, mx_176, mx_8, mx_177, ⟨by decide +kernel, by decide +kernel, by decide +kernel⟩⟩
theorem kl_L_105 : ct_kV RL 105 yX11_possibleOutcomes cX11_possibleOutcomes 3 (some .int) 0 := ⟨mx_178, mx_179, mx_180, mx_3, mx_181, ⟨by decide +kernel, by decide +kernel, by decide +kernel⟩⟩
theorem kl_L_108 : ct_kV RL 108 yX12_possibleOutcomes cX12_possibleOutcomes 5 (some .int) 0 := ⟨mx_182, mx_183, mx_184, mx_8, mx_185, ⟨by decide +kernel, by decide +kernel, by decide +kernel⟩⟩
theorem kl_L_109 : ct_kV RL 109 yX11_canDeadlock cX11_canDeadlock 2 (some .int) 0 := ⟨mx_186, mx_187, mx_188, mx_3, mx_189, ⟨by decide +kernel, by decide +kernel, by decide +kernel⟩⟩
theorem kl_L_112 : ct_kV RL 112 yX12_canDeadlock cX12_canDeadlock 2 (some .int) 0 := ⟨mx_190, mx_191, mx_192, mx_8, mx_193, ⟨by decide +kernel, by decide +kernel, by decide +kernel⟩⟩
theorem kl_L_113 : ct_kV RL 113 yX11_greatestOutcome cX11_greatestOutcome 4 (some .int) 1 := ⟨mx_194, mx_195, mx_196, mx_3, mx_197, ⟨by decide +kernel, by decide +kernel, by decide +kernel⟩⟩
theorem kl_L_116 : ct_kV RL 116 yX12_greatestOutcome cX12_greatestOutcome 5 (some .int) 1 := ⟨mx_198, mx_199, mx_200, mx_8, mx_201, ⟨by decide +kernel, by decide +kernel, by decide +kernel⟩⟩
theorem kl_L_119 : ct_kV RL 119 yX11_runScript cX11_runScript 8 (some .int) 2 := ⟨mx_203, mx_204, mx_205, mx_3, mx_206, ⟨by decide +kernel, by decide +kernel, by decide +kernel⟩⟩
theorem kl_L_123 : ct_kV RL 123 yX12_runScript cX12_runScript 6 (some .int) 2 := ⟨mx_207, mx_208, mx_209, mx_8, mx_210, ⟨by decide +kernel, by decide +kernel, by decide +kernel⟩⟩
theorem kl_L_124 : ct_kV RL 124 yX11_observe cX11_observe 3 (some .int) 2 := ⟨mx_211, mx_212, mx_213, mx_3, mx_214, ⟨by decide +kernel, by decide +kernel, by decide +kernel⟩⟩
theorem kl_L_127 : ct_kV RL 127 yX12_observe cX12_observe 4 (some .int) 2 := ⟨mx_215, mx_216, mx_217, mx_8, mx_218, ⟨by decide +kernel, by decide +kernel, by decide +kernel⟩⟩
theorem kl_L_128 : ct_kV RL 128 yX11_save cX11_save 2 (some .int) 1 := ⟨mx_219, mx_220, mx_221, mx_3, mx_222, ⟨by decide +kernel, by decide +kernel, by decide +kernel⟩⟩
theorem kl_L_131 : ct_kV RL 131 yX12_save cX12_save 3 (some .int) 1 := ⟨mx_223, mx_224, mx_225, mx_8, mx_226, ⟨by decide +kernel, by decide +kernel, by decide +kernel⟩⟩
theorem kl_L_132 : ct_kV RL 132 yX11_restore cX11_restore 2 (some .int) 1 := ⟨mx_227, mx_228, mx_229, mx_3, mx_230, ⟨by decide +kernel, by decide +kernel, by decide +kernel⟩⟩
theorem kl_L_135 : ct_kV RL 135 yX12_restore cX12_restore 3 (some .int) 1 := ⟨mx_231, mx_232, mx_233, mx_8, mx_234, ⟨by decide +kernel, by decide +kernel, by decide +kernel⟩⟩
theorem lw_end {p : Program} {l : Launch} {e : Env} {s : State} {mth : MethodId} {below : List Frame} {meth : Method} {c : Code} {D : va_G} {cy : Nat → ClassId} {o b N kc ks pc : Nat} {m : ct_M} {lv : List (Nat × Value)} (C : ct_Cx p s mth c cL_law 4 #[Value.ref b] RL D cy) (hr : meth.sig.returnType = ret) (hlk : meth.locks = false) (hk : kc ≤ 600000) (hs : ks ≤ 7302250) (hso : o = s.heap.size) {d : decode code pc = .ok (.ireturn, 1)} : ct_J p l e room_1 s mth #[Value.ref b] below meth c 4 D cy o N kc ks (lw_Z below #[Value.ref b] s) m pc lv [.int 1] := by
  intro H locs ls hP hS hl
  subst hso
  refine va_forget (fun q hq => hS.2.2 q hq) ?_
  refine W.widen (k := 600000) (n := 7302250) hk hs ?_
  exact lw_ret C.1 C.2.1 hr hlk d
theorem lw_slen {p : Program} {l : Launch} {e : Env} {s : State} {mth : MethodId} {below : List Frame} {meth : Method} {c : Code} {D : va_G} {cy : Nat → ClassId} {o b L N kc ks pc : Nat} {xs : Nat → Int32} {QQ : State → Prop} {m : ct_M} {lv : List (Nat × Value)} {st : List Value} (C : ct_Cx p s mth c cL_law 4 #[Value.ref b] RL D cy) (hX : va_X b L xs s s.heap) (hbl : b < s.heap.size) (hso : o = s.heap.size) (d : decode cL_law pc = .ok (.arraylength, 1)) (kk : ct_J p l e room_1 s mth #[Value.ref b] below meth c 4 D cy o N kc ks QQ m (pc + 1) lv (.int (Int32.ofNat L) :: st)) : ct_J p l e room_1 s mth #[Value.ref b] below meth c 4 D cy o N kc ks QQ m pc lv (.ref b :: st) := fun H locs ls hP hS hl => va_slen C.1 C.2.1 hX hbl (by show ¬ o ≤ b; omega) hS d (kk H locs ls hP hS hl)
theorem lw_sld {p : Program} {l : Launch} {e : Env} {s : State} {mth : MethodId} {below : List Frame} {meth : Method} {c : Code} {D : va_G} {cy : Nat → ClassId} {o b L N kc ks pc : Nat} {xs : Nat → Int32} {QQ : State → Prop} {m : ct_M} {lv : List (Nat × Value)} {st : List Value} {i : Int32} (C : ct_Cx p s mth c cL_law 4 #[Value.ref b] RL D cy) (hX : va_X b L xs s s.heap) (hbl : b < s.heap.size) (hso : o = s.heap.size) (hi : vp_in i L) (d : decode cL_law pc = .ok (.iaload, 1)) (kk : ct_J p l e room_1 s mth #[Value.ref b] below meth c 4 D cy o N kc ks QQ m (pc + 1) lv (.int (xs i.toNatClampNeg) :: st)) : ct_J p l e room_1 s mth #[Value.ref b] below meth c 4 D cy o N kc ks QQ m pc lv (.int i :: .ref b :: st) := fun H locs ls hP hS hl => va_sld C.1 C.2.1 hX hbl (by show ¬ o ≤ b; omega) hS hi d (kk H locs ls hP hS hl)
def wb_L_law_841 (xs : Nat → Int32) (L : Nat) (K18 : Nat → Nat → Int32 → ct_M → Prop) (v1 : Nat) (v2 : Nat) (v3 : Int32) (m : ct_M) : Prop := ∀ x1 : Int32, x1 = v3 + (4 : Int32) → K18 v1 v2 x1 m
def wb_L_law_18 (xs : Nat → Int32) (L : Nat) : Nat → Nat → Nat → Int32 → ct_M → Prop
  | 0 => fun _ _ _ _ => False
  | n + 1 => fun v1 v2 v3 m => ((((Int32.ofNat L) - (4 : Int32)) < v3 → True) ∧ (¬ ((Int32.ofNat L) - (4 : Int32)) < v3 → vp_in v3 L ∧ ((((xs v3.toNatClampNeg) &&& (31 : Int32)) = (0 : Int32) → vp_in (v3 + (1 : Int32)) L ∧ wp_X11_append v1 (xs (v3 + (1 : Int32)).toNatClampNeg) (fun (r4 : Int32) (m3 : ct_M) => vp_in (v3 + (1 : Int32)) L ∧ wp_X12_append v2 (xs (v3 + (1 : Int32)).toNatClampNeg) (fun (r6 : Int32) (m5 : ct_M) => ((r4 = r6 → wb_L_law_841 xs L (wb_L_law_18 xs L n) v1 v2 v3 m5) ∧ (¬ r4 = r6 → False))) m3) m) ∧ (¬ ((xs v3.toNatClampNeg) &&& (31 : Int32)) = (0 : Int32) → ((((xs v3.toNatClampNeg) &&& (31 : Int32)) = (1 : Int32) → wp_X11_clearText v1 (fun (r10 : Int32) (m9 : ct_M) => wp_X12_clearText v2 (fun (r12 : Int32) (m11 : ct_M) => ((r10 = r12 → wb_L_law_841 xs L (wb_L_law_18 xs L n) v1 v2 v3 m11) ∧ (¬ r10 = r12 → False))) m9) m) ∧ (¬ ((xs v3.toNatClampNeg) &&& (31 : Int32)) = (1 : Int32) → ((((xs v3.toNatClampNeg) &&& (31 : Int32)) = (2 : Int32) → wp_X11_errorPosition v1 (fun (r16 : Int32) (m15 : ct_M) => wp_X12_errorPosition v2 (fun (r18 : Int32) (m17 : ct_M) => ((r16 = r18 → wb_L_law_841 xs L (wb_L_law_18 xs L n) v1 v2 v3 m17) ∧ (¬ r16 = r18 → False))) m15) m) ∧ (¬ ((xs v3.toNatClampNeg) &&& (31 : Int32)) = (2 : Int32) → ((((xs v3.toNatClampNeg) &&& (31 : Int32)) = (3 : Int32) → wp_X11_load v1 (fun (r22 : Int32) (m21 : ct_M) => wp_X12_load v2 (fun (r24 : Int32) (m23 : ct_M) => ((r22 = r24 → wb_L_law_841 xs L (wb_L_law_18 xs L n) v1 v2 v3 m23) ∧ (¬ r22 = r24 → False))) m21) m) ∧ (¬ ((xs v3.toNatClampNeg) &&& (31 : Int32)) = (3 : Int32) → ((((xs v3.toNatClampNeg) &&& (31 : Int32)) = (4 : Int32) → vp_in (v3 + (1 : Int32)) L ∧ wp_X11_value v1 (xs (v3 + (1 : Int32)).toNatClampNeg) (fun (r28 : Int32) (m27 : ct_M) => vp_in (v3 + (1 : Int32)) L ∧ wp_X12_value v2 (xs (v3 + (1 : Int32)).toNatClampNeg) (fun (r30 : Int32) (m29 : ct_M) => ((r28 = r30 → wb_L_law_841 xs L (wb_L_law_18 xs L n) v1 v2 v3 m29) ∧ (¬ r28 = r30 → False))) m27) m) ∧ (¬ ((xs v3.toNatClampNeg) &&& (31 : Int32)) = (4 : Int32) → ((((xs v3.toNatClampNeg) &&& (31 : Int32)) = (5 : Int32) → vp_in (v3 + (1 : Int32)) L ∧ wp_X11_version v1 (xs (v3 + (1 : Int32)).toNatClampNeg) (fun (r34 : Int32) (m33 : ct_M) => vp_in (v3 + (1 : Int32)) L ∧ wp_X12_version v2 (xs (v3 + (1 : Int32)).toNatClampNeg) (fun (r36 : Int32) (m35 : ct_M) => ((r34 = r36 → wb_L_law_841 xs L (wb_L_law_18 xs L n) v1 v2 v3 m35) ∧ (¬ r34 = r36 → False))) m33) m) ∧ (¬ ((xs v3.toNatClampNeg) &&& (31 : Int32)) = (5 : Int32) → ((((xs v3.toNatClampNeg) &&& (31 : Int32)) = (6 : Int32) → wp_X11_threadCount v1 (fun (r40 : Int32) (m39 : ct_M) => wp_X12_threadCount v2 (fun (r42 : Int32) (m41 : ct_M) => ((r40 = r42 → wb_L_law_841 xs L (wb_L_law_18 xs L n) v1 v2 v3 m41) ∧ (¬ r40 = r42 → False))) m39) m) ∧ (¬ ((xs v3.toNatClampNeg) &&& (31 : Int32)) = (6 : Int32) → ((((xs v3.toNatClampNeg) &&& (31 : Int32)) = (7 : Int32) → vp_in (v3 + (1 : Int32)) L ∧ wp_X11_state v1 (xs (v3 + (1 : Int32)).toNatClampNeg) (fun (r46 : Int32) (m45 : ct_M) => vp_in (v3 + (1 : Int32)) L ∧ wp_X12_state v2 (xs (v3 + (1 : Int32)).toNatClampNeg) (fun (r48 : Int32) (m47 : ct_M) => ((r46 = r48 → wb_L_law_841 xs L (wb_L_law_18 xs L n) v1 v2 v3 m47) ∧ (¬ r46 = r48 → False))) m45) m) ∧ (¬ ((xs v3.toNatClampNeg) &&& (31 : Int32)) = (7 : Int32) → ((((xs v3.toNatClampNeg) &&& (31 : Int32)) = (8 : Int32) → vp_in (v3 + (1 : Int32)) L ∧ wp_X11_position v1 (xs (v3 + (1 : Int32)).toNatClampNeg) (fun (r52 : Int32) (m51 : ct_M) => vp_in (v3 + (1 : Int32)) L ∧ wp_X12_position v2 (xs (v3 + (1 : Int32)).toNatClampNeg) (fun (r54 : Int32) (m53 : ct_M) => ((r52 = r54 → wb_L_law_841 xs L (wb_L_law_18 xs L n) v1 v2 v3 m53) ∧ (¬ r52 = r54 → False))) m51) m) ∧ (¬ ((xs v3.toNatClampNeg) &&& (31 : Int32)) = (8 : Int32) → ((((xs v3.toNatClampNeg) &&& (31 : Int32)) = (9 : Int32) → vp_in (v3 + (1 : Int32)) L ∧ wp_X11_accumulator v1 (xs (v3 + (1 : Int32)).toNatClampNeg) (fun (r58 : Int32) (m57 : ct_M) => vp_in (v3 + (1 : Int32)) L ∧ wp_X12_accumulator v2 (xs (v3 + (1 : Int32)).toNatClampNeg) (fun (r60 : Int32) (m59 : ct_M) => ((r58 = r60 → wb_L_law_841 xs L (wb_L_law_18 xs L n) v1 v2 v3 m59) ∧ (¬ r58 = r60 → False))) m57) m) ∧ (¬ ((xs v3.toNatClampNeg) &&& (31 : Int32)) = (9 : Int32) → ((((xs v3.toNatClampNeg) &&& (31 : Int32)) = (10 : Int32) → vp_in (v3 + (1 : Int32)) L ∧ vp_in (v3 + (2 : Int32)) L ∧ wp_X11_seenValue v1 (xs (v3 + (1 : Int32)).toNatClampNeg) (xs (v3 + (2 : Int32)).toNatClampNeg) (fun (r64 : Int32) (m63 : ct_M) => vp_in (v3 + (1 : Int32)) L ∧ vp_in (v3 + (2 : Int32)) L ∧ wp_X12_seenValue v2 (xs (v3 + (1 : Int32)).toNatClampNeg) (xs (v3 + (2 : Int32)).toNatClampNeg) (fun (r66 : Int32) (m65 : ct_M) => ((r64 = r66 → wb_L_law_841 xs L (wb_L_law_18 xs L n) v1 v2 v3 m65) ∧ (¬ r64 = r66 → False))) m63) m) ∧ (¬ ((xs v3.toNatClampNeg) &&& (31 : Int32)) = (10 : Int32) → ((((xs v3.toNatClampNeg) &&& (31 : Int32)) = (11 : Int32) → vp_in (v3 + (1 : Int32)) L ∧ wp_X11_readSet v1 (xs (v3 + (1 : Int32)).toNatClampNeg) (fun (r70 : Int32) (m69 : ct_M) => vp_in (v3 + (1 : Int32)) L ∧ wp_X12_readSet v2 (xs (v3 + (1 : Int32)).toNatClampNeg) (fun (r72 : Int32) (m71 : ct_M) => ((r70 = r72 → wb_L_law_841 xs L (wb_L_law_18 xs L n) v1 v2 v3 m71) ∧ (¬ r70 = r72 → False))) m69) m) ∧ (¬ ((xs v3.toNatClampNeg) &&& (31 : Int32)) = (11 : Int32) → ((((xs v3.toNatClampNeg) &&& (31 : Int32)) = (12 : Int32) → vp_in (v3 + (1 : Int32)) L ∧ wp_X11_writeSet v1 (xs (v3 + (1 : Int32)).toNatClampNeg) (fun (r76 : Int32) (m75 : ct_M) => vp_in (v3 + (1 : Int32)) L ∧ wp_X12_writeSet v2 (xs (v3 + (1 : Int32)).toNatClampNeg) (fun (r78 : Int32) (m77 : ct_M) => ((r76 = r78 → wb_L_law_841 xs L (wb_L_law_18 xs L n) v1 v2 v3 m77) ∧ (¬ r76 = r78 → False))) m75) m) ∧ (¬ ((xs v3.toNatClampNeg) &&& (31 : Int32)) = (12 : Int32) → ((((xs v3.toNatClampNeg) &&& (31 : Int32)) = (13 : Int32) → vp_in (v3 + (1 : Int32)) L ∧ wp_X11_openBlocks v1 (xs (v3 + (1 : Int32)).toNatClampNeg) (fun (r82 : Int32) (m81 : ct_M) => vp_in (v3 + (1 : Int32)) L ∧ wp_X12_openBlocks v2 (xs (v3 + (1 : Int32)).toNatClampNeg) (fun (r84 : Int32) (m83 : ct_M) => ((r82 = r84 → wb_L_law_841 xs L (wb_L_law_18 xs L n) v1 v2 v3 m83) ∧ (¬ r82 = r84 → False))) m81) m) ∧ (¬ ((xs v3.toNatClampNeg) &&& (31 : Int32)) = (13 : Int32) → ((((xs v3.toNatClampNeg) &&& (31 : Int32)) = (14 : Int32) → vp_in (v3 + (1 : Int32)) L ∧ wp_X11_runsLeft v1 (xs (v3 + (1 : Int32)).toNatClampNeg) (fun (r88 : Int32) (m87 : ct_M) => vp_in (v3 + (1 : Int32)) L ∧ wp_X12_runsLeft v2 (xs (v3 + (1 : Int32)).toNatClampNeg) (fun (r90 : Int32) (m89 : ct_M) => ((r88 = r90 → wb_L_law_841 xs L (wb_L_law_18 xs L n) v1 v2 v3 m89) ∧ (¬ r88 = r90 → False))) m87) m) ∧ (¬ ((xs v3.toNatClampNeg) &&& (31 : Int32)) = (14 : Int32) → ((((xs v3.toNatClampNeg) &&& (31 : Int32)) = (15 : Int32) → vp_in (v3 + (1 : Int32)) L ∧ wp_X11_restarts v1 (xs (v3 + (1 : Int32)).toNatClampNeg) (fun (r94 : Int32) (m93 : ct_M) => vp_in (v3 + (1 : Int32)) L ∧ wp_X12_restarts v2 (xs (v3 + (1 : Int32)).toNatClampNeg) (fun (r96 : Int32) (m95 : ct_M) => ((r94 = r96 → wb_L_law_841 xs L (wb_L_law_18 xs L n) v1 v2 v3 m95) ∧ (¬ r94 = r96 → False))) m93) m) ∧ (¬ ((xs v3.toNatClampNeg) &&& (31 : Int32)) = (15 : Int32) → ((((xs v3.toNatClampNeg) &&& (31 : Int32)) = (16 : Int32) → vp_in (v3 + (1 : Int32)) L ∧ wp_X11_step v1 (xs (v3 + (1 : Int32)).toNatClampNeg) (fun (r100 : Int32) (m99 : ct_M) => vp_in (v3 + (1 : Int32)) L ∧ wp_X12_step v2 (xs (v3 + (1 : Int32)).toNatClampNeg) (fun (r102 : Int32) (m101 : ct_M) => ((r100 = r102 → wb_L_law_841 xs L (wb_L_law_18 xs L n) v1 v2 v3 m101) ∧ (¬ r100 = r102 → False))) m99) m) ∧ (¬ ((xs v3.toNatClampNeg) &&& (31 : Int32)) = (16 : Int32) → ((((xs v3.toNatClampNeg) &&& (31 : Int32)) = (17 : Int32) → vp_in (v3 + (1 : Int32)) L ∧ wp_X11_run v1 (xs (v3 + (1 : Int32)).toNatClampNeg) (fun (r106 : Int32) (m105 : ct_M) => vp_in (v3 + (1 : Int32)) L ∧ wp_X12_run v2 (xs (v3 + (1 : Int32)).toNatClampNeg) (fun (r108 : Int32) (m107 : ct_M) => ((r106 = r108 → wb_L_law_841 xs L (wb_L_law_18 xs L n) v1 v2 v3 m107) ∧ (¬ r106 = r108 → False))) m105) m) ∧ (¬ ((xs v3.toNatClampNeg) &&& (31 : Int32)) = (17 : Int32) → ((((xs v3.toNatClampNeg) &&& (31 : Int32)) = (18 : Int32) → vp_in (v3 + (1 : Int32)) L ∧ vp_in (v3 + (2 : Int32)) L ∧ wp_X11_setCell v1 (xs (v3 + (1 : Int32)).toNatClampNeg) (xs (v3 + (2 : Int32)).toNatClampNeg) (fun (r112 : Int32) (m111 : ct_M) => vp_in (v3 + (1 : Int32)) L ∧ vp_in (v3 + (2 : Int32)) L ∧ wp_X12_setCell v2 (xs (v3 + (1 : Int32)).toNatClampNeg) (xs (v3 + (2 : Int32)).toNatClampNeg) (fun (r114 : Int32) (m113 : ct_M) => ((r112 = r114 → wb_L_law_841 xs L (wb_L_law_18 xs L n) v1 v2 v3 m113) ∧ (¬ r112 = r114 → False))) m111) m) ∧ (¬ ((xs v3.toNatClampNeg) &&& (31 : Int32)) = (18 : Int32) → ((((xs v3.toNatClampNeg) &&& (31 : Int32)) = (19 : Int32) → vp_in (v3 + (1 : Int32)) L ∧ vp_in (v3 + (2 : Int32)) L ∧ vp_in (v3 + (3 : Int32)) L ∧ wp_X11_addInvariant v1 (xs (v3 + (1 : Int32)).toNatClampNeg) (xs (v3 + (2 : Int32)).toNatClampNeg) (xs (v3 + (3 : Int32)).toNatClampNeg) (fun (r118 : Int32) (m117 : ct_M) => vp_in (v3 + (1 : Int32)) L ∧ vp_in (v3 + (2 : Int32)) L ∧ vp_in (v3 + (3 : Int32)) L ∧ wp_X12_addInvariant v2 (xs (v3 + (1 : Int32)).toNatClampNeg) (xs (v3 + (2 : Int32)).toNatClampNeg) (xs (v3 + (3 : Int32)).toNatClampNeg) (fun (r120 : Int32) (m119 : ct_M) => ((r118 = r120 → wb_L_law_841 xs L (wb_L_law_18 xs L n) v1 v2 v3 m119) ∧ (¬ r118 = r120 → False))) m117) m) ∧ (¬ ((xs v3.toNatClampNeg) &&& (31 : Int32)) = (19 : Int32) → ((((xs v3.toNatClampNeg) &&& (31 : Int32)) = (20 : Int32) → wp_X11_undo v1 (fun (r124 : Int32) (m123 : ct_M) => wp_X12_undo v2 (fun (r126 : Int32) (m125 : ct_M) => ((r124 = r126 → wb_L_law_841 xs L (wb_L_law_18 xs L n) v1 v2 v3 m125) ∧ (¬ r124 = r126 → False))) m123) m) ∧ (¬ ((xs v3.toNatClampNeg) &&& (31 : Int32)) = (20 : Int32) → ((((xs v3.toNatClampNeg) &&& (31 : Int32)) = (21 : Int32) → wp_X11_outcomeCount v1 (fun (r130 : Int32) (m129 : ct_M) => wp_X12_outcomeCount v2 (fun (r132 : Int32) (m131 : ct_M) => ((r130 = r132 → wb_L_law_841 xs L (wb_L_law_18 xs L n) v1 v2 v3 m131) ∧ (¬ r130 = r132 → False))) m129) m) ∧ (¬ ((xs v3.toNatClampNeg) &&& (31 : Int32)) = (21 : Int32) → ((((xs v3.toNatClampNeg) &&& (31 : Int32)) = (22 : Int32) → wp_X11_possibleOutcomes v1 (fun (r136 : Int32) (m135 : ct_M) => wp_X12_possibleOutcomes v2 (fun (r138 : Int32) (m137 : ct_M) => ((r136 = r138 → wb_L_law_841 xs L (wb_L_law_18 xs L n) v1 v2 v3 m137) ∧ (¬ r136 = r138 → False))) m135) m) ∧ (¬ ((xs v3.toNatClampNeg) &&& (31 : Int32)) = (22 : Int32) → ((((xs v3.toNatClampNeg) &&& (31 : Int32)) = (23 : Int32) → wp_X11_canDeadlock v1 (fun (r142 : Int32) (m141 : ct_M) => wp_X12_canDeadlock v2 (fun (r144 : Int32) (m143 : ct_M) => ((r142 = r144 → wb_L_law_841 xs L (wb_L_law_18 xs L n) v1 v2 v3 m143) ∧ (¬ r142 = r144 → False))) m141) m) ∧ (¬ ((xs v3.toNatClampNeg) &&& (31 : Int32)) = (23 : Int32) → ((((xs v3.toNatClampNeg) &&& (31 : Int32)) = (24 : Int32) → vp_in (v3 + (1 : Int32)) L ∧ wp_X11_greatestOutcome v1 (xs (v3 + (1 : Int32)).toNatClampNeg) (fun (r148 : Int32) (m147 : ct_M) => vp_in (v3 + (1 : Int32)) L ∧ wp_X12_greatestOutcome v2 (xs (v3 + (1 : Int32)).toNatClampNeg) (fun (r150 : Int32) (m149 : ct_M) => ((r148 = r150 → wb_L_law_841 xs L (wb_L_law_18 xs L n) v1 v2 v3 m149) ∧ (¬ r148 = r150 → False))) m147) m) ∧ (¬ ((xs v3.toNatClampNeg) &&& (31 : Int32)) = (24 : Int32) → ((((xs v3.toNatClampNeg) &&& (31 : Int32)) = (25 : Int32) → vp_in (v3 + (1 : Int32)) L ∧ vp_in (v3 + (2 : Int32)) L ∧ vp_in (v3 + (3 : Int32)) L ∧ wp_X11_runScript v1 (xs (v3 + (1 : Int32)).toNatClampNeg) (((xs (v3 + (2 : Int32)).toNatClampNeg).toInt64 <<< ((32 : Int32).toInt64 &&& 63)) ||| ((xs (v3 + (3 : Int32)).toNatClampNeg).toInt64 &&& (4294967295 : Int64))) (fun (r154 : Int32) (m153 : ct_M) => vp_in (v3 + (1 : Int32)) L ∧ vp_in (v3 + (2 : Int32)) L ∧ vp_in (v3 + (3 : Int32)) L ∧ wp_X12_runScript v2 (xs (v3 + (1 : Int32)).toNatClampNeg) (((xs (v3 + (2 : Int32)).toNatClampNeg).toInt64 <<< ((32 : Int32).toInt64 &&& 63)) ||| ((xs (v3 + (3 : Int32)).toNatClampNeg).toInt64 &&& (4294967295 : Int64))) (fun (r156 : Int32) (m155 : ct_M) => ((r154 = r156 → wb_L_law_841 xs L (wb_L_law_18 xs L n) v1 v2 v3 m155) ∧ (¬ r154 = r156 → False))) m153) m) ∧ (¬ ((xs v3.toNatClampNeg) &&& (31 : Int32)) = (25 : Int32) → ((((xs v3.toNatClampNeg) &&& (31 : Int32)) = (26 : Int32) → vp_in (v3 + (1 : Int32)) L ∧ vp_in (v3 + (2 : Int32)) L ∧ wp_X11_observe v1 (xs (v3 + (1 : Int32)).toNatClampNeg) (xs (v3 + (2 : Int32)).toNatClampNeg) (fun (r160 : Int32) (m159 : ct_M) => vp_in (v3 + (1 : Int32)) L ∧ vp_in (v3 + (2 : Int32)) L ∧ wp_X12_observe v2 (xs (v3 + (1 : Int32)).toNatClampNeg) (xs (v3 + (2 : Int32)).toNatClampNeg) (fun (r162 : Int32) (m161 : ct_M) => ((r160 = r162 → wb_L_law_841 xs L (wb_L_law_18 xs L n) v1 v2 v3 m161) ∧ (¬ r160 = r162 → False))) m159) m) ∧ (¬ ((xs v3.toNatClampNeg) &&& (31 : Int32)) = (26 : Int32) → ((((xs v3.toNatClampNeg) &&& (31 : Int32)) = (27 : Int32) → vp_in (v3 + (1 : Int32)) L ∧ wp_X11_save v1 (xs (v3 + (1 : Int32)).toNatClampNeg) (fun (r166 : Int32) (m165 : ct_M) => vp_in (v3 + (1 : Int32)) L ∧ wp_X12_save v2 (xs (v3 + (1 : Int32)).toNatClampNeg) (fun (r168 : Int32) (m167 : ct_M) => ((r166 = r168 → wb_L_law_841 xs L (wb_L_law_18 xs L n) v1 v2 v3 m167) ∧ (¬ r166 = r168 → False))) m165) m) ∧ (¬ ((xs v3.toNatClampNeg) &&& (31 : Int32)) = (27 : Int32) → ((((xs v3.toNatClampNeg) &&& (31 : Int32)) = (28 : Int32) → vp_in (v3 + (1 : Int32)) L ∧ wp_X11_restore v1 (xs (v3 + (1 : Int32)).toNatClampNeg) (fun (r172 : Int32) (m171 : ct_M) => vp_in (v3 + (1 : Int32)) L ∧ wp_X12_restore v2 (xs (v3 + (1 : Int32)).toNatClampNeg) (fun (r174 : Int32) (m173 : ct_M) => ((r172 = r174 → wb_L_law_841 xs L (wb_L_law_18 xs L n) v1 v2 v3 m173) ∧ (¬ r172 = r174 → False))) m171) m) ∧ (¬ ((xs v3.toNatClampNeg) &&& (31 : Int32)) = (28 : Int32) → wb_L_law_841 xs L (wb_L_law_18 xs L n) v1 v2 v3 m))))))))))))))))))))))))))))))))))))))))))))))))))))))))))))
set_option maxHeartbeats 4000000 in
set_option maxRecDepth 100000 in
theorem kb_L_law_841 {p : Program} {l : Launch} {e : Env} {s : State} {mth : MethodId} {below : List Frame} {meth : Method} {c : Code} {D : va_G} {cy : Nat → ClassId} {o b L : Nat} {xs : Nat → Int32} {K18 : Nat → Nat → Int32 → ct_M → Prop} {v1 : Nat} {v2 : Nat} {v3 : Int32} {m : ct_M} (C : ct_Cx p s mth c cL_law 4 #[Value.ref b] RL D cy) (hr : meth.sig.returnType = ret) (hlk : meth.locks = false) (hX : va_X b L xs s s.heap) (hbl : b < s.heap.size) (hso : o = s.heap.size) (hK18 : ∀ (v1 : Nat) (v2 : Nat) (v3 : Int32) (m : ct_M), ct_K 11 v1 → ct_K 12 v2 → K18 v1 v2 v3 m → ct_J p l e room_1 s mth #[Value.ref b] below meth c 4 D cy o ct_NN 1047 24897 (lw_Z below #[Value.ref b] s) m 18 [(0, .ref b), (1, .ref (o + v1)), (2, .ref (o + v2)), (3, .int v3)] []) (kv1 : ct_K 11 v1) (kv2 : ct_K 12 v2) (h : wb_L_law_841 xs L K18 v1 v2 v3 m) : ct_J p l e room_1 s mth #[Value.ref b] below meth c 4 D cy o ct_NN 1047 24897 (lw_Z below #[Value.ref b] s) m 841 [(0, .ref b), (1, .ref (o + v1)), (2, .ref (o + v2)), (3, .int v3)] [] := by
  unfold wb_L_law_841 at h
  obtain ⟨x1, ex1⟩ : ∃ z : Int32, z = v3 + (4 : Int32) := ⟨_, rfl⟩
  have h := h x1 ex1
  refine ct_iinc (k := 3) (v := x1) C dL_law_841 [(3, .int x1), (0, .ref b), (1, .ref (o + v1)), (2, .ref (o + v2))] rfl (by rw [ex1]; rfl) (by decide) rfl ?_
  refine ct_goto C dL_law_844 18 (by decide) ?_
  refine ct_sub [1, 2, 3, 0] [(0, .ref b), (1, .ref (o + v1)), (2, .ref (o + v2)), (3, .int x1)] rfl ?_
  exact hK18 _ _ _ _ kv1 kv2 h
set_option maxHeartbeats 8000000 in
set_option maxRecDepth 100000 in
theorem kb_L_law_18 {p : Program} {l : Launch} {e : Env} {s : State} {mth : MethodId} {below : List Frame} {meth : Method} {c : Code} {D : va_G} {cy : Nat → ClassId} {o b L : Nat} {xs : Nat → Int32} (C : ct_Cx p s mth c cL_law 4 #[Value.ref b] RL D cy) (hr : meth.sig.returnType = ret) (hlk : meth.locks = false) (hX : va_X b L xs s s.heap) (hbl : b < s.heap.size) (hso : o = s.heap.size) : ∀ (n : Nat) (v1 : Nat) (v2 : Nat) (v3 : Int32) (m : ct_M) (kv1 : ct_K 11 v1) (kv2 : ct_K 12 v2), wb_L_law_18 xs L n v1 v2 v3 m → ct_J p l e room_1 s mth #[Value.ref b] below meth c 4 D cy o ct_NN 1047 24897 (lw_Z below #[Value.ref b] s) m 18 [(0, .ref b), (1, .ref (o + v1)), (2, .ref (o + v2)), (3, .int v3)] [] := by
  intro n
  induction n with
  | zero => intro v1 v2 v3 m kv1 kv2 h; exact h.elim
  | succ n ih =>
    intro v1 v2 v3 m kv1 kv2 h
    unfold wb_L_law_18 at h
    refine ct_iload_n C dL_law_18 3 rfl rfl ?_
    refine ct_aload_n C dL_law_19 0 rfl rfl ?_
    refine lw_slen C hX hbl hso dL_law_20 ?_
    refine ct_iconst C dL_law_21 (4 : Int32) (by decide) ?_
    refine ct_isub C dL_law_22 ?_
    refine ct_icmp_gt C dL_law_23 847 (by decide) (fun hc1 => ?_) (fun hc1 => ?_)
    · have h := h.1 hc1
      refine ct_iconst C dL_law_847 (1 : Int32) (by decide) ?_
      exact lw_end C hr hlk (d := dL_law_848) (Nat.le_of_ble_eq_true rfl) (Nat.le_of_ble_eq_true rfl) hso
    · have h := h.2 hc1
      refine ct_aload_n C dL_law_26 0 rfl rfl ?_
      refine ct_iload_n C dL_law_27 3 rfl rfl ?_
      refine lw_sld C hX hbl hso h.1 dL_law_28 ?_
      have h := h.2
      refine ct_bipush C dL_law_29 (31 : Int32) (by decide) ?_
      refine ct_iand C dL_law_31 ?_
      by_cases hc2 : ((xs v3.toNatClampNeg) &&& (31 : Int32)) = (0 : Int32)
      · have h := h.1 hc2
        refine ct_tableIn (off := 132) C dL_law_32 164 (by rw [hc2]; decide) (by rw [hc2]; decide) (by rw [hc2]; decide) (by decide) ?_
        refine ct_aload_n C dL_law_164 1 rfl rfl ?_
        refine ct_aload_n C dL_law_165 0 rfl rfl ?_
        refine ct_iload_n C dL_law_166 3 rfl rfl ?_
        refine ct_iconst C dL_law_167 (1 : Int32) (by decide) ?_
        refine ct_iadd C dL_law_168 ?_
        refine lw_sld C hX hbl hso h.1 dL_law_169 ?_
        have h := h.2
        refine ct_callVi (As := [.int (xs (v3 + (1 : Int32)).toNatClampNeg)]) (T := TX11) C (c_X11_append l D cy o kv1 h) kl_L_13 kv1.1 (ct_E11 kv1) rfl rfl rfl (Nat.le_of_ble_eq_true rfl) ⟨rfl, rfl, Nat.le_of_ble_eq_true rfl, Nat.le_of_ble_eq_true rfl⟩ ⟨Nat.le_of_ble_eq_true rfl, Nat.le_of_ble_eq_true rfl⟩ dL_law_170 (fun r4 m3 h => ?_)
        refine ct_aload_n C dL_law_173 2 rfl rfl ?_
        refine ct_aload_n C dL_law_174 0 rfl rfl ?_
        refine ct_iload_n C dL_law_175 3 rfl rfl ?_
        refine ct_iconst C dL_law_176 (1 : Int32) (by decide) ?_
        refine ct_iadd C dL_law_177 ?_
        refine lw_sld C hX hbl hso h.1 dL_law_178 ?_
        have h := h.2
        refine ct_callVi (As := [.int (xs (v3 + (1 : Int32)).toNatClampNeg)]) (T := TX12) C (c_X12_append l D cy o kv2 h) kl_L_17 kv2.1 (ct_E12 kv2) rfl rfl rfl (Nat.le_of_ble_eq_true rfl) ⟨rfl, rfl, Nat.le_of_ble_eq_true rfl, Nat.le_of_ble_eq_true rfl⟩ ⟨Nat.le_of_ble_eq_true rfl, Nat.le_of_ble_eq_true rfl⟩ dL_law_179 (fun r6 m5 h => ?_)
        refine ct_icmp_eq C dL_law_182 841 (by decide) (fun hc7 => ?_) (fun hc7 => ?_)
        · have h := h.1 hc7
          refine ct_sub [0, 1, 2, 3] [(0, .ref b), (1, .ref (o + v1)), (2, .ref (o + v2)), (3, .int v3)] rfl ?_
          exact kb_L_law_841 C hr hlk hX hbl hso ih kv1 kv2 h
        · have h := h.2 hc7
          refine ct_iconst C dL_law_185 (0 : Int32) (by decide) ?_
          exact h.elim
      · have h := h.2 hc2
        by_cases hc8 : ((xs v3.toNatClampNeg) &&& (31 : Int32)) = (1 : Int32)
        · have h := h.1 hc8
          refine ct_tableIn (off := 155) C dL_law_32 187 (by rw [hc8]; decide) (by rw [hc8]; decide) (by rw [hc8]; decide) (by decide) ?_
          refine ct_aload_n C dL_law_187 1 rfl rfl ?_
          refine ct_callVi (As := []) (T := TX11) C (c_X11_clearText l D cy o kv1 h) kl_L_18 kv1.1 (ct_E11 kv1) rfl rfl rfl (Nat.le_of_ble_eq_true rfl) ⟨rfl, rfl, Nat.le_of_ble_eq_true rfl, Nat.le_of_ble_eq_true rfl⟩ ⟨Nat.le_of_ble_eq_true rfl, Nat.le_of_ble_eq_true rfl⟩ dL_law_188 (fun r10 m9 h => ?_)
          refine ct_aload_n C dL_law_191 2 rfl rfl ?_
          refine ct_callVi (As := []) (T := TX12) C (c_X12_clearText l D cy o kv2 h) kl_L_22 kv2.1 (ct_E12 kv2) rfl rfl rfl (Nat.le_of_ble_eq_true rfl) ⟨rfl, rfl, Nat.le_of_ble_eq_true rfl, Nat.le_of_ble_eq_true rfl⟩ ⟨Nat.le_of_ble_eq_true rfl, Nat.le_of_ble_eq_true rfl⟩ dL_law_192 (fun r12 m11 h => ?_)
          refine ct_icmp_eq C dL_law_195 841 (by decide) (fun hc13 => ?_) (fun hc13 => ?_)
          · have h := h.1 hc13
            refine ct_sub [0, 1, 2, 3] [(0, .ref b), (1, .ref (o + v1)), (2, .ref (o + v2)), (3, .int v3)] rfl ?_
            exact kb_L_law_841 C hr hlk hX hbl hso ih kv1 kv2 h
          · have h := h.2 hc13
            refine ct_iconst C dL_law_198 (0 : Int32) (by decide) ?_
            exact h.elim
        · have h := h.2 hc8
          by_cases hc14 : ((xs v3.toNatClampNeg) &&& (31 : Int32)) = (2 : Int32)
          · have h := h.1 hc14
            refine ct_tableIn (off := 168) C dL_law_32 200 (by rw [hc14]; decide) (by rw [hc14]; decide) (by rw [hc14]; decide) (by decide) ?_
            refine ct_aload_n C dL_law_200 1 rfl rfl ?_
            refine ct_callVi (As := []) (T := TX11) C (c_X11_errorPosition l D cy o kv1 h) kl_L_23 kv1.1 (ct_E11 kv1) rfl rfl rfl (Nat.le_of_ble_eq_true rfl) ⟨rfl, rfl, Nat.le_of_ble_eq_true rfl, Nat.le_of_ble_eq_true rfl⟩ ⟨Nat.le_of_ble_eq_true rfl, Nat.le_of_ble_eq_true rfl⟩ dL_law_201 (fun r16 m15 h => ?_)
            refine ct_aload_n C dL_law_204 2 rfl rfl ?_
            refine ct_callVi (As := []) (T := TX12) C (c_X12_errorPosition l D cy o kv2 h) kl_L_26 kv2.1 (ct_E12 kv2) rfl rfl rfl (Nat.le_of_ble_eq_true rfl) ⟨rfl, rfl, Nat.le_of_ble_eq_true rfl, Nat.le_of_ble_eq_true rfl⟩ ⟨Nat.le_of_ble_eq_true rfl, Nat.le_of_ble_eq_true rfl⟩ dL_law_205 (fun r18 m17 h => ?_)
            refine ct_icmp_eq C dL_law_208 841 (by decide) (fun hc19 => ?_) (fun hc19 => ?_)
            · have h := h.1 hc19
              refine ct_sub [0, 1, 2, 3] [(0, .ref b), (1, .ref (o + v1)), (2, .ref (o + v2)), (3, .int v3)] rfl ?_
              exact kb_L_law_841 C hr hlk hX hbl hso ih kv1 kv2 h
            · have h := h.2 hc19
              refine ct_iconst C dL_law_211 (0 : Int32) (by decide) ?_
              exact h.elim
          · have h := h.2 hc14
            by_cases hc20 : ((xs v3.toNatClampNeg) &&& (31 : Int32)) = (3 : Int32)
            · have h := h.1 hc20
              refine ct_tableIn (off := 181) C dL_law_32 213 (by rw [hc20]; decide) (by rw [hc20]; decide) (by rw [hc20]; decide) (by decide) ?_
              refine ct_aload_n C dL_law_213 1 rfl rfl ?_
              refine ct_callVi (As := []) (T := TX11) C (c_X11_load l D cy o kv1 h) kl_L_27 kv1.1 (ct_E11 kv1) rfl rfl rfl (Nat.le_of_ble_eq_true rfl) ⟨rfl, rfl, Nat.le_of_ble_eq_true rfl, Nat.le_of_ble_eq_true rfl⟩ ⟨Nat.le_of_ble_eq_true rfl, Nat.le_of_ble_eq_true rfl⟩ dL_law_214 (fun r22 m21 h => ?_)
              refine ct_aload_n C dL_law_217 2 rfl rfl ?_
              refine ct_callVi (As := []) (T := TX12) C (c_X12_load l D cy o kv2 h) kl_L_30 kv2.1 (ct_E12 kv2) rfl rfl rfl (Nat.le_of_ble_eq_true rfl) ⟨rfl, rfl, Nat.le_of_ble_eq_true rfl, Nat.le_of_ble_eq_true rfl⟩ ⟨Nat.le_of_ble_eq_true rfl, Nat.le_of_ble_eq_true rfl⟩ dL_law_218 (fun r24 m23 h => ?_)
              refine ct_icmp_eq C dL_law_221 841 (by decide) (fun hc25 => ?_) (fun hc25 => ?_)
              · have h := h.1 hc25
                refine ct_sub [0, 1, 2, 3] [(0, .ref b), (1, .ref (o + v1)), (2, .ref (o + v2)), (3, .int v3)] rfl ?_
                exact kb_L_law_841 C hr hlk hX hbl hso ih kv1 kv2 h
              · have h := h.2 hc25
                refine ct_iconst C dL_law_224 (0 : Int32) (by decide) ?_
                exact h.elim
            · have h := h.2 hc20
              by_cases hc26 : ((xs v3.toNatClampNeg) &&& (31 : Int32)) = (4 : Int32)
              · have h := h.1 hc26
                refine ct_tableIn (off := 194) C dL_law_32 226 (by rw [hc26]; decide) (by rw [hc26]; decide) (by rw [hc26]; decide) (by decide) ?_
                refine ct_aload_n C dL_law_226 1 rfl rfl ?_
                refine ct_aload_n C dL_law_227 0 rfl rfl ?_
                refine ct_iload_n C dL_law_228 3 rfl rfl ?_
                refine ct_iconst C dL_law_229 (1 : Int32) (by decide) ?_
                refine ct_iadd C dL_law_230 ?_
                refine lw_sld C hX hbl hso h.1 dL_law_231 ?_
                have h := h.2
                refine ct_callVi (As := [.int (xs (v3 + (1 : Int32)).toNatClampNeg)]) (T := TX11) C (c_X11_value l D cy o kv1 h) kl_L_31 kv1.1 (ct_E11 kv1) rfl rfl rfl (Nat.le_of_ble_eq_true rfl) ⟨rfl, rfl, Nat.le_of_ble_eq_true rfl, Nat.le_of_ble_eq_true rfl⟩ ⟨Nat.le_of_ble_eq_true rfl, Nat.le_of_ble_eq_true rfl⟩ dL_law_232 (fun r28 m27 h => ?_)
                refine ct_aload_n C dL_law_235 2 rfl rfl ?_
                refine ct_aload_n C dL_law_236 0 rfl rfl ?_
                refine ct_iload_n C dL_law_237 3 rfl rfl ?_
                refine ct_iconst C dL_law_238 (1 : Int32) (by decide) ?_
                refine ct_iadd C dL_law_239 ?_
                refine lw_sld C hX hbl hso h.1 dL_law_240 ?_
                have h := h.2
                refine ct_callVi (As := [.int (xs (v3 + (1 : Int32)).toNatClampNeg)]) (T := TX12) C (c_X12_value l D cy o kv2 h) kl_L_34 kv2.1 (ct_E12 kv2) rfl rfl rfl (Nat.le_of_ble_eq_true rfl) ⟨rfl, rfl, Nat.le_of_ble_eq_true rfl, Nat.le_of_ble_eq_true rfl⟩ ⟨Nat.le_of_ble_eq_true rfl, Nat.le_of_ble_eq_true rfl⟩ dL_law_241 (fun r30 m29 h => ?_)
                refine ct_icmp_eq C dL_law_244 841 (by decide) (fun hc31 => ?_) (fun hc31 => ?_)
                · have h := h.1 hc31
                  refine ct_sub [0, 1, 2, 3] [(0, .ref b), (1, .ref (o + v1)), (2, .ref (o + v2)), (3, .int v3)] rfl ?_
                  exact kb_L_law_841 C hr hlk hX hbl hso ih kv1 kv2 h
                · have h := h.2 hc31
                  refine ct_iconst C dL_law_247 (0 : Int32) (by decide) ?_
                  exact h.elim
              · have h := h.2 hc26
                by_cases hc32 : ((xs v3.toNatClampNeg) &&& (31 : Int32)) = (5 : Int32)
                · have h := h.1 hc32
                  refine ct_tableIn (off := 217) C dL_law_32 249 (by rw [hc32]; decide) (by rw [hc32]; decide) (by rw [hc32]; decide) (by decide) ?_
                  refine ct_aload_n C dL_law_249 1 rfl rfl ?_
                  refine ct_aload_n C dL_law_250 0 rfl rfl ?_
                  refine ct_iload_n C dL_law_251 3 rfl rfl ?_
                  refine ct_iconst C dL_law_252 (1 : Int32) (by decide) ?_
                  refine ct_iadd C dL_law_253 ?_
                  refine lw_sld C hX hbl hso h.1 dL_law_254 ?_
                  have h := h.2
                  refine ct_callVi (As := [.int (xs (v3 + (1 : Int32)).toNatClampNeg)]) (T := TX11) C (c_X11_version l D cy o kv1 h) kl_L_35 kv1.1 (ct_E11 kv1) rfl rfl rfl (Nat.le_of_ble_eq_true rfl) ⟨rfl, rfl, Nat.le_of_ble_eq_true rfl, Nat.le_of_ble_eq_true rfl⟩ ⟨Nat.le_of_ble_eq_true rfl, Nat.le_of_ble_eq_true rfl⟩ dL_law_255 (fun r34 m33 h => ?_)
                  refine ct_aload_n C dL_law_258 2 rfl rfl ?_
                  refine ct_aload_n C dL_law_259 0 rfl rfl ?_
                  refine ct_iload_n C dL_law_260 3 rfl rfl ?_
                  refine ct_iconst C dL_law_261 (1 : Int32) (by decide) ?_
                  refine ct_iadd C dL_law_262 ?_
                  refine lw_sld C hX hbl hso h.1 dL_law_263 ?_
                  have h := h.2
                  refine ct_callVi (As := [.int (xs (v3 + (1 : Int32)).toNatClampNeg)]) (T := TX12) C (c_X12_version l D cy o kv2 h) kl_L_38 kv2.1 (ct_E12 kv2) rfl rfl rfl (Nat.le_of_ble_eq_true rfl) ⟨rfl, rfl, Nat.le_of_ble_eq_true rfl, Nat.le_of_ble_eq_true rfl⟩ ⟨Nat.le_of_ble_eq_true rfl, Nat.le_of_ble_eq_true rfl⟩ dL_law_264 (fun r36 m35 h => ?_)
                  refine ct_icmp_eq C dL_law_267 841 (by decide) (fun hc37 => ?_) (fun hc37 => ?_)
                  · have h := h.1 hc37
                    refine ct_sub [0, 1, 2, 3] [(0, .ref b), (1, .ref (o + v1)), (2, .ref (o + v2)), (3, .int v3)] rfl ?_
                    exact kb_L_law_841 C hr hlk hX hbl hso ih kv1 kv2 h
                  · have h := h.2 hc37
                    refine ct_iconst C dL_law_270 (0 : Int32) (by decide) ?_
                    exact h.elim
                · have h := h.2 hc32
                  by_cases hc38 : ((xs v3.toNatClampNeg) &&& (31 : Int32)) = (6 : Int32)
                  · have h := h.1 hc38
                    refine ct_tableIn (off := 240) C dL_law_32 272 (by rw [hc38]; decide) (by rw [hc38]; decide) (by rw [hc38]; decide) (by decide) ?_
                    refine ct_aload_n C dL_law_272 1 rfl rfl ?_
                    refine ct_callVi (As := []) (T := TX11) C (c_X11_threadCount l D cy o kv1 h) kl_L_39 kv1.1 (ct_E11 kv1) rfl rfl rfl (Nat.le_of_ble_eq_true rfl) ⟨rfl, rfl, Nat.le_of_ble_eq_true rfl, Nat.le_of_ble_eq_true rfl⟩ ⟨Nat.le_of_ble_eq_true rfl, Nat.le_of_ble_eq_true rfl⟩ dL_law_273 (fun r40 m39 h => ?_)
                    refine ct_aload_n C dL_law_276 2 rfl rfl ?_
                    refine ct_callVi (As := []) (T := TX12) C (c_X12_threadCount l D cy o kv2 h) kl_L_42 kv2.1 (ct_E12 kv2) rfl rfl rfl (Nat.le_of_ble_eq_true rfl) ⟨rfl, rfl, Nat.le_of_ble_eq_true rfl, Nat.le_of_ble_eq_true rfl⟩ ⟨Nat.le_of_ble_eq_true rfl, Nat.le_of_ble_eq_true rfl⟩ dL_law_277 (fun r42 m41 h => ?_)
                    refine ct_icmp_eq C dL_law_280 841 (by decide) (fun hc43 => ?_) (fun hc43 => ?_)
                    · have h := h.1 hc43
                      refine ct_sub [0, 1, 2, 3] [(0, .ref b), (1, .ref (o + v1)), (2, .ref (o + v2)), (3, .int v3)] rfl ?_
                      exact kb_L_law_841 C hr hlk hX hbl hso ih kv1 kv2 h
                    · have h := h.2 hc43
                      refine ct_iconst C dL_law_283 (0 : Int32) (by decide) ?_
                      exact h.elim
                  · have h := h.2 hc38
                    by_cases hc44 : ((xs v3.toNatClampNeg) &&& (31 : Int32)) = (7 : Int32)
                    · have h := h.1 hc44
                      refine ct_tableIn (off := 253) C dL_law_32 285 (by rw [hc44]; decide) (by rw [hc44]; decide) (by rw [hc44]; decide) (by decide) ?_
                      refine ct_aload_n C dL_law_285 1 rfl rfl ?_
                      refine ct_aload_n C dL_law_286 0 rfl rfl ?_
                      refine ct_iload_n C dL_law_287 3 rfl rfl ?_
                      refine ct_iconst C dL_law_288 (1 : Int32) (by decide) ?_
                      refine ct_iadd C dL_law_289 ?_
                      refine lw_sld C hX hbl hso h.1 dL_law_290 ?_
                      have h := h.2
                      refine ct_callVi (As := [.int (xs (v3 + (1 : Int32)).toNatClampNeg)]) (T := TX11) C (c_X11_state l D cy o kv1 h) kl_L_43 kv1.1 (ct_E11 kv1) rfl rfl rfl (Nat.le_of_ble_eq_true rfl) ⟨rfl, rfl, Nat.le_of_ble_eq_true rfl, Nat.le_of_ble_eq_true rfl⟩ ⟨Nat.le_of_ble_eq_true rfl, Nat.le_of_ble_eq_true rfl⟩ dL_law_291 (fun r46 m45 h => ?_)
                      refine ct_aload_n C dL_law_294 2 rfl rfl ?_
                      refine ct_aload_n C dL_law_295 0 rfl rfl ?_
                      refine ct_iload_n C dL_law_296 3 rfl rfl ?_
                      refine ct_iconst C dL_law_297 (1 : Int32) (by decide) ?_
                      refine ct_iadd C dL_law_298 ?_
                      refine lw_sld C hX hbl hso h.1 dL_law_299 ?_
                      have h := h.2
                      refine ct_callVi (As := [.int (xs (v3 + (1 : Int32)).toNatClampNeg)]) (T := TX12) C (c_X12_state l D cy o kv2 h) kl_L_46 kv2.1 (ct_E12 kv2) rfl rfl rfl (Nat.le_of_ble_eq_true rfl) ⟨rfl, rfl, Nat.le_of_ble_eq_true rfl, Nat.le_of_ble_eq_true rfl⟩ ⟨Nat.le_of_ble_eq_true rfl, Nat.le_of_ble_eq_true rfl⟩ dL_law_300 (fun r48 m47 h => ?_)
                      refine ct_icmp_eq C dL_law_303 841 (by decide) (fun hc49 => ?_) (fun hc49 => ?_)
                      · have h := h.1 hc49
                        refine ct_sub [0, 1, 2, 3] [(0, .ref b), (1, .ref (o + v1)), (2, .ref (o + v2)), (3, .int v3)] rfl ?_
                        exact kb_L_law_841 C hr hlk hX hbl hso ih kv1 kv2 h
                      · have h := h.2 hc49
                        refine ct_iconst C dL_law_306 (0 : Int32) (by decide) ?_
                        exact h.elim
                    · have h := h.2 hc44
                      by_cases hc50 : ((xs v3.toNatClampNeg) &&& (31 : Int32)) = (8 : Int32)
                      · have h := h.1 hc50
                        refine ct_tableIn (off := 276) C dL_law_32 308 (by rw [hc50]; decide) (by rw [hc50]; decide) (by rw [hc50]; decide) (by decide) ?_
                        refine ct_aload_n C dL_law_308 1 rfl rfl ?_
                        refine ct_aload_n C dL_law_309 0 rfl rfl ?_
                        refine ct_iload_n C dL_law_310 3 rfl rfl ?_
                        refine ct_iconst C dL_law_311 (1 : Int32) (by decide) ?_
                        refine ct_iadd C dL_law_312 ?_
                        refine lw_sld C hX hbl hso h.1 dL_law_313 ?_
                        have h := h.2
                        refine ct_callVi (As := [.int (xs (v3 + (1 : Int32)).toNatClampNeg)]) (T := TX11) C (c_X11_position l D cy o kv1 h) kl_L_47 kv1.1 (ct_E11 kv1) rfl rfl rfl (Nat.le_of_ble_eq_true rfl) ⟨rfl, rfl, Nat.le_of_ble_eq_true rfl, Nat.le_of_ble_eq_true rfl⟩ ⟨Nat.le_of_ble_eq_true rfl, Nat.le_of_ble_eq_true rfl⟩ dL_law_314 (fun r52 m51 h => ?_)
                        refine ct_aload_n C dL_law_317 2 rfl rfl ?_
                        refine ct_aload_n C dL_law_318 0 rfl rfl ?_
                        refine ct_iload_n C dL_law_319 3 rfl rfl ?_
                        refine ct_iconst C dL_law_320 (1 : Int32) (by decide) ?_
                        refine ct_iadd C dL_law_321 ?_
                        refine lw_sld C hX hbl hso h.1 dL_law_322 ?_
                        have h := h.2
                        refine ct_callVi (As := [.int (xs (v3 + (1 : Int32)).toNatClampNeg)]) (T := TX12) C (c_X12_position l D cy o kv2 h) kl_L_50 kv2.1 (ct_E12 kv2) rfl rfl rfl (Nat.le_of_ble_eq_true rfl) ⟨rfl, rfl, Nat.le_of_ble_eq_true rfl, Nat.le_of_ble_eq_true rfl⟩ ⟨Nat.le_of_ble_eq_true rfl, Nat.le_of_ble_eq_true rfl⟩ dL_law_323 (fun r54 m53 h => ?_)
                        refine ct_icmp_eq C dL_law_326 841 (by decide) (fun hc55 => ?_) (fun hc55 => ?_)
                        · have h := h.1 hc55
                          refine ct_sub [0, 1, 2, 3] [(0, .ref b), (1, .ref (o + v1)), (2, .ref (o + v2)), (3, .int v3)] rfl ?_
                          exact kb_L_law_841 C hr hlk hX hbl hso ih kv1 kv2 h
                        · have h := h.2 hc55
                          refine ct_iconst C dL_law_329 (0 : Int32) (by decide) ?_
                          exact h.elim
                      · have h := h.2 hc50
                        by_cases hc56 : ((xs v3.toNatClampNeg) &&& (31 : Int32)) = (9 : Int32)
                        · have h := h.1 hc56
                          refine ct_tableIn (off := 299) C dL_law_32 331 (by rw [hc56]; decide) (by rw [hc56]; decide) (by rw [hc56]; decide) (by decide) ?_
                          refine ct_aload_n C dL_law_331 1 rfl rfl ?_
                          refine ct_aload_n C dL_law_332 0 rfl rfl ?_
                          refine ct_iload_n C dL_law_333 3 rfl rfl ?_
                          refine ct_iconst C dL_law_334 (1 : Int32) (by decide) ?_
                          refine ct_iadd C dL_law_335 ?_
                          refine lw_sld C hX hbl hso h.1 dL_law_336 ?_
                          have h := h.2
                          refine ct_callVi (As := [.int (xs (v3 + (1 : Int32)).toNatClampNeg)]) (T := TX11) C (c_X11_accumulator l D cy o kv1 h) kl_L_51 kv1.1 (ct_E11 kv1) rfl rfl rfl (Nat.le_of_ble_eq_true rfl) ⟨rfl, rfl, Nat.le_of_ble_eq_true rfl, Nat.le_of_ble_eq_true rfl⟩ ⟨Nat.le_of_ble_eq_true rfl, Nat.le_of_ble_eq_true rfl⟩ dL_law_337 (fun r58 m57 h => ?_)
                          refine ct_aload_n C dL_law_340 2 rfl rfl ?_
                          refine ct_aload_n C dL_law_341 0 rfl rfl ?_
                          refine ct_iload_n C dL_law_342 3 rfl rfl ?_
                          refine ct_iconst C dL_law_343 (1 : Int32) (by decide) ?_
                          refine ct_iadd C dL_law_344 ?_
                          refine lw_sld C hX hbl hso h.1 dL_law_345 ?_
                          have h := h.2
                          refine ct_callVi (As := [.int (xs (v3 + (1 : Int32)).toNatClampNeg)]) (T := TX12) C (c_X12_accumulator l D cy o kv2 h) kl_L_54 kv2.1 (ct_E12 kv2) rfl rfl rfl (Nat.le_of_ble_eq_true rfl) ⟨rfl, rfl, Nat.le_of_ble_eq_true rfl, Nat.le_of_ble_eq_true rfl⟩ ⟨Nat.le_of_ble_eq_true rfl, Nat.le_of_ble_eq_true rfl⟩ dL_law_346 (fun r60 m59 h => ?_)
                          refine ct_icmp_eq C dL_law_349 841 (by decide) (fun hc61 => ?_) (fun hc61 => ?_)
                          · have h := h.1 hc61
                            refine ct_sub [0, 1, 2, 3] [(0, .ref b), (1, .ref (o + v1)), (2, .ref (o + v2)), (3, .int v3)] rfl ?_
                            exact kb_L_law_841 C hr hlk hX hbl hso ih kv1 kv2 h
                          · have h := h.2 hc61
                            refine ct_iconst C dL_law_352 (0 : Int32) (by decide) ?_
                            exact h.elim
                        · have h := h.2 hc56
                          by_cases hc62 : ((xs v3.toNatClampNeg) &&& (31 : Int32)) = (10 : Int32)
                          · have h := h.1 hc62
                            refine ct_tableIn (off := 322) C dL_law_32 354 (by rw [hc62]; decide) (by rw [hc62]; decide) (by rw [hc62]; decide) (by decide) ?_
                            refine ct_aload_n C dL_law_354 1 rfl rfl ?_
                            refine ct_aload_n C dL_law_355 0 rfl rfl ?_
                            refine ct_iload_n C dL_law_356 3 rfl rfl ?_
                            refine ct_iconst C dL_law_357 (1 : Int32) (by decide) ?_
                            refine ct_iadd C dL_law_358 ?_
                            refine lw_sld C hX hbl hso h.1 dL_law_359 ?_
                            have h := h.2
                            refine ct_aload_n C dL_law_360 0 rfl rfl ?_
                            refine ct_iload_n C dL_law_361 3 rfl rfl ?_
                            refine ct_iconst C dL_law_362 (2 : Int32) (by decide) ?_
                            refine ct_iadd C dL_law_363 ?_
                            refine lw_sld C hX hbl hso h.1 dL_law_364 ?_
                            have h := h.2
                            refine ct_callVi (As := [.int (xs (v3 + (1 : Int32)).toNatClampNeg), .int (xs (v3 + (2 : Int32)).toNatClampNeg)]) (T := TX11) C (c_X11_seenValue l D cy o kv1 h) kl_L_55 kv1.1 (ct_E11 kv1) rfl rfl rfl (Nat.le_of_ble_eq_true rfl) ⟨rfl, rfl, Nat.le_of_ble_eq_true rfl, Nat.le_of_ble_eq_true rfl⟩ ⟨Nat.le_of_ble_eq_true rfl, Nat.le_of_ble_eq_true rfl⟩ dL_law_365 (fun r64 m63 h => ?_)
                            refine ct_aload_n C dL_law_368 2 rfl rfl ?_
                            refine ct_aload_n C dL_law_369 0 rfl rfl ?_
                            refine ct_iload_n C dL_law_370 3 rfl rfl ?_
                            refine ct_iconst C dL_law_371 (1 : Int32) (by decide) ?_
                            refine ct_iadd C dL_law_372 ?_
                            refine lw_sld C hX hbl hso h.1 dL_law_373 ?_
                            have h := h.2
                            refine ct_aload_n C dL_law_374 0 rfl rfl ?_
                            refine ct_iload_n C dL_law_375 3 rfl rfl ?_
                            refine ct_iconst C dL_law_376 (2 : Int32) (by decide) ?_
                            refine ct_iadd C dL_law_377 ?_
                            refine lw_sld C hX hbl hso h.1 dL_law_378 ?_
                            have h := h.2
                            refine ct_callVi (As := [.int (xs (v3 + (1 : Int32)).toNatClampNeg), .int (xs (v3 + (2 : Int32)).toNatClampNeg)]) (T := TX12) C (c_X12_seenValue l D cy o kv2 h) kl_L_59 kv2.1 (ct_E12 kv2) rfl rfl rfl (Nat.le_of_ble_eq_true rfl) ⟨rfl, rfl, Nat.le_of_ble_eq_true rfl, Nat.le_of_ble_eq_true rfl⟩ ⟨Nat.le_of_ble_eq_true rfl, Nat.le_of_ble_eq_true rfl⟩ dL_law_379 (fun r66 m65 h => ?_)
                            refine ct_icmp_eq C dL_law_382 841 (by decide) (fun hc67 => ?_) (fun hc67 => ?_)
                            · have h := h.1 hc67
                              refine ct_sub [0, 1, 2, 3] [(0, .ref b), (1, .ref (o + v1)), (2, .ref (o + v2)), (3, .int v3)] rfl ?_
                              exact kb_L_law_841 C hr hlk hX hbl hso ih kv1 kv2 h
                            · have h := h.2 hc67
                              refine ct_iconst C dL_law_385 (0 : Int32) (by decide) ?_
                              exact h.elim
                          · have h := h.2 hc62
                            by_cases hc68 : ((xs v3.toNatClampNeg) &&& (31 : Int32)) = (11 : Int32)
                            · have h := h.1 hc68
                              refine ct_tableIn (off := 355) C dL_law_32 387 (by rw [hc68]; decide) (by rw [hc68]; decide) (by rw [hc68]; decide) (by decide) ?_
                              refine ct_aload_n C dL_law_387 1 rfl rfl ?_
                              refine ct_aload_n C dL_law_388 0 rfl rfl ?_
                              refine ct_iload_n C dL_law_389 3 rfl rfl ?_
                              refine ct_iconst C dL_law_390 (1 : Int32) (by decide) ?_
                              refine ct_iadd C dL_law_391 ?_
                              refine lw_sld C hX hbl hso h.1 dL_law_392 ?_
                              have h := h.2
                              refine ct_callVi (As := [.int (xs (v3 + (1 : Int32)).toNatClampNeg)]) (T := TX11) C (c_X11_readSet l D cy o kv1 h) kl_L_60 kv1.1 (ct_E11 kv1) rfl rfl rfl (Nat.le_of_ble_eq_true rfl) ⟨rfl, rfl, Nat.le_of_ble_eq_true rfl, Nat.le_of_ble_eq_true rfl⟩ ⟨Nat.le_of_ble_eq_true rfl, Nat.le_of_ble_eq_true rfl⟩ dL_law_393 (fun r70 m69 h => ?_)
                              refine ct_aload_n C dL_law_396 2 rfl rfl ?_
                              refine ct_aload_n C dL_law_397 0 rfl rfl ?_
                              refine ct_iload_n C dL_law_398 3 rfl rfl ?_
                              refine ct_iconst C dL_law_399 (1 : Int32) (by decide) ?_
                              refine ct_iadd C dL_law_400 ?_
                              refine lw_sld C hX hbl hso h.1 dL_law_401 ?_
                              have h := h.2
                              refine ct_callVi (As := [.int (xs (v3 + (1 : Int32)).toNatClampNeg)]) (T := TX12) C (c_X12_readSet l D cy o kv2 h) kl_L_63 kv2.1 (ct_E12 kv2) rfl rfl rfl (Nat.le_of_ble_eq_true rfl) ⟨rfl, rfl, Nat.le_of_ble_eq_true rfl, Nat.le_of_ble_eq_true rfl⟩ ⟨Nat.le_of_ble_eq_true rfl, Nat.le_of_ble_eq_true rfl⟩ dL_law_402 (fun r72 m71 h => ?_)
                              refine ct_icmp_eq C dL_law_405 841 (by decide) (fun hc73 => ?_) (fun hc73 => ?_)
                              · have h := h.1 hc73
                                refine ct_sub [0, 1, 2, 3] [(0, .ref b), (1, .ref (o + v1)), (2, .ref (o + v2)), (3, .int v3)] rfl ?_
                                exact kb_L_law_841 C hr hlk hX hbl hso ih kv1 kv2 h
                              · have h := h.2 hc73
                                refine ct_iconst C dL_law_408 (0 : Int32) (by decide) ?_
                                exact h.elim
                            · have h := h.2 hc68
                              by_cases hc74 : ((xs v3.toNatClampNeg) &&& (31 : Int32)) = (12 : Int32)
                              · have h := h.1 hc74
                                refine ct_tableIn (off := 378) C dL_law_32 410 (by rw [hc74]; decide) (by rw [hc74]; decide) (by rw [hc74]; decide) (by decide) ?_
                                refine ct_aload_n C dL_law_410 1 rfl rfl ?_
                                refine ct_aload_n C dL_law_411 0 rfl rfl ?_
                                refine ct_iload_n C dL_law_412 3 rfl rfl ?_
                                refine ct_iconst C dL_law_413 (1 : Int32) (by decide) ?_
                                refine ct_iadd C dL_law_414 ?_
                                refine lw_sld C hX hbl hso h.1 dL_law_415 ?_
                                have h := h.2
                                refine ct_callVi (As := [.int (xs (v3 + (1 : Int32)).toNatClampNeg)]) (T := TX11) C (c_X11_writeSet l D cy o kv1 h) kl_L_64 kv1.1 (ct_E11 kv1) rfl rfl rfl (Nat.le_of_ble_eq_true rfl) ⟨rfl, rfl, Nat.le_of_ble_eq_true rfl, Nat.le_of_ble_eq_true rfl⟩ ⟨Nat.le_of_ble_eq_true rfl, Nat.le_of_ble_eq_true rfl⟩ dL_law_416 (fun r76 m75 h => ?_)
                                refine ct_aload_n C dL_law_419 2 rfl rfl ?_
                                refine ct_aload_n C dL_law_420 0 rfl rfl ?_
                                refine ct_iload_n C dL_law_421 3 rfl rfl ?_
                                refine ct_iconst C dL_law_422 (1 : Int32) (by decide) ?_
                                refine ct_iadd C dL_law_423 ?_
                                refine lw_sld C hX hbl hso h.1 dL_law_424 ?_
                                have h := h.2
                                refine ct_callVi (As := [.int (xs (v3 + (1 : Int32)).toNatClampNeg)]) (T := TX12) C (c_X12_writeSet l D cy o kv2 h) kl_L_67 kv2.1 (ct_E12 kv2) rfl rfl rfl (Nat.le_of_ble_eq_true rfl) ⟨rfl, rfl, Nat.le_of_ble_eq_true rfl, Nat.le_of_ble_eq_true rfl⟩ ⟨Nat.le_of_ble_eq_true rfl, Nat.le_of_ble_eq_true rfl⟩ dL_law_425 (fun r78 m77 h => ?_)
                                refine ct_icmp_eq C dL_law_428 841 (by decide) (fun hc79 => ?_) (fun hc79 => ?_)
                                · have h := h.1 hc79
                                  refine ct_sub [0, 1, 2, 3] [(0, .ref b), (1, .ref (o + v1)), (2, .ref (o + v2)), (3, .int v3)] rfl ?_
                                  exact kb_L_law_841 C hr hlk hX hbl hso ih kv1 kv2 h
                                · have h := h.2 hc79
                                  refine ct_iconst C dL_law_431 (0 : Int32) (by decide) ?_
                                  exact h.elim
                              · have h := h.2 hc74
                                by_cases hc80 : ((xs v3.toNatClampNeg) &&& (31 : Int32)) = (13 : Int32)
                                · have h := h.1 hc80
                                  refine ct_tableIn (off := 401) C dL_law_32 433 (by rw [hc80]; decide) (by rw [hc80]; decide) (by rw [hc80]; decide) (by decide) ?_
                                  refine ct_aload_n C dL_law_433 1 rfl rfl ?_
                                  refine ct_aload_n C dL_law_434 0 rfl rfl ?_
                                  refine ct_iload_n C dL_law_435 3 rfl rfl ?_
                                  refine ct_iconst C dL_law_436 (1 : Int32) (by decide) ?_
                                  refine ct_iadd C dL_law_437 ?_
                                  refine lw_sld C hX hbl hso h.1 dL_law_438 ?_
                                  have h := h.2
                                  refine ct_callVi (As := [.int (xs (v3 + (1 : Int32)).toNatClampNeg)]) (T := TX11) C (c_X11_openBlocks l D cy o kv1 h) kl_L_68 kv1.1 (ct_E11 kv1) rfl rfl rfl (Nat.le_of_ble_eq_true rfl) ⟨rfl, rfl, Nat.le_of_ble_eq_true rfl, Nat.le_of_ble_eq_true rfl⟩ ⟨Nat.le_of_ble_eq_true rfl, Nat.le_of_ble_eq_true rfl⟩ dL_law_439 (fun r82 m81 h => ?_)
                                  refine ct_aload_n C dL_law_442 2 rfl rfl ?_
                                  refine ct_aload_n C dL_law_443 0 rfl rfl ?_
                                  refine ct_iload_n C dL_law_444 3 rfl rfl ?_
                                  refine ct_iconst C dL_law_445 (1 : Int32) (by decide) ?_
                                  refine ct_iadd C dL_law_446 ?_
                                  refine lw_sld C hX hbl hso h.1 dL_law_447 ?_
                                  have h := h.2
                                  refine ct_callVi (As := [.int (xs (v3 + (1 : Int32)).toNatClampNeg)]) (T := TX12) C (c_X12_openBlocks l D cy o kv2 h) kl_L_71 kv2.1 (ct_E12 kv2) rfl rfl rfl (Nat.le_of_ble_eq_true rfl) ⟨rfl, rfl, Nat.le_of_ble_eq_true rfl, Nat.le_of_ble_eq_true rfl⟩ ⟨Nat.le_of_ble_eq_true rfl, Nat.le_of_ble_eq_true rfl⟩ dL_law_448 (fun r84 m83 h => ?_)
                                  refine ct_icmp_eq C dL_law_451 841 (by decide) (fun hc85 => ?_) (fun hc85 => ?_)
                                  · have h := h.1 hc85
                                    refine ct_sub [0, 1, 2, 3] [(0, .ref b), (1, .ref (o + v1)), (2, .ref (o + v2)), (3, .int v3)] rfl ?_
                                    exact kb_L_law_841 C hr hlk hX hbl hso ih kv1 kv2 h
                                  · have h := h.2 hc85
                                    refine ct_iconst C dL_law_454 (0 : Int32) (by decide) ?_
                                    exact h.elim
                                · have h := h.2 hc80
                                  by_cases hc86 : ((xs v3.toNatClampNeg) &&& (31 : Int32)) = (14 : Int32)
                                  · have h := h.1 hc86
                                    refine ct_tableIn (off := 424) C dL_law_32 456 (by rw [hc86]; decide) (by rw [hc86]; decide) (by rw [hc86]; decide) (by decide) ?_
                                    refine ct_aload_n C dL_law_456 1 rfl rfl ?_
                                    refine ct_aload_n C dL_law_457 0 rfl rfl ?_
                                    refine ct_iload_n C dL_law_458 3 rfl rfl ?_
                                    refine ct_iconst C dL_law_459 (1 : Int32) (by decide) ?_
                                    refine ct_iadd C dL_law_460 ?_
                                    refine lw_sld C hX hbl hso h.1 dL_law_461 ?_
                                    have h := h.2
                                    refine ct_callVi (As := [.int (xs (v3 + (1 : Int32)).toNatClampNeg)]) (T := TX11) C (c_X11_runsLeft l D cy o kv1 h) kl_L_72 kv1.1 (ct_E11 kv1) rfl rfl rfl (Nat.le_of_ble_eq_true rfl) ⟨rfl, rfl, Nat.le_of_ble_eq_true rfl, Nat.le_of_ble_eq_true rfl⟩ ⟨Nat.le_of_ble_eq_true rfl, Nat.le_of_ble_eq_true rfl⟩ dL_law_462 (fun r88 m87 h => ?_)
                                    refine ct_aload_n C dL_law_465 2 rfl rfl ?_
                                    refine ct_aload_n C dL_law_466 0 rfl rfl ?_
                                    refine ct_iload_n C dL_law_467 3 rfl rfl ?_
                                    refine ct_iconst C dL_law_468 (1 : Int32) (by decide) ?_
                                    refine ct_iadd C dL_law_469 ?_
                                    refine lw_sld C hX hbl hso h.1 dL_law_470 ?_
                                    have h := h.2
                                    refine ct_callVi (As := [.int (xs (v3 + (1 : Int32)).toNatClampNeg)]) (T := TX12) C (c_X12_runsLeft l D cy o kv2 h) kl_L_75 kv2.1 (ct_E12 kv2) rfl rfl rfl (Nat.le_of_ble_eq_true rfl) ⟨rfl, rfl, Nat.le_of_ble_eq_true rfl, Nat.le_of_ble_eq_true rfl⟩ ⟨Nat.le_of_ble_eq_true rfl, Nat.le_of_ble_eq_true rfl⟩ dL_law_471 (fun r90 m89 h => ?_)
                                    refine ct_icmp_eq C dL_law_474 841 (by decide) (fun hc91 => ?_) (fun hc91 => ?_)
                                    · have h := h.1 hc91
                                      refine ct_sub [0, 1, 2, 3] [(0, .ref b), (1, .ref (o + v1)), (2, .ref (o + v2)), (3, .int v3)] rfl ?_
                                      exact kb_L_law_841 C hr hlk hX hbl hso ih kv1 kv2 h
                                    · have h := h.2 hc91
                                      refine ct_iconst C dL_law_477 (0 : Int32) (by decide) ?_
                                      exact h.elim
                                  · have h := h.2 hc86
                                    by_cases hc92 : ((xs v3.toNatClampNeg) &&& (31 : Int32)) = (15 : Int32)
                                    · have h := h.1 hc92
                                      refine ct_tableIn (off := 447) C dL_law_32 479 (by rw [hc92]; decide) (by rw [hc92]; decide) (by rw [hc92]; decide) (by decide) ?_
                                      refine ct_aload_n C dL_law_479 1 rfl rfl ?_
                                      refine ct_aload_n C dL_law_480 0 rfl rfl ?_
                                      refine ct_iload_n C dL_law_481 3 rfl rfl ?_
                                      refine ct_iconst C dL_law_482 (1 : Int32) (by decide) ?_
                                      refine ct_iadd C dL_law_483 ?_
                                      refine lw_sld C hX hbl hso h.1 dL_law_484 ?_
                                      have h := h.2
                                      refine ct_callVi (As := [.int (xs (v3 + (1 : Int32)).toNatClampNeg)]) (T := TX11) C (c_X11_restarts l D cy o kv1 h) kl_L_76 kv1.1 (ct_E11 kv1) rfl rfl rfl (Nat.le_of_ble_eq_true rfl) ⟨rfl, rfl, Nat.le_of_ble_eq_true rfl, Nat.le_of_ble_eq_true rfl⟩ ⟨Nat.le_of_ble_eq_true rfl, Nat.le_of_ble_eq_true rfl⟩ dL_law_485 (fun r94 m93 h => ?_)
                                      refine ct_aload_n C dL_law_488 2 rfl rfl ?_
                                      refine ct_aload_n C dL_law_489 0 rfl rfl ?_
                                      refine ct_iload_n C dL_law_490 3 rfl rfl ?_
                                      refine ct_iconst C dL_law_491 (1 : Int32) (by decide) ?_
                                      refine ct_iadd C dL_law_492 ?_
                                      refine lw_sld C hX hbl hso h.1 dL_law_493 ?_
                                      have h := h.2
                                      refine ct_callVi (As := [.int (xs (v3 + (1 : Int32)).toNatClampNeg)]) (T := TX12) C (c_X12_restarts l D cy o kv2 h) kl_L_79 kv2.1 (ct_E12 kv2) rfl rfl rfl (Nat.le_of_ble_eq_true rfl) ⟨rfl, rfl, Nat.le_of_ble_eq_true rfl, Nat.le_of_ble_eq_true rfl⟩ ⟨Nat.le_of_ble_eq_true rfl, Nat.le_of_ble_eq_true rfl⟩ dL_law_494 (fun r96 m95 h => ?_)
                                      refine ct_icmp_eq C dL_law_497 841 (by decide) (fun hc97 => ?_) (fun hc97 => ?_)
                                      · have h := h.1 hc97
                                        refine ct_sub [0, 1, 2, 3] [(0, .ref b), (1, .ref (o + v1)), (2, .ref (o + v2)), (3, .int v3)] rfl ?_
                                        exact kb_L_law_841 C hr hlk hX hbl hso ih kv1 kv2 h
                                      · have h := h.2 hc97
                                        refine ct_iconst C dL_law_500 (0 : Int32) (by decide) ?_
                                        exact h.elim
                                    · have h := h.2 hc92
                                      by_cases hc98 : ((xs v3.toNatClampNeg) &&& (31 : Int32)) = (16 : Int32)
                                      · have h := h.1 hc98
                                        refine ct_tableIn (off := 470) C dL_law_32 502 (by rw [hc98]; decide) (by rw [hc98]; decide) (by rw [hc98]; decide) (by decide) ?_
                                        refine ct_aload_n C dL_law_502 1 rfl rfl ?_
                                        refine ct_aload_n C dL_law_503 0 rfl rfl ?_
                                        refine ct_iload_n C dL_law_504 3 rfl rfl ?_
                                        refine ct_iconst C dL_law_505 (1 : Int32) (by decide) ?_
                                        refine ct_iadd C dL_law_506 ?_
                                        refine lw_sld C hX hbl hso h.1 dL_law_507 ?_
                                        have h := h.2
                                        refine ct_callVi (As := [.int (xs (v3 + (1 : Int32)).toNatClampNeg)]) (T := TX11) C (c_X11_step l D cy o kv1 h) kl_L_80 kv1.1 (ct_E11 kv1) rfl rfl rfl (Nat.le_of_ble_eq_true rfl) ⟨rfl, rfl, Nat.le_of_ble_eq_true rfl, Nat.le_of_ble_eq_true rfl⟩ ⟨Nat.le_of_ble_eq_true rfl, Nat.le_of_ble_eq_true rfl⟩ dL_law_508 (fun r100 m99 h => ?_)
                                        refine ct_aload_n C dL_law_511 2 rfl rfl ?_
                                        refine ct_aload_n C dL_law_512 0 rfl rfl ?_
                                        refine ct_iload_n C dL_law_513 3 rfl rfl ?_
                                        refine ct_iconst C dL_law_514 (1 : Int32) (by decide) ?_
                                        refine ct_iadd C dL_law_515 ?_
                                        refine lw_sld C hX hbl hso h.1 dL_law_516 ?_
                                        have h := h.2
                                        refine ct_callVi (As := [.int (xs (v3 + (1 : Int32)).toNatClampNeg)]) (T := TX12) C (c_X12_step l D cy o kv2 h) kl_L_83 kv2.1 (ct_E12 kv2) rfl rfl rfl (Nat.le_of_ble_eq_true rfl) ⟨rfl, rfl, Nat.le_of_ble_eq_true rfl, Nat.le_of_ble_eq_true rfl⟩ ⟨Nat.le_of_ble_eq_true rfl, Nat.le_of_ble_eq_true rfl⟩ dL_law_517 (fun r102 m101 h => ?_)
                                        refine ct_icmp_eq C dL_law_520 841 (by decide) (fun hc103 => ?_) (fun hc103 => ?_)
                                        · have h := h.1 hc103
                                          refine ct_sub [0, 1, 2, 3] [(0, .ref b), (1, .ref (o + v1)), (2, .ref (o + v2)), (3, .int v3)] rfl ?_
                                          exact kb_L_law_841 C hr hlk hX hbl hso ih kv1 kv2 h
                                        · have h := h.2 hc103
                                          refine ct_iconst C dL_law_523 (0 : Int32) (by decide) ?_
                                          exact h.elim
                                      · have h := h.2 hc98
                                        by_cases hc104 : ((xs v3.toNatClampNeg) &&& (31 : Int32)) = (17 : Int32)
                                        · have h := h.1 hc104
                                          refine ct_tableIn (off := 493) C dL_law_32 525 (by rw [hc104]; decide) (by rw [hc104]; decide) (by rw [hc104]; decide) (by decide) ?_
                                          refine ct_aload_n C dL_law_525 1 rfl rfl ?_
                                          refine ct_aload_n C dL_law_526 0 rfl rfl ?_
                                          refine ct_iload_n C dL_law_527 3 rfl rfl ?_
                                          refine ct_iconst C dL_law_528 (1 : Int32) (by decide) ?_
                                          refine ct_iadd C dL_law_529 ?_
                                          refine lw_sld C hX hbl hso h.1 dL_law_530 ?_
                                          have h := h.2
                                          refine ct_callVi (As := [.int (xs (v3 + (1 : Int32)).toNatClampNeg)]) (T := TX11) C (c_X11_run l D cy o kv1 h) kl_L_84 kv1.1 (ct_E11 kv1) rfl rfl rfl (Nat.le_of_ble_eq_true rfl) ⟨rfl, rfl, Nat.le_of_ble_eq_true rfl, Nat.le_of_ble_eq_true rfl⟩ ⟨Nat.le_of_ble_eq_true rfl, Nat.le_of_ble_eq_true rfl⟩ dL_law_531 (fun r106 m105 h => ?_)
                                          refine ct_aload_n C dL_law_534 2 rfl rfl ?_
                                          refine ct_aload_n C dL_law_535 0 rfl rfl ?_
                                          refine ct_iload_n C dL_law_536 3 rfl rfl ?_
                                          refine ct_iconst C dL_law_537 (1 : Int32) (by decide) ?_
                                          refine ct_iadd C dL_law_538 ?_
                                          refine lw_sld C hX hbl hso h.1 dL_law_539 ?_
                                          have h := h.2
                                          refine ct_callVi (As := [.int (xs (v3 + (1 : Int32)).toNatClampNeg)]) (T := TX12) C (c_X12_run l D cy o kv2 h) kl_L_87 kv2.1 (ct_E12 kv2) rfl rfl rfl (Nat.le_of_ble_eq_true rfl) ⟨rfl, rfl, Nat.le_of_ble_eq_true rfl, Nat.le_of_ble_eq_true rfl⟩ ⟨Nat.le_of_ble_eq_true rfl, Nat.le_of_ble_eq_true rfl⟩ dL_law_540 (fun r108 m107 h => ?_)
                                          refine ct_icmp_eq C dL_law_543 841 (by decide) (fun hc109 => ?_) (fun hc109 => ?_)
                                          · have h := h.1 hc109
                                            refine ct_sub [0, 1, 2, 3] [(0, .ref b), (1, .ref (o + v1)), (2, .ref (o + v2)), (3, .int v3)] rfl ?_
                                            exact kb_L_law_841 C hr hlk hX hbl hso ih kv1 kv2 h
                                          · have h := h.2 hc109
                                            refine ct_iconst C dL_law_546 (0 : Int32) (by decide) ?_
                                            exact h.elim
                                        · have h := h.2 hc104
                                          by_cases hc110 : ((xs v3.toNatClampNeg) &&& (31 : Int32)) = (18 : Int32)
                                          · have h := h.1 hc110
                                            refine ct_tableIn (off := 516) C dL_law_32 548 (by rw [hc110]; decide) (by rw [hc110]; decide) (by rw [hc110]; decide) (by decide) ?_
                                            refine ct_aload_n C dL_law_548 1 rfl rfl ?_
                                            refine ct_aload_n C dL_law_549 0 rfl rfl ?_
                                            refine ct_iload_n C dL_law_550 3 rfl rfl ?_
                                            refine ct_iconst C dL_law_551 (1 : Int32) (by decide) ?_
                                            refine ct_iadd C dL_law_552 ?_
                                            refine lw_sld C hX hbl hso h.1 dL_law_553 ?_
                                            have h := h.2
                                            refine ct_aload_n C dL_law_554 0 rfl rfl ?_
                                            refine ct_iload_n C dL_law_555 3 rfl rfl ?_
                                            refine ct_iconst C dL_law_556 (2 : Int32) (by decide) ?_
                                            refine ct_iadd C dL_law_557 ?_
                                            refine lw_sld C hX hbl hso h.1 dL_law_558 ?_
                                            have h := h.2
                                            refine ct_callVi (As := [.int (xs (v3 + (1 : Int32)).toNatClampNeg), .int (xs (v3 + (2 : Int32)).toNatClampNeg)]) (T := TX11) C (c_X11_setCell l D cy o kv1 h) kl_L_88 kv1.1 (ct_E11 kv1) rfl rfl rfl (Nat.le_of_ble_eq_true rfl) ⟨rfl, rfl, Nat.le_of_ble_eq_true rfl, Nat.le_of_ble_eq_true rfl⟩ ⟨Nat.le_of_ble_eq_true rfl, Nat.le_of_ble_eq_true rfl⟩ dL_law_559 (fun r112 m111 h => ?_)
                                            refine ct_aload_n C dL_law_562 2 rfl rfl ?_
                                            refine ct_aload_n C dL_law_563 0 rfl rfl ?_
                                            refine ct_iload_n C dL_law_564 3 rfl rfl ?_
                                            refine ct_iconst C dL_law_565 (1 : Int32) (by decide) ?_
                                            refine ct_iadd C dL_law_566 ?_
                                            refine lw_sld C hX hbl hso h.1 dL_law_567 ?_
                                            have h := h.2
                                            refine ct_aload_n C dL_law_568 0 rfl rfl ?_
                                            refine ct_iload_n C dL_law_569 3 rfl rfl ?_
                                            refine ct_iconst C dL_law_570 (2 : Int32) (by decide) ?_
                                            refine ct_iadd C dL_law_571 ?_
                                            refine lw_sld C hX hbl hso h.1 dL_law_572 ?_
                                            have h := h.2
                                            refine ct_callVi (As := [.int (xs (v3 + (1 : Int32)).toNatClampNeg), .int (xs (v3 + (2 : Int32)).toNatClampNeg)]) (T := TX12) C (c_X12_setCell l D cy o kv2 h) kl_L_91 kv2.1 (ct_E12 kv2) rfl rfl rfl (Nat.le_of_ble_eq_true rfl) ⟨rfl, rfl, Nat.le_of_ble_eq_true rfl, Nat.le_of_ble_eq_true rfl⟩ ⟨Nat.le_of_ble_eq_true rfl, Nat.le_of_ble_eq_true rfl⟩ dL_law_573 (fun r114 m113 h => ?_)
                                            refine ct_icmp_eq C dL_law_576 841 (by decide) (fun hc115 => ?_) (fun hc115 => ?_)
                                            · have h := h.1 hc115
                                              refine ct_sub [0, 1, 2, 3] [(0, .ref b), (1, .ref (o + v1)), (2, .ref (o + v2)), (3, .int v3)] rfl ?_
                                              exact kb_L_law_841 C hr hlk hX hbl hso ih kv1 kv2 h
                                            · have h := h.2 hc115
                                              refine ct_iconst C dL_law_579 (0 : Int32) (by decide) ?_
                                              exact h.elim
                                          · have h := h.2 hc110
                                            by_cases hc116 : ((xs v3.toNatClampNeg) &&& (31 : Int32)) = (19 : Int32)
                                            · have h := h.1 hc116
                                              refine ct_tableIn (off := 549) C dL_law_32 581 (by rw [hc116]; decide) (by rw [hc116]; decide) (by rw [hc116]; decide) (by decide) ?_
                                              refine ct_aload_n C dL_law_581 1 rfl rfl ?_
                                              refine ct_aload_n C dL_law_582 0 rfl rfl ?_
                                              refine ct_iload_n C dL_law_583 3 rfl rfl ?_
                                              refine ct_iconst C dL_law_584 (1 : Int32) (by decide) ?_
                                              refine ct_iadd C dL_law_585 ?_
                                              refine lw_sld C hX hbl hso h.1 dL_law_586 ?_
                                              have h := h.2
                                              refine ct_aload_n C dL_law_587 0 rfl rfl ?_
                                              refine ct_iload_n C dL_law_588 3 rfl rfl ?_
                                              refine ct_iconst C dL_law_589 (2 : Int32) (by decide) ?_
                                              refine ct_iadd C dL_law_590 ?_
                                              refine lw_sld C hX hbl hso h.1 dL_law_591 ?_
                                              have h := h.2
                                              refine ct_aload_n C dL_law_592 0 rfl rfl ?_
                                              refine ct_iload_n C dL_law_593 3 rfl rfl ?_
                                              refine ct_iconst C dL_law_594 (3 : Int32) (by decide) ?_
                                              refine ct_iadd C dL_law_595 ?_
                                              refine lw_sld C hX hbl hso h.1 dL_law_596 ?_
                                              have h := h.2
                                              refine ct_callVi (As := [.int (xs (v3 + (1 : Int32)).toNatClampNeg), .int (xs (v3 + (2 : Int32)).toNatClampNeg), .int (xs (v3 + (3 : Int32)).toNatClampNeg)]) (T := TX11) C (c_X11_addInvariant l D cy o kv1 h) kl_L_92 kv1.1 (ct_E11 kv1) rfl rfl rfl (Nat.le_of_ble_eq_true rfl) ⟨rfl, rfl, Nat.le_of_ble_eq_true rfl, Nat.le_of_ble_eq_true rfl⟩ ⟨Nat.le_of_ble_eq_true rfl, Nat.le_of_ble_eq_true rfl⟩ dL_law_597 (fun r118 m117 h => ?_)
                                              refine ct_aload_n C dL_law_600 2 rfl rfl ?_
                                              refine ct_aload_n C dL_law_601 0 rfl rfl ?_
                                              refine ct_iload_n C dL_law_602 3 rfl rfl ?_
                                              refine ct_iconst C dL_law_603 (1 : Int32) (by decide) ?_
                                              refine ct_iadd C dL_law_604 ?_
                                              refine lw_sld C hX hbl hso h.1 dL_law_605 ?_
                                              have h := h.2
                                              refine ct_aload_n C dL_law_606 0 rfl rfl ?_
                                              refine ct_iload_n C dL_law_607 3 rfl rfl ?_
                                              refine ct_iconst C dL_law_608 (2 : Int32) (by decide) ?_
                                              refine ct_iadd C dL_law_609 ?_
                                              refine lw_sld C hX hbl hso h.1 dL_law_610 ?_
                                              have h := h.2
                                              refine ct_aload_n C dL_law_611 0 rfl rfl ?_
                                              refine ct_iload_n C dL_law_612 3 rfl rfl ?_
                                              refine ct_iconst C dL_law_613 (3 : Int32) (by decide) ?_
                                              refine ct_iadd C dL_law_614 ?_
                                              refine lw_sld C hX hbl hso h.1 dL_law_615 ?_
                                              have h := h.2
                                              refine ct_callVi (As := [.int (xs (v3 + (1 : Int32)).toNatClampNeg), .int (xs (v3 + (2 : Int32)).toNatClampNeg), .int (xs (v3 + (3 : Int32)).toNatClampNeg)]) (T := TX12) C (c_X12_addInvariant l D cy o kv2 h) kl_L_96 kv2.1 (ct_E12 kv2) rfl rfl rfl (Nat.le_of_ble_eq_true rfl) ⟨rfl, rfl, Nat.le_of_ble_eq_true rfl, Nat.le_of_ble_eq_true rfl⟩ ⟨Nat.le_of_ble_eq_true rfl, Nat.le_of_ble_eq_true rfl⟩ dL_law_616 (fun r120 m119 h => ?_)
                                              refine ct_icmp_eq C dL_law_619 841 (by decide) (fun hc121 => ?_) (fun hc121 => ?_)
                                              · have h := h.1 hc121
                                                refine ct_sub [0, 1, 2, 3] [(0, .ref b), (1, .ref (o + v1)), (2, .ref (o + v2)), (3, .int v3)] rfl ?_
                                                exact kb_L_law_841 C hr hlk hX hbl hso ih kv1 kv2 h
                                              · have h := h.2 hc121
                                                refine ct_iconst C dL_law_622 (0 : Int32) (by decide) ?_
                                                exact h.elim
                                            · have h := h.2 hc116
                                              by_cases hc122 : ((xs v3.toNatClampNeg) &&& (31 : Int32)) = (20 : Int32)
                                              · have h := h.1 hc122
                                                refine ct_tableIn (off := 592) C dL_law_32 624 (by rw [hc122]; decide) (by rw [hc122]; decide) (by rw [hc122]; decide) (by decide) ?_
                                                refine ct_aload_n C dL_law_624 1 rfl rfl ?_
                                                refine ct_callVi (As := []) (T := TX11) C (c_X11_undo l D cy o kv1 h) kl_L_97 kv1.1 (ct_E11 kv1) rfl rfl rfl (Nat.le_of_ble_eq_true rfl) ⟨rfl, rfl, Nat.le_of_ble_eq_true rfl, Nat.le_of_ble_eq_true rfl⟩ ⟨Nat.le_of_ble_eq_true rfl, Nat.le_of_ble_eq_true rfl⟩ dL_law_625 (fun r124 m123 h => ?_)
                                                refine ct_aload_n C dL_law_628 2 rfl rfl ?_
                                                refine ct_callVi (As := []) (T := TX12) C (c_X12_undo l D cy o kv2 h) kl_L_100 kv2.1 (ct_E12 kv2) rfl rfl rfl (Nat.le_of_ble_eq_true rfl) ⟨rfl, rfl, Nat.le_of_ble_eq_true rfl, Nat.le_of_ble_eq_true rfl⟩ ⟨Nat.le_of_ble_eq_true rfl, Nat.le_of_ble_eq_true rfl⟩ dL_law_629 (fun r126 m125 h => ?_)
                                                refine ct_icmp_eq C dL_law_632 841 (by decide) (fun hc127 => ?_) (fun hc127 => ?_)
                                                · have h := h.1 hc127
                                                  refine ct_sub [0, 1, 2, 3] [(0, .ref b), (1, .ref (o + v1)), (2, .ref (o + v2)), (3, .int v3)] rfl ?_
                                                  exact kb_L_law_841 C hr hlk hX hbl hso ih kv1 kv2 h
                                                · have h := h.2 hc127
                                                  refine ct_iconst C dL_law_635 (0 : Int32) (by decide) ?_
                                                  exact h.elim
                                              · have h := h.2 hc122
                                                by_cases hc128 : ((xs v3.toNatClampNeg) &&& (31 : Int32)) = (21 : Int32)
                                                · have h := h.1 hc128
                                                  refine ct_tableIn (off := 605) C dL_law_32 637 (by rw [hc128]; decide) (by rw [hc128]; decide) (by rw [hc128]; decide) (by decide) ?_
                                                  refine ct_aload_n C dL_law_637 1 rfl rfl ?_
                                                  refine ct_callVi (As := []) (T := TX11) C (c_X11_outcomeCount l D cy o kv1 h) kl_L_101 kv1.1 (ct_E11 kv1) rfl rfl rfl (Nat.le_of_ble_eq_true rfl) ⟨rfl, rfl, Nat.le_of_ble_eq_true rfl, Nat.le_of_ble_eq_true rfl⟩ ⟨Nat.le_of_ble_eq_true rfl, Nat.le_of_ble_eq_true rfl⟩ dL_law_638 (fun r130 m129 h => ?_)
                                                  refine ct_aload_n C dL_law_641 2 rfl rfl ?_
                                                  refine ct_callVi (As := []) (T := TX12) C (c_X12_outcomeCount l D cy o kv2 h) kl_L_104 kv2.1 (ct_E12 kv2) rfl rfl rfl (Nat.le_of_ble_eq_true rfl) ⟨rfl, rfl, Nat.le_of_ble_eq_true rfl, Nat.le_of_ble_eq_true rfl⟩ ⟨Nat.le_of_ble_eq_true rfl, Nat.le_of_ble_eq_true rfl⟩ dL_law_642 (fun r132 m131 h => ?_)
                                                  refine ct_icmp_eq C dL_law_645 841 (by decide) (fun hc133 => ?_) (fun hc133 => ?_)
                                                  · have h := h.1 hc133
                                                    refine ct_sub [0, 1, 2, 3] [(0, .ref b), (1, .ref (o + v1)), (2, .ref (o + v2)), (3, .int v3)] rfl ?_
                                                    exact kb_L_law_841 C hr hlk hX hbl hso ih kv1 kv2 h
                                                  · have h := h.2 hc133
                                                    refine ct_iconst C dL_law_648 (0 : Int32) (by decide) ?_
                                                    exact h.elim
                                                · have h := h.2 hc128
                                                  by_cases hc134 : ((xs v3.toNatClampNeg) &&& (31 : Int32)) = (22 : Int32)
                                                  · have h := h.1 hc134
                                                    refine ct_tableIn (off := 618) C dL_law_32 650 (by rw [hc134]; decide) (by rw [hc134]; decide) (by rw [hc134]; decide) (by decide) ?_
                                                    refine ct_aload_n C dL_law_650 1 rfl rfl ?_
                                                    refine ct_callVi (As := []) (T := TX11) C (c_X11_possibleOutcomes l D cy o kv1 h) kl_L_105 kv1.1 (ct_E11 kv1) rfl rfl rfl (Nat.le_of_ble_eq_true rfl) ⟨rfl, rfl, Nat.le_of_ble_eq_true rfl, Nat.le_of_ble_eq_true rfl⟩ ⟨Nat.le_of_ble_eq_true rfl, Nat.le_of_ble_eq_true rfl⟩ dL_law_651 (fun r136 m135 h => ?_)
                                                    refine ct_aload_n C dL_law_654 2 rfl rfl ?_
                                                    refine ct_callVi (As := []) (T := TX12) C (c_X12_possibleOutcomes l D cy o kv2 h) kl_L_108 kv2.1 (ct_E12 kv2) rfl rfl rfl (Nat.le_of_ble_eq_true rfl) ⟨rfl, rfl, Nat.le_of_ble_eq_true rfl, Nat.le_of_ble_eq_true rfl⟩ ⟨Nat.le_of_ble_eq_true rfl, Nat.le_of_ble_eq_true rfl⟩ dL_law_655 (fun r138 m137 h => ?_)
                                                    refine ct_icmp_eq C dL_law_658 841 (by decide) (fun hc139 => ?_) (fun hc139 => ?_)
                                                    · have h := h.1 hc139
                                                      refine ct_sub [0, 1, 2, 3] [(0, .ref b), (1, .ref (o + v1)), (2, .ref (o + v2)), (3, .int v3)] rfl ?_
                                                      exact kb_L_law_841 C hr hlk hX hbl hso ih kv1 kv2 h
                                                    · have h := h.2 hc139
                                                      refine ct_iconst C dL_law_661 (0 : Int32) (by decide) ?_
                                                      exact h.elim
                                                  · have h := h.2 hc134
                                                    by_cases hc140 : ((xs v3.toNatClampNeg) &&& (31 : Int32)) = (23 : Int32)
                                                    · have h := h.1 hc140
                                                      refine ct_tableIn (off := 631) C dL_law_32 663 (by rw [hc140]; decide) (by rw [hc140]; decide) (by rw [hc140]; decide) (by decide) ?_
                                                      refine ct_aload_n C dL_law_663 1 rfl rfl ?_
                                                      refine ct_callVi (As := []) (T := TX11) C (c_X11_canDeadlock l D cy o kv1 h) kl_L_109 kv1.1 (ct_E11 kv1) rfl rfl rfl (Nat.le_of_ble_eq_true rfl) ⟨rfl, rfl, Nat.le_of_ble_eq_true rfl, Nat.le_of_ble_eq_true rfl⟩ ⟨Nat.le_of_ble_eq_true rfl, Nat.le_of_ble_eq_true rfl⟩ dL_law_664 (fun r142 m141 h => ?_)
                                                      refine ct_aload_n C dL_law_667 2 rfl rfl ?_
                                                      refine ct_callVi (As := []) (T := TX12) C (c_X12_canDeadlock l D cy o kv2 h) kl_L_112 kv2.1 (ct_E12 kv2) rfl rfl rfl (Nat.le_of_ble_eq_true rfl) ⟨rfl, rfl, Nat.le_of_ble_eq_true rfl, Nat.le_of_ble_eq_true rfl⟩ ⟨Nat.le_of_ble_eq_true rfl, Nat.le_of_ble_eq_true rfl⟩ dL_law_668 (fun r144 m143 h => ?_)
                                                      refine ct_icmp_eq C dL_law_671 841 (by decide) (fun hc145 => ?_) (fun hc145 => ?_)
                                                      · have h := h.1 hc145
                                                        refine ct_sub [0, 1, 2, 3] [(0, .ref b), (1, .ref (o + v1)), (2, .ref (o + v2)), (3, .int v3)] rfl ?_
                                                        exact kb_L_law_841 C hr hlk hX hbl hso ih kv1 kv2 h
                                                      · have h := h.2 hc145
                                                        refine ct_iconst C dL_law_674 (0 : Int32) (by decide) ?_
                                                        exact h.elim
                                                    · have h := h.2 hc140
                                                      by_cases hc146 : ((xs v3.toNatClampNeg) &&& (31 : Int32)) = (24 : Int32)
                                                      · have h := h.1 hc146
                                                        refine ct_tableIn (off := 644) C dL_law_32 676 (by rw [hc146]; decide) (by rw [hc146]; decide) (by rw [hc146]; decide) (by decide) ?_
                                                        refine ct_aload_n C dL_law_676 1 rfl rfl ?_
                                                        refine ct_aload_n C dL_law_677 0 rfl rfl ?_
                                                        refine ct_iload_n C dL_law_678 3 rfl rfl ?_
                                                        refine ct_iconst C dL_law_679 (1 : Int32) (by decide) ?_
                                                        refine ct_iadd C dL_law_680 ?_
                                                        refine lw_sld C hX hbl hso h.1 dL_law_681 ?_
                                                        have h := h.2
                                                        refine ct_callVi (As := [.int (xs (v3 + (1 : Int32)).toNatClampNeg)]) (T := TX11) C (c_X11_greatestOutcome l D cy o kv1 h) kl_L_113 kv1.1 (ct_E11 kv1) rfl rfl rfl (Nat.le_of_ble_eq_true rfl) ⟨rfl, rfl, Nat.le_of_ble_eq_true rfl, Nat.le_of_ble_eq_true rfl⟩ ⟨Nat.le_of_ble_eq_true rfl, Nat.le_of_ble_eq_true rfl⟩ dL_law_682 (fun r148 m147 h => ?_)
                                                        refine ct_aload_n C dL_law_685 2 rfl rfl ?_
                                                        refine ct_aload_n C dL_law_686 0 rfl rfl ?_
                                                        refine ct_iload_n C dL_law_687 3 rfl rfl ?_
                                                        refine ct_iconst C dL_law_688 (1 : Int32) (by decide) ?_
                                                        refine ct_iadd C dL_law_689 ?_
                                                        refine lw_sld C hX hbl hso h.1 dL_law_690 ?_
                                                        have h := h.2
                                                        refine ct_callVi (As := [.int (xs (v3 + (1 : Int32)).toNatClampNeg)]) (T := TX12) C (c_X12_greatestOutcome l D cy o kv2 h) kl_L_116 kv2.1 (ct_E12 kv2) rfl rfl rfl (Nat.le_of_ble_eq_true rfl) ⟨rfl, rfl, Nat.le_of_ble_eq_true rfl, Nat.le_of_ble_eq_true rfl⟩ ⟨Nat.le_of_ble_eq_true rfl, Nat.le_of_ble_eq_true rfl⟩ dL_law_691 (fun r150 m149 h => ?_)
                                                        refine ct_icmp_eq C dL_law_694 841 (by decide) (fun hc151 => ?_) (fun hc151 => ?_)
                                                        · have h := h.1 hc151
                                                          refine ct_sub [0, 1, 2, 3] [(0, .ref b), (1, .ref (o + v1)), (2, .ref (o + v2)), (3, .int v3)] rfl ?_
                                                          exact kb_L_law_841 C hr hlk hX hbl hso ih kv1 kv2 h
                                                        · have h := h.2 hc151
                                                          refine ct_iconst C dL_law_697 (0 : Int32) (by decide) ?_
                                                          exact h.elim
                                                      · have h := h.2 hc146
                                                        by_cases hc152 : ((xs v3.toNatClampNeg) &&& (31 : Int32)) = (25 : Int32)
                                                        · have h := h.1 hc152
                                                          refine ct_tableIn (off := 667) C dL_law_32 699 (by rw [hc152]; decide) (by rw [hc152]; decide) (by rw [hc152]; decide) (by decide) ?_
                                                          refine ct_aload_n C dL_law_699 1 rfl rfl ?_
                                                          refine ct_aload_n C dL_law_700 0 rfl rfl ?_
                                                          refine ct_iload_n C dL_law_701 3 rfl rfl ?_
                                                          refine ct_iconst C dL_law_702 (1 : Int32) (by decide) ?_
                                                          refine ct_iadd C dL_law_703 ?_
                                                          refine lw_sld C hX hbl hso h.1 dL_law_704 ?_
                                                          have h := h.2
                                                          refine ct_aload_n C dL_law_705 0 rfl rfl ?_
                                                          refine ct_iload_n C dL_law_706 3 rfl rfl ?_
                                                          refine ct_iconst C dL_law_707 (2 : Int32) (by decide) ?_
                                                          refine ct_iadd C dL_law_708 ?_
                                                          refine lw_sld C hX hbl hso h.1 dL_law_709 ?_
                                                          have h := h.2
                                                          refine ct_i2l C dL_law_710 ?_
                                                          refine ct_bipush C dL_law_711 (32 : Int32) (by decide) ?_
                                                          refine ct_lshl C dL_law_713 ?_
                                                          refine ct_aload_n C dL_law_714 0 rfl rfl ?_
                                                          refine ct_iload_n C dL_law_715 3 rfl rfl ?_
                                                          refine ct_iconst C dL_law_716 (3 : Int32) (by decide) ?_
                                                          refine ct_iadd C dL_law_717 ?_
                                                          refine lw_sld C hX hbl hso h.1 dL_law_718 ?_
                                                          have h := h.2
                                                          refine ct_i2l C dL_law_719 ?_
                                                          refine ct_ldc2 C dL_law_720 mx_202 ?_
                                                          refine ct_land C dL_law_723 ?_
                                                          refine ct_lor C dL_law_724 ?_
                                                          refine ct_callVi (As := [.int (xs (v3 + (1 : Int32)).toNatClampNeg), .long (((xs (v3 + (2 : Int32)).toNatClampNeg).toInt64 <<< ((32 : Int32).toInt64 &&& 63)) ||| ((xs (v3 + (3 : Int32)).toNatClampNeg).toInt64 &&& (4294967295 : Int64)))]) (T := TX11) C (c_X11_runScript l D cy o kv1 h) kl_L_119 kv1.1 (ct_E11 kv1) rfl rfl rfl (Nat.le_of_ble_eq_true rfl) ⟨rfl, rfl, Nat.le_of_ble_eq_true rfl, Nat.le_of_ble_eq_true rfl⟩ ⟨Nat.le_of_ble_eq_true rfl, Nat.le_of_ble_eq_true rfl⟩ dL_law_725 (fun r154 m153 h => ?_)
                                                          refine ct_aload_n C dL_law_728 2 rfl rfl ?_
                                                          refine ct_aload_n C dL_law_729 0 rfl rfl ?_
                                                          refine ct_iload_n C dL_law_730 3 rfl rfl ?_
                                                          refine ct_iconst C dL_law_731 (1 : Int32) (by decide) ?_
                                                          refine ct_iadd C dL_law_732 ?_
                                                          refine lw_sld C hX hbl hso h.1 dL_law_733 ?_
                                                          have h := h.2
                                                          refine ct_aload_n C dL_law_734 0 rfl rfl ?_
                                                          refine ct_iload_n C dL_law_735 3 rfl rfl ?_
                                                          refine ct_iconst C dL_law_736 (2 : Int32) (by decide) ?_
                                                          refine ct_iadd C dL_law_737 ?_
                                                          refine lw_sld C hX hbl hso h.1 dL_law_738 ?_
                                                          have h := h.2
                                                          refine ct_i2l C dL_law_739 ?_
                                                          refine ct_bipush C dL_law_740 (32 : Int32) (by decide) ?_
                                                          refine ct_lshl C dL_law_742 ?_
                                                          refine ct_aload_n C dL_law_743 0 rfl rfl ?_
                                                          refine ct_iload_n C dL_law_744 3 rfl rfl ?_
                                                          refine ct_iconst C dL_law_745 (3 : Int32) (by decide) ?_
                                                          refine ct_iadd C dL_law_746 ?_
                                                          refine lw_sld C hX hbl hso h.1 dL_law_747 ?_
                                                          have h := h.2
                                                          refine ct_i2l C dL_law_748 ?_
                                                          refine ct_ldc2 C dL_law_749 mx_202 ?_
                                                          refine ct_land C dL_law_752 ?_
                                                          refine ct_lor C dL_law_753 ?_
                                                          refine ct_callVi (As := [.int (xs (v3 + (1 : Int32)).toNatClampNeg), .long (((xs (v3 + (2 : Int32)).toNatClampNeg).toInt64 <<< ((32 : Int32).toInt64 &&& 63)) ||| ((xs (v3 + (3 : Int32)).toNatClampNeg).toInt64 &&& (4294967295 : Int64)))]) (T := TX12) C (c_X12_runScript l D cy o kv2 h) kl_L_123 kv2.1 (ct_E12 kv2) rfl rfl rfl (Nat.le_of_ble_eq_true rfl) ⟨rfl, rfl, Nat.le_of_ble_eq_true rfl, Nat.le_of_ble_eq_true rfl⟩ ⟨Nat.le_of_ble_eq_true rfl, Nat.le_of_ble_eq_true rfl⟩ dL_law_754 (fun r156 m155 h => ?_)
                                                          refine ct_icmp_eq C dL_law_757 841 (by decide) (fun hc157 => ?_) (fun hc157 => ?_)
                                                          · have h := h.1 hc157
                                                            refine ct_sub [0, 1, 2, 3] [(0, .ref b), (1, .ref (o + v1)), (2, .ref (o + v2)), (3, .int v3)] rfl ?_
                                                            exact kb_L_law_841 C hr hlk hX hbl hso ih kv1 kv2 h
                                                          · have h := h.2 hc157
                                                            refine ct_iconst C dL_law_760 (0 : Int32) (by decide) ?_
                                                            exact h.elim
                                                        · have h := h.2 hc152
                                                          by_cases hc158 : ((xs v3.toNatClampNeg) &&& (31 : Int32)) = (26 : Int32)
                                                          · have h := h.1 hc158
                                                            refine ct_tableIn (off := 730) C dL_law_32 762 (by rw [hc158]; decide) (by rw [hc158]; decide) (by rw [hc158]; decide) (by decide) ?_
                                                            refine ct_aload_n C dL_law_762 1 rfl rfl ?_
                                                            refine ct_aload_n C dL_law_763 0 rfl rfl ?_
                                                            refine ct_iload_n C dL_law_764 3 rfl rfl ?_
                                                            refine ct_iconst C dL_law_765 (1 : Int32) (by decide) ?_
                                                            refine ct_iadd C dL_law_766 ?_
                                                            refine lw_sld C hX hbl hso h.1 dL_law_767 ?_
                                                            have h := h.2
                                                            refine ct_aload_n C dL_law_768 0 rfl rfl ?_
                                                            refine ct_iload_n C dL_law_769 3 rfl rfl ?_
                                                            refine ct_iconst C dL_law_770 (2 : Int32) (by decide) ?_
                                                            refine ct_iadd C dL_law_771 ?_
                                                            refine lw_sld C hX hbl hso h.1 dL_law_772 ?_
                                                            have h := h.2
                                                            refine ct_callVi (As := [.int (xs (v3 + (1 : Int32)).toNatClampNeg), .int (xs (v3 + (2 : Int32)).toNatClampNeg)]) (T := TX11) C (c_X11_observe l D cy o kv1 h) kl_L_124 kv1.1 (ct_E11 kv1) rfl rfl rfl (Nat.le_of_ble_eq_true rfl) ⟨rfl, rfl, Nat.le_of_ble_eq_true rfl, Nat.le_of_ble_eq_true rfl⟩ ⟨Nat.le_of_ble_eq_true rfl, Nat.le_of_ble_eq_true rfl⟩ dL_law_773 (fun r160 m159 h => ?_)
                                                            refine ct_aload_n C dL_law_776 2 rfl rfl ?_
                                                            refine ct_aload_n C dL_law_777 0 rfl rfl ?_
                                                            refine ct_iload_n C dL_law_778 3 rfl rfl ?_
                                                            refine ct_iconst C dL_law_779 (1 : Int32) (by decide) ?_
                                                            refine ct_iadd C dL_law_780 ?_
                                                            refine lw_sld C hX hbl hso h.1 dL_law_781 ?_
                                                            have h := h.2
                                                            refine ct_aload_n C dL_law_782 0 rfl rfl ?_
                                                            refine ct_iload_n C dL_law_783 3 rfl rfl ?_
                                                            refine ct_iconst C dL_law_784 (2 : Int32) (by decide) ?_
                                                            refine ct_iadd C dL_law_785 ?_
                                                            refine lw_sld C hX hbl hso h.1 dL_law_786 ?_
                                                            have h := h.2
                                                            refine ct_callVi (As := [.int (xs (v3 + (1 : Int32)).toNatClampNeg), .int (xs (v3 + (2 : Int32)).toNatClampNeg)]) (T := TX12) C (c_X12_observe l D cy o kv2 h) kl_L_127 kv2.1 (ct_E12 kv2) rfl rfl rfl (Nat.le_of_ble_eq_true rfl) ⟨rfl, rfl, Nat.le_of_ble_eq_true rfl, Nat.le_of_ble_eq_true rfl⟩ ⟨Nat.le_of_ble_eq_true rfl, Nat.le_of_ble_eq_true rfl⟩ dL_law_787 (fun r162 m161 h => ?_)
                                                            refine ct_icmp_eq C dL_law_790 841 (by decide) (fun hc163 => ?_) (fun hc163 => ?_)
                                                            · have h := h.1 hc163
                                                              refine ct_sub [0, 1, 2, 3] [(0, .ref b), (1, .ref (o + v1)), (2, .ref (o + v2)), (3, .int v3)] rfl ?_
                                                              exact kb_L_law_841 C hr hlk hX hbl hso ih kv1 kv2 h
                                                            · have h := h.2 hc163
                                                              refine ct_iconst C dL_law_793 (0 : Int32) (by decide) ?_
                                                              exact h.elim
                                                          · have h := h.2 hc158
                                                            by_cases hc164 : ((xs v3.toNatClampNeg) &&& (31 : Int32)) = (27 : Int32)
                                                            · have h := h.1 hc164
                                                              refine ct_tableIn (off := 763) C dL_law_32 795 (by rw [hc164]; decide) (by rw [hc164]; decide) (by rw [hc164]; decide) (by decide) ?_
                                                              refine ct_aload_n C dL_law_795 1 rfl rfl ?_
                                                              refine ct_aload_n C dL_law_796 0 rfl rfl ?_
                                                              refine ct_iload_n C dL_law_797 3 rfl rfl ?_
                                                              refine ct_iconst C dL_law_798 (1 : Int32) (by decide) ?_
                                                              refine ct_iadd C dL_law_799 ?_
                                                              refine lw_sld C hX hbl hso h.1 dL_law_800 ?_
                                                              have h := h.2
                                                              refine ct_callVi (As := [.int (xs (v3 + (1 : Int32)).toNatClampNeg)]) (T := TX11) C (c_X11_save l D cy o kv1 h) kl_L_128 kv1.1 (ct_E11 kv1) rfl rfl rfl (Nat.le_of_ble_eq_true rfl) ⟨rfl, rfl, Nat.le_of_ble_eq_true rfl, Nat.le_of_ble_eq_true rfl⟩ ⟨Nat.le_of_ble_eq_true rfl, Nat.le_of_ble_eq_true rfl⟩ dL_law_801 (fun r166 m165 h => ?_)
                                                              refine ct_aload_n C dL_law_804 2 rfl rfl ?_
                                                              refine ct_aload_n C dL_law_805 0 rfl rfl ?_
                                                              refine ct_iload_n C dL_law_806 3 rfl rfl ?_
                                                              refine ct_iconst C dL_law_807 (1 : Int32) (by decide) ?_
                                                              refine ct_iadd C dL_law_808 ?_
                                                              refine lw_sld C hX hbl hso h.1 dL_law_809 ?_
                                                              have h := h.2
                                                              refine ct_callVi (As := [.int (xs (v3 + (1 : Int32)).toNatClampNeg)]) (T := TX12) C (c_X12_save l D cy o kv2 h) kl_L_131 kv2.1 (ct_E12 kv2) rfl rfl rfl (Nat.le_of_ble_eq_true rfl) ⟨rfl, rfl, Nat.le_of_ble_eq_true rfl, Nat.le_of_ble_eq_true rfl⟩ ⟨Nat.le_of_ble_eq_true rfl, Nat.le_of_ble_eq_true rfl⟩ dL_law_810 (fun r168 m167 h => ?_)
                                                              refine ct_icmp_eq C dL_law_813 841 (by decide) (fun hc169 => ?_) (fun hc169 => ?_)
                                                              · have h := h.1 hc169
                                                                refine ct_sub [0, 1, 2, 3] [(0, .ref b), (1, .ref (o + v1)), (2, .ref (o + v2)), (3, .int v3)] rfl ?_
                                                                exact kb_L_law_841 C hr hlk hX hbl hso ih kv1 kv2 h
                                                              · have h := h.2 hc169
                                                                refine ct_iconst C dL_law_816 (0 : Int32) (by decide) ?_
                                                                exact h.elim
                                                            · have h := h.2 hc164
                                                              by_cases hc170 : ((xs v3.toNatClampNeg) &&& (31 : Int32)) = (28 : Int32)
                                                              · have h := h.1 hc170
                                                                refine ct_tableIn (off := 786) C dL_law_32 818 (by rw [hc170]; decide) (by rw [hc170]; decide) (by rw [hc170]; decide) (by decide) ?_
                                                                refine ct_aload_n C dL_law_818 1 rfl rfl ?_
                                                                refine ct_aload_n C dL_law_819 0 rfl rfl ?_
                                                                refine ct_iload_n C dL_law_820 3 rfl rfl ?_
                                                                refine ct_iconst C dL_law_821 (1 : Int32) (by decide) ?_
                                                                refine ct_iadd C dL_law_822 ?_
                                                                refine lw_sld C hX hbl hso h.1 dL_law_823 ?_
                                                                have h := h.2
                                                                refine ct_callVi (As := [.int (xs (v3 + (1 : Int32)).toNatClampNeg)]) (T := TX11) C (c_X11_restore l D cy o kv1 h) kl_L_132 kv1.1 (ct_E11 kv1) rfl rfl rfl (Nat.le_of_ble_eq_true rfl) ⟨rfl, rfl, Nat.le_of_ble_eq_true rfl, Nat.le_of_ble_eq_true rfl⟩ ⟨Nat.le_of_ble_eq_true rfl, Nat.le_of_ble_eq_true rfl⟩ dL_law_824 (fun r172 m171 h => ?_)
                                                                refine ct_aload_n C dL_law_827 2 rfl rfl ?_
                                                                refine ct_aload_n C dL_law_828 0 rfl rfl ?_
                                                                refine ct_iload_n C dL_law_829 3 rfl rfl ?_
                                                                refine ct_iconst C dL_law_830 (1 : Int32) (by decide) ?_
                                                                refine ct_iadd C dL_law_831 ?_
                                                                refine lw_sld C hX hbl hso h.1 dL_law_832 ?_
                                                                have h := h.2
                                                                refine ct_callVi (As := [.int (xs (v3 + (1 : Int32)).toNatClampNeg)]) (T := TX12) C (c_X12_restore l D cy o kv2 h) kl_L_135 kv2.1 (ct_E12 kv2) rfl rfl rfl (Nat.le_of_ble_eq_true rfl) ⟨rfl, rfl, Nat.le_of_ble_eq_true rfl, Nat.le_of_ble_eq_true rfl⟩ ⟨Nat.le_of_ble_eq_true rfl, Nat.le_of_ble_eq_true rfl⟩ dL_law_833 (fun r174 m173 h => ?_)
                                                                refine ct_icmp_eq C dL_law_836 841 (by decide) (fun hc175 => ?_) (fun hc175 => ?_)
                                                                · have h := h.1 hc175
                                                                  refine ct_sub [0, 1, 2, 3] [(0, .ref b), (1, .ref (o + v1)), (2, .ref (o + v2)), (3, .int v3)] rfl ?_
                                                                  exact kb_L_law_841 C hr hlk hX hbl hso ih kv1 kv2 h
                                                                · have h := h.2 hc175
                                                                  refine ct_iconst C dL_law_839 (0 : Int32) (by decide) ?_
                                                                  exact h.elim
                                                              · have h := h.2 hc170
                                                                have thc2 := lv_neT hc2 (a := 0) (by decide)
                                                                have thc8 := lv_neT hc8 (a := 1) (by decide)
                                                                have thc14 := lv_neT hc14 (a := 2) (by decide)
                                                                have thc20 := lv_neT hc20 (a := 3) (by decide)
                                                                have thc26 := lv_neT hc26 (a := 4) (by decide)
                                                                have thc32 := lv_neT hc32 (a := 5) (by decide)
                                                                have thc38 := lv_neT hc38 (a := 6) (by decide)
                                                                have thc44 := lv_neT hc44 (a := 7) (by decide)
                                                                have thc50 := lv_neT hc50 (a := 8) (by decide)
                                                                have thc56 := lv_neT hc56 (a := 9) (by decide)
                                                                have thc62 := lv_neT hc62 (a := 10) (by decide)
                                                                have thc68 := lv_neT hc68 (a := 11) (by decide)
                                                                have thc74 := lv_neT hc74 (a := 12) (by decide)
                                                                have thc80 := lv_neT hc80 (a := 13) (by decide)
                                                                have thc86 := lv_neT hc86 (a := 14) (by decide)
                                                                have thc92 := lv_neT hc92 (a := 15) (by decide)
                                                                have thc98 := lv_neT hc98 (a := 16) (by decide)
                                                                have thc104 := lv_neT hc104 (a := 17) (by decide)
                                                                have thc110 := lv_neT hc110 (a := 18) (by decide)
                                                                have thc116 := lv_neT hc116 (a := 19) (by decide)
                                                                have thc122 := lv_neT hc122 (a := 20) (by decide)
                                                                have thc128 := lv_neT hc128 (a := 21) (by decide)
                                                                have thc134 := lv_neT hc134 (a := 22) (by decide)
                                                                have thc140 := lv_neT hc140 (a := 23) (by decide)
                                                                have thc146 := lv_neT hc146 (a := 24) (by decide)
                                                                have thc152 := lv_neT hc152 (a := 25) (by decide)
                                                                have thc158 := lv_neT hc158 (a := 26) (by decide)
                                                                have thc164 := lv_neT hc164 (a := 27) (by decide)
                                                                have thc170 := lv_neT hc170 (a := 28) (by decide)
                                                                refine ct_tableOut C dL_law_32 841 (by omega) (by decide) ?_
                                                                refine ct_sub [0, 1, 2, 3] [(0, .ref b), (1, .ref (o + v1)), (2, .ref (o + v2)), (3, .int v3)] rfl ?_
                                                                exact kb_L_law_841 C hr hlk hX hbl hso ih kv1 kv2 h

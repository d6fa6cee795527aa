theorem cl_RL_13 {R : Room} {s : State} {args : Array Value} (ht : ∀ w ∈ lw_all, w.before args s = true) (hR : 2 + 1 ≤ R.frames ∧ 8 + (2 + 11) + 43 ≤ R.locals) : CallW R s args RL RX8 13 yX8_letter cX8_letter 2 (some .int) (wsq yX8_letter cX8_letter 2 (some .int)) (rmq 2 43) 0 0 1 := cwV 1 ht (goodV wd2_125 wd2_126 wd2_127 wd1_1 wd2_128) rfl rfl rfl (by decide +kernel) hR
theorem cl_RL_17 {R : Room} {s : State} {args : Array Value} (ht : ∀ w ∈ lw_all, w.before args s = true) (hR : 1 + 1 ≤ R.frames ∧ 8 + (3 + 11) + 22 ≤ R.locals) : CallW R s args RL RX9 17 yX9_letter cX9_letter 3 (some .int) (wsq yX9_letter cX9_letter 3 (some .int)) (rmq 1 22) 0 0 1 := cwV 1 ht (goodV wd6_2 wd6_3 wd6_4 wd1_10 wd6_5) rfl rfl rfl (by decide +kernel) hR
theorem cl_RL_18 {R : Room} {s : State} {args : Array Value} (ht : ∀ w ∈ lw_all, w.before args s = true) (hR : 6 + 1 ≤ R.frames ∧ 8 + (3 + 11) + 142 ≤ R.locals) : CallW R s args RL RX8 18 yX8_sheet cX8_sheet 3 (some .int) (wsq yX8_sheet cX8_sheet 3 (some .int)) (rmq 6 142) 0 0 0 := cwV 0 ht (goodV wd2_148 wd2_149 wd2_150 wd1_1 wd2_151) rfl rfl rfl (by decide +kernel) hR
theorem cl_RL_22 {R : Room} {s : State} {args : Array Value} (ht : ∀ w ∈ lw_all, w.before args s = true) (hR : 4 + 1 ≤ R.frames ∧ 8 + (3 + 11) + 95 ≤ R.locals) : CallW R s args RL RX9 22 yX9_sheet cX9_sheet 3 (some .int) (wsq yX9_sheet cX9_sheet 3 (some .int)) (rmq 4 95) 0 0 0 := cwV 0 ht (goodV wd6_13 wd6_14 wd6_15 wd1_10 wd6_16) rfl rfl rfl (by decide +kernel) hR
theorem cl_RL_23 {R : Room} {s : State} {args : Array Value} (ht : ∀ w ∈ lw_all, w.before args s = true) (hR : 5 + 1 ≤ R.frames ∧ 8 + (5 + 11) + 106 ≤ R.locals) : CallW R s args RL RX8 23 yX8_widens cX8_widens 5 (some .int) (wsq yX8_widens cX8_widens 5 (some .int)) (rmq 5 106) 0 0 2 := cwV 2 ht (goodV wd3_71 wd3_72 wd3_73 wd1_1 wd3_74) rfl rfl rfl (by decide +kernel) hR
theorem cl_RL_27 {R : Room} {s : State} {args : Array Value} (ht : ∀ w ∈ lw_all, w.before args s = true) (hR : 3 + 1 ≤ R.frames ∧ 8 + (5 + 11) + 64 ≤ R.locals) : CallW R s args RL RX9 27 yX9_widens cX9_widens 5 (some .int) (wsq yX9_widens cX9_widens 5 (some .int)) (rmq 3 64) 0 0 2 := cwV 2 ht (goodV wd6_104 wd6_105 wd6_106 wd1_10 wd6_107) rfl rfl rfl (by decide +kernel) hR
theorem cl_RL_28 {R : Room} {s : State} {args : Array Value} (ht : ∀ w ∈ lw_all, w.before args s = true) (hR : 5 + 1 ≤ R.frames ∧ 8 + (5 + 11) + 106 ≤ R.locals) : CallW R s args RL RX8 28 yX8_adds cX8_adds 5 (some .int) (wsq yX8_adds cX8_adds 5 (some .int)) (rmq 5 106) 0 0 3 := cwV 3 ht (goodV wd3_89 wd3_90 wd3_91 wd1_1 wd3_92) rfl rfl rfl (by decide +kernel) hR
theorem cl_RL_32 {R : Room} {s : State} {args : Array Value} (ht : ∀ w ∈ lw_all, w.before args s = true) (hR : 3 + 1 ≤ R.frames ∧ 8 + (6 + 11) + 64 ≤ R.locals) : CallW R s args RL RX9 32 yX9_adds cX9_adds 6 (some .int) (wsq yX9_adds cX9_adds 6 (some .int)) (rmq 3 64) 0 0 3 := cwV 3 ht (goodV wd6_115 wd6_116 wd6_117 wd1_10 wd6_118) rfl rfl rfl (by decide +kernel) hR
theorem cl_RL_33 {R : Room} {s : State} {args : Array Value} (ht : ∀ w ∈ lw_all, w.before args s = true) (hR : 5 + 1 ≤ R.frames ∧ 8 + (2 + 11) + 106 ≤ R.locals) : CallW R s args RL RX8 33 yX8_forces cX8_forces 2 (some .int) (wsq yX8_forces cX8_forces 2 (some .int)) (rmq 5 106) 0 0 1 := cwV 1 ht (goodV wd3_102 wd3_103 wd3_104 wd1_1 wd3_105) rfl rfl rfl (by decide +kernel) hR
theorem cl_RL_36 {R : Room} {s : State} {args : Array Value} (ht : ∀ w ∈ lw_all, w.before args s = true) (hR : 3 + 1 ≤ R.frames ∧ 8 + (2 + 11) + 64 ≤ R.locals) : CallW R s args RL RX9 36 yX9_forces cX9_forces 2 (some .int) (wsq yX9_forces cX9_forces 2 (some .int)) (rmq 3 64) 0 0 1 := cwV 1 ht (goodV wd6_122 wd6_123 wd6_124 wd1_10 wd6_125) rfl rfl rfl (by decide +kernel) hR
theorem cl_RL_37 {R : Room} {s : State} {args : Array Value} (ht : ∀ w ∈ lw_all, w.before args s = true) (hR : 5 + 1 ≤ R.frames ∧ 8 + (2 + 11) + 106 ≤ R.locals) : CallW R s args RL RX8 37 yX8_drops cX8_drops 2 (some .int) (wsq yX8_drops cX8_drops 2 (some .int)) (rmq 5 106) 0 0 1 := cwV 1 ht (goodV wd3_111 wd3_112 wd3_113 wd1_1 wd3_114) rfl rfl rfl (by decide +kernel) hR
theorem cl_RL_40 {R : Room} {s : State} {args : Array Value} (ht : ∀ w ∈ lw_all, w.before args s = true) (hR : 3 + 1 ≤ R.frames ∧ 8 + (2 + 11) + 64 ≤ R.locals) : CallW R s args RL RX9 40 yX9_drops cX9_drops 2 (some .int) (wsq yX9_drops cX9_drops 2 (some .int)) (rmq 3 64) 0 0 1 := cwV 1 ht (goodV wd6_130 wd6_131 wd6_132 wd1_10 wd6_133) rfl rfl rfl (by decide +kernel) hR
theorem cl_RL_41 {R : Room} {s : State} {args : Array Value} (ht : ∀ w ∈ lw_all, w.before args s = true) (hR : 5 + 1 ≤ R.frames ∧ 8 + (9 + 11) + 106 ≤ R.locals) : CallW R s args RL RX8 41 yX8_patterns cX8_patterns 9 (some .int) (wsq yX8_patterns cX8_patterns 9 (some .int)) (rmq 5 106) 0 0 4 := cwV 4 ht (goodV wd3_123 wd3_124 wd3_125 wd1_1 wd3_126) rfl rfl rfl (by decide +kernel) hR
theorem cl_RL_45 {R : Room} {s : State} {args : Array Value} (ht : ∀ w ∈ lw_all, w.before args s = true) (hR : 3 + 1 ≤ R.frames ∧ 8 + (8 + 11) + 64 ≤ R.locals) : CallW R s args RL RX9 45 yX9_patterns cX9_patterns 8 (some .int) (wsq yX9_patterns cX9_patterns 8 (some .int)) (rmq 3 64) 0 0 4 := cwV 4 ht (goodV wd6_138 wd6_139 wd6_140 wd1_10 wd6_141) rfl rfl rfl (by decide +kernel) hR
theorem cl_RL_46 {R : Room} {s : State} {args : Array Value} (ht : ∀ w ∈ lw_all, w.before args s = true) (hR : 5 + 1 ≤ R.frames ∧ 8 + (4 + 11) + 106 ≤ R.locals) : CallW R s args RL RX8 46 yX8_line cX8_line 4 (some .int) (wsq yX8_line cX8_line 4 (some .int)) (rmq 5 106) 0 0 1 := cwV 1 ht (goodV wd3_129 wd3_130 wd3_131 wd1_1 wd3_132) rfl rfl rfl (by decide +kernel) hR
theorem cl_RL_49 {R : Room} {s : State} {args : Array Value} (ht : ∀ w ∈ lw_all, w.before args s = true) (hR : 3 + 1 ≤ R.frames ∧ 8 + (4 + 11) + 64 ≤ R.locals) : CallW R s args RL RX9 49 yX9_line cX9_line 4 (some .int) (wsq yX9_line cX9_line 4 (some .int)) (rmq 3 64) 0 0 1 := cwV 1 ht (goodV wd6_142 wd6_143 wd6_144 wd1_10 wd6_145) rfl rfl rfl (by decide +kernel) hR
theorem cl_RL_50 {R : Room} {s : State} {args : Array Value} (ht : ∀ w ∈ lw_all, w.before args s = true) (hR : 5 + 1 ≤ R.frames ∧ 8 + (6 + 11) + 106 ≤ R.locals) : CallW R s args RL RX8 50 yX8_glue cX8_glue 6 (some .int) (wsq yX8_glue cX8_glue 6 (some .int)) (rmq 5 106) 0 0 3 := cwV 3 ht (goodV wd3_133 wd3_134 wd3_135 wd1_1 wd3_136) rfl rfl rfl (by decide +kernel) hR
theorem cl_RL_53 {R : Room} {s : State} {args : Array Value} (ht : ∀ w ∈ lw_all, w.before args s = true) (hR : 3 + 1 ≤ R.frames ∧ 8 + (6 + 11) + 64 ≤ R.locals) : CallW R s args RL RX9 53 yX9_glue cX9_glue 6 (some .int) (wsq yX9_glue cX9_glue 6 (some .int)) (rmq 3 64) 0 0 3 := cwV 3 ht (goodV wd6_146 wd6_147 wd6_148 wd1_10 wd6_149) rfl rfl rfl (by decide +kernel) hR
theorem cl_RL_54 {R : Room} {s : State} {args : Array Value} (ht : ∀ w ∈ lw_all, w.before args s = true) (hR : 5 + 1 ≤ R.frames ∧ 8 + (4 + 11) + 106 ≤ R.locals) : CallW R s args RL RX8 54 yX8_tolerance cX8_tolerance 4 (some .int) (wsq yX8_tolerance cX8_tolerance 4 (some .int)) (rmq 5 106) 0 0 1 := cwV 1 ht (goodV wd3_139 wd3_140 wd3_141 wd1_1 wd3_142) rfl rfl rfl (by decide +kernel) hR
theorem cl_RL_57 {R : Room} {s : State} {args : Array Value} (ht : ∀ w ∈ lw_all, w.before args s = true) (hR : 3 + 1 ≤ R.frames ∧ 8 + (4 + 11) + 64 ≤ R.locals) : CallW R s args RL RX9 57 yX9_tolerance cX9_tolerance 4 (some .int) (wsq yX9_tolerance cX9_tolerance 4 (some .int)) (rmq 3 64) 0 0 1 := cwV 1 ht (goodV wd6_150 wd6_151 wd6_152 wd1_10 wd6_153) rfl rfl rfl (by decide +kernel) hR
theorem cl_RL_58 {R : Room} {s : State} {args : Array Value} (ht : ∀ w ∈ lw_all, w.before args s = true) (hR : 5 + 1 ≤ R.frames ∧ 8 + (4 + 11) + 106 ≤ R.locals) : CallW R s args RL RX8 58 yX8_hyphen cX8_hyphen 4 (some .int) (wsq yX8_hyphen cX8_hyphen 4 (some .int)) (rmq 5 106) 0 0 1 := cwV 1 ht (goodV wd3_143 wd3_144 wd3_145 wd1_1 wd3_146) rfl rfl rfl (by decide +kernel) hR
theorem cl_RL_61 {R : Room} {s : State} {args : Array Value} (ht : ∀ w ∈ lw_all, w.before args s = true) (hR : 3 + 1 ≤ R.frames ∧ 8 + (4 + 11) + 64 ≤ R.locals) : CallW R s args RL RX9 61 yX9_hyphen cX9_hyphen 4 (some .int) (wsq yX9_hyphen cX9_hyphen 4 (some .int)) (rmq 3 64) 0 0 1 := cwV 1 ht (goodV wd6_154 wd6_155 wd6_156 wd1_10 wd6_157) rfl rfl rfl (by decide +kernel) hR
theorem cl_RL_62 {R : Room} {s : State} {args : Array Value} (ht : ∀ w ∈ lw_all, w.before args s = true) (hR : 5 + 1 ≤ R.frames ∧ 8 + (4 + 11) + 106 ≤ R.locals) : CallW R s args RL RX8 62 yX8_widow cX8_widow 4 (some .int) (wsq yX8_widow cX8_widow 4 (some .int)) (rmq 5 106) 0 0 1 := cwV 1 ht (goodV wd3_147 wd3_148 wd3_149 wd1_1 wd3_150) rfl rfl rfl (by decide +kernel) hR
theorem cl_RL_65 {R : Room} {s : State} {args : Array Value} (ht : ∀ w ∈ lw_all, w.before args s = true) (hR : 3 + 1 ≤ R.frames ∧ 8 + (4 + 11) + 64 ≤ R.locals) : CallW R s args RL RX9 65 yX9_widow cX9_widow 4 (some .int) (wsq yX9_widow cX9_widow 4 (some .int)) (rmq 3 64) 0 0 1 := cwV 1 ht (goodV wd6_158 wd6_159 wd6_160 wd1_10 wd6_161) rfl rfl rfl (by decide +kernel) hR
theorem cl_RL_66 {R : Room} {s : State} {args : Array Value} (ht : ∀ w ∈ lw_all, w.before args s = true) (hR : 5 + 1 ≤ R.frames ∧ 8 + (3 + 11) + 106 ≤ R.locals) : CallW R s args RL RX8 66 yX8_manner cX8_manner 3 (some .int) (wsq yX8_manner cX8_manner 3 (some .int)) (rmq 5 106) 0 0 1 := cwV 1 ht (goodV wd3_151 wd3_152 wd3_153 wd1_1 wd3_154) rfl rfl rfl (by decide +kernel) hR
theorem cl_RL_69 {R : Room} {s : State} {args : Array Value} (ht : ∀ w ∈ lw_all, w.before args s = true) (hR : 3 + 1 ≤ R.frames ∧ 8 + (3 + 11) + 64 ≤ R.locals) : CallW R s args RL RX9 69 yX9_manner cX9_manner 3 (some .int) (wsq yX9_manner cX9_manner 3 (some .int)) (rmq 3 64) 0 0 1 := cwV 1 ht (goodV wd6_162 wd6_163 wd6_164 wd1_10 wd6_165) rfl rfl rfl (by decide +kernel) hR
theorem cl_RL_70 {R : Room} {s : State} {args : Array Value} (ht : ∀ w ∈ lw_all, w.before args s = true) (hR : 5 + 1 ≤ R.frames ∧ 8 + (5 + 11) + 106 ≤ R.locals) : CallW R s args RL RX8 70 yX8_kind cX8_kind 5 (some .int) (wsq yX8_kind cX8_kind 5 (some .int)) (rmq 5 106) 0 0 2 := cwV 2 ht (goodV wd3_156 wd3_157 wd3_158 wd1_1 wd3_159) rfl rfl rfl (by decide +kernel) hR
theorem cl_RL_73 {R : Room} {s : State} {args : Array Value} (ht : ∀ w ∈ lw_all, w.before args s = true) (hR : 3 + 1 ≤ R.frames ∧ 8 + (5 + 11) + 64 ≤ R.locals) : CallW R s args RL RX9 73 yX9_kind cX9_kind 5 (some .int) (wsq yX9_kind cX9_kind 5 (some .int)) (rmq 3 64) 0 0 2 := cwV 2 ht (goodV wd6_166 wd6_167 wd6_168 wd1_10 wd6_169) rfl rfl rfl (by decide +kernel) hR
theorem cl_RL_74 {R : Room} {s : State} {args : Array Value} (ht : ∀ w ∈ lw_all, w.before args s = true) (hR : 5 + 1 ≤ R.frames ∧ 8 + (1 + 11) + 106 ≤ R.locals) : CallW R s args RL RX8 74 yX8_back cX8_back 1 (some .int) (wsq yX8_back cX8_back 1 (some .int)) (rmq 5 106) 0 0 0 := cwV 0 ht (goodV wd3_160 wd3_161 wd3_162 wd1_1 wd3_163) rfl rfl rfl (by decide +kernel) hR
theorem cl_RL_77 {R : Room} {s : State} {args : Array Value} (ht : ∀ w ∈ lw_all, w.before args s = true) (hR : 2 + 1 ≤ R.frames ∧ 8 + (1 + 11) + 44 ≤ R.locals) : CallW R s args RL RX9 77 yX9_back cX9_back 1 (some .int) (wsq yX9_back cX9_back 1 (some .int)) (rmq 2 44) 0 0 0 := cwV 0 ht (goodV wd6_92 wd6_93 wd6_94 wd1_10 wd6_95) rfl rfl rfl (by decide +kernel) hR
theorem cl_RL_78 {R : Room} {s : State} {args : Array Value} (ht : ∀ w ∈ lw_all, w.before args s = true) (hR : 3 + 1 ≤ R.frames ∧ 8 + (3 + 11) + 75 ≤ R.locals) : CallW R s args RL RX8 78 yX8_word cX8_word 3 (some .int) (wsq yX8_word cX8_word 3 (some .int)) (rmq 3 75) 0 0 2 := cwV 2 ht (goodV wd3_168 wd3_169 wd3_170 wd1_1 wd3_171) rfl rfl rfl (by decide +kernel) hR
theorem cl_RL_81 {R : Room} {s : State} {args : Array Value} (ht : ∀ w ∈ lw_all, w.before args s = true) (hR : 4 + 1 ≤ R.frames ∧ 8 + (3 + 11) + 95 ≤ R.locals) : CallW R s args RL RX9 81 yX9_word cX9_word 3 (some .int) (wsq yX9_word cX9_word 3 (some .int)) (rmq 4 95) 0 0 2 := cwV 2 ht (goodV wd6_170 wd6_171 wd6_172 wd1_10 wd6_173) rfl rfl rfl (by decide +kernel) hR
theorem cl_RL_82 {R : Room} {s : State} {args : Array Value} (ht : ∀ w ∈ lw_all, w.before args s = true) (hR : 2 + 1 ≤ R.frames ∧ 8 + (3 + 11) + 43 ≤ R.locals) : CallW R s args RL RX8 82 yX8_spelt cX8_spelt 3 (some .int) (wsq yX8_spelt cX8_spelt 3 (some .int)) (rmq 2 43) 0 0 2 := cwV 2 ht (goodV wd3_209 wd3_210 wd3_211 wd1_1 wd3_212) rfl rfl rfl (by decide +kernel) hR
theorem cl_RL_85 {R : Room} {s : State} {args : Array Value} (ht : ∀ w ∈ lw_all, w.before args s = true) (hR : 2 + 1 ≤ R.frames ∧ 8 + (3 + 11) + 43 ≤ R.locals) : CallW R s args RL RX9 85 yX9_spelt cX9_spelt 3 (some .int) (wsq yX9_spelt cX9_spelt 3 (some .int)) (rmq 2 43) 0 0 2 := cwV 2 ht (goodV wd6_197 wd6_198 wd6_199 wd1_10 wd6_200) rfl rfl rfl (by decide +kernel) hR
theorem cl_RL_86 {R : Room} {s : State} {args : Array Value} (ht : ∀ w ∈ lw_all, w.before args s = true) (hR : 2 + 1 ≤ R.frames ∧ 8 + (3 + 11) + 49 ≤ R.locals) : CallW R s args RL RX8 86 yX8_values cX8_values 3 (some .int) (wsq yX8_values cX8_values 3 (some .int)) (rmq 2 49) 0 0 2 := cwV 2 ht (goodV wd3_215 wd3_216 wd3_217 wd1_1 wd3_218) rfl rfl rfl (by decide +kernel) hR
theorem cl_RL_89 {R : Room} {s : State} {args : Array Value} (ht : ∀ w ∈ lw_all, w.before args s = true) (hR : 2 + 1 ≤ R.frames ∧ 8 + (3 + 11) + 50 ≤ R.locals) : CallW R s args RL RX9 89 yX9_values cX9_values 3 (some .int) (wsq yX9_values cX9_values 3 (some .int)) (rmq 2 50) 0 0 2 := cwV 2 ht (goodV wd6_201 wd6_202 wd6_203 wd1_10 wd6_204) rfl rfl rfl (by decide +kernel) hR
theorem cl_RL_90 {R : Room} {s : State} {args : Array Value} (ht : ∀ w ∈ lw_all, w.before args s = true) (hR : 2 + 1 ≤ R.frames ∧ 8 + (3 + 11) + 43 ≤ R.locals) : CallW R s args RL RX8 90 yX8_pattern cX8_pattern 3 (some .int) (wsq yX8_pattern cX8_pattern 3 (some .int)) (rmq 2 43) 0 0 2 := cwV 2 ht (goodV wd3_220 wd3_221 wd3_222 wd1_1 wd3_223) rfl rfl rfl (by decide +kernel) hR
theorem cl_RL_93 {R : Room} {s : State} {args : Array Value} (ht : ∀ w ∈ lw_all, w.before args s = true) (hR : 1 + 1 ≤ R.frames ∧ 8 + (3 + 11) + 22 ≤ R.locals) : CallW R s args RL RX9 93 yX9_pattern cX9_pattern 3 (some .int) (wsq yX9_pattern cX9_pattern 3 (some .int)) (rmq 1 22) 0 0 2 := cwV 2 ht (goodV wd6_205 wd6_206 wd6_207 wd1_10 wd6_208) rfl rfl rfl (by decide +kernel) hR
theorem cl_RL_94 {R : Room} {s : State} {args : Array Value} (ht : ∀ w ∈ lw_all, w.before args s = true) (hR : 6 + 1 ≤ R.frames ∧ 8 + (3 + 11) + 152 ≤ R.locals) : CallW R s args RL RX8 94 yX8_lines cX8_lines 3 (some .int) (wsq yX8_lines cX8_lines 3 (some .int)) (rmq 6 152) 0 0 1 := cwV 1 ht (goodV wd3_233 wd3_234 wd3_235 wd1_1 wd3_236) rfl rfl rfl (by decide +kernel) hR
theorem cl_RL_97 {R : Room} {s : State} {args : Array Value} (ht : ∀ w ∈ lw_all, w.before args s = true) (hR : 6 + 1 ≤ R.frames ∧ 8 + (2 + 11) + 141 ≤ R.locals) : CallW R s args RL RX9 97 yX9_lines cX9_lines 2 (some .int) (wsq yX9_lines cX9_lines 2 (some .int)) (rmq 6 141) 0 0 1 := cwV 1 ht (goodV wd6_209 wd6_210 wd6_211 wd1_10 wd6_212) rfl rfl rfl (by decide +kernel) hR
theorem cl_RL_98 {R : Room} {s : State} {args : Array Value} (ht : ∀ w ∈ lw_all, w.before args s = true) (hR : 6 + 1 ≤ R.frames ∧ 8 + (3 + 11) + 151 ≤ R.locals) : CallW R s args RL RX8 98 yX8_lineOf cX8_lineOf 3 (some .int) (wsq yX8_lineOf cX8_lineOf 3 (some .int)) (rmq 6 151) 0 0 2 := cwV 2 ht (goodV wd4_140 wd4_141 wd4_142 wd1_1 wd4_143) rfl rfl rfl (by decide +kernel) hR
theorem cl_RL_101 {R : Room} {s : State} {args : Array Value} (ht : ∀ w ∈ lw_all, w.before args s = true) (hR : 7 + 1 ≤ R.frames ∧ 8 + (5 + 11) + 162 ≤ R.locals) : CallW R s args RL RX9 101 yX9_lineOf cX9_lineOf 5 (some .int) (wsq yX9_lineOf cX9_lineOf 5 (some .int)) (rmq 7 162) 0 0 2 := cwV 2 ht (goodV wd7_63 wd7_64 wd7_65 wd1_10 wd7_66) rfl rfl rfl (by decide +kernel) hR
theorem cl_RL_102 {R : Room} {s : State} {args : Array Value} (ht : ∀ w ∈ lw_all, w.before args s = true) (hR : 6 + 1 ≤ R.frames ∧ 8 + (2 + 11) + 151 ≤ R.locals) : CallW R s args RL RX8 102 yX8_ratio cX8_ratio 2 (some .int) (wsq yX8_ratio cX8_ratio 2 (some .int)) (rmq 6 151) 0 0 1 := cwV 1 ht (goodV wd4_155 wd4_156 wd4_157 wd1_1 wd4_158) rfl rfl rfl (by decide +kernel) hR
theorem cl_RL_105 {R : Room} {s : State} {args : Array Value} (ht : ∀ w ∈ lw_all, w.before args s = true) (hR : 7 + 1 ≤ R.frames ∧ 8 + (2 + 11) + 162 ≤ R.locals) : CallW R s args RL RX9 105 yX9_ratio cX9_ratio 2 (some .int) (wsq yX9_ratio cX9_ratio 2 (some .int)) (rmq 7 162) 0 0 1 := cwV 1 ht (goodV wd7_71 wd7_72 wd7_73 wd1_10 wd7_74) rfl rfl rfl (by decide +kernel) hR
theorem cl_RL_106 {R : Room} {s : State} {args : Array Value} (ht : ∀ w ∈ lw_all, w.before args s = true) (hR : 6 + 1 ≤ R.frames ∧ 8 + (2 + 11) + 151 ≤ R.locals) : CallW R s args RL RX8 106 yX8_badness cX8_badness 2 (some .int) (wsq yX8_badness cX8_badness 2 (some .int)) (rmq 6 151) 0 0 1 := cwV 1 ht (goodV wd4_165 wd4_166 wd4_167 wd1_1 wd4_168) rfl rfl rfl (by decide +kernel) hR
theorem cl_RL_109 {R : Room} {s : State} {args : Array Value} (ht : ∀ w ∈ lw_all, w.before args s = true) (hR : 7 + 1 ≤ R.frames ∧ 8 + (2 + 11) + 162 ≤ R.locals) : CallW R s args RL RX9 109 yX9_badness cX9_badness 2 (some .int) (wsq yX9_badness cX9_badness 2 (some .int)) (rmq 7 162) 0 0 1 := cwV 1 ht (goodV wd7_85 wd7_86 wd7_87 wd1_10 wd7_88) rfl rfl rfl (by decide +kernel) hR
theorem cl_RL_110 {R : Room} {s : State} {args : Array Value} (ht : ∀ w ∈ lw_all, w.before args s = true) (hR : 6 + 1 ≤ R.frames ∧ 8 + (2 + 11) + 151 ≤ R.locals) : CallW R s args RL RX8 110 yX8_demerits cX8_demerits 2 (some .int) (wsq yX8_demerits cX8_demerits 2 (some .int)) (rmq 6 151) 0 0 1 := cwV 1 ht (goodV wd4_170 wd4_171 wd4_172 wd1_1 wd4_173) rfl rfl rfl (by decide +kernel) hR
theorem cl_RL_113 {R : Room} {s : State} {args : Array Value} (ht : ∀ w ∈ lw_all, w.before args s = true) (hR : 7 + 1 ≤ R.frames ∧ 8 + (2 + 11) + 162 ≤ R.locals) : CallW R s args RL RX9 113 yX9_demerits cX9_demerits 2 (some .int) (wsq yX9_demerits cX9_demerits 2 (some .int)) (rmq 7 162) 0 0 1 := cwV 1 ht (goodV wd7_89 wd7_90 wd7_91 wd1_10 wd7_92) rfl rfl rfl (by decide +kernel) hR
theorem cl_RL_114 {R : Room} {s : State} {args : Array Value} (ht : ∀ w ∈ lw_all, w.before args s = true) (hR : 6 + 1 ≤ R.frames ∧ 8 + (2 + 11) + 152 ≤ R.locals) : CallW R s args RL RX8 114 yX8_total cX8_total 2 (some .int) (wsq yX8_total cX8_total 2 (some .int)) (rmq 6 152) 0 0 1 := cwV 1 ht (goodV wd4_175 wd4_176 wd4_177 wd1_1 wd4_178) rfl rfl rfl (by decide +kernel) hR
theorem cl_RL_117 {R : Room} {s : State} {args : Array Value} (ht : ∀ w ∈ lw_all, w.before args s = true) (hR : 6 + 1 ≤ R.frames ∧ 8 + (2 + 11) + 142 ≤ R.locals) : CallW R s args RL RX9 117 yX9_total cX9_total 2 (some .int) (wsq yX9_total cX9_total 2 (some .int)) (rmq 6 142) 0 0 1 := cwV 1 ht (goodV wd7_93 wd7_94 wd7_95 wd1_10 wd7_96) rfl rfl rfl (by decide +kernel) hR
theorem cl_RL_118 {R : Room} {s : State} {args : Array Value} (ht : ∀ w ∈ lw_all, w.before args s = true) (hR : 5 + 1 ≤ R.frames ∧ 8 + (1 + 11) + 130 ≤ R.locals) : CallW R s args RL RX8 118 yX8_firstFit cX8_firstFit 1 (some .int) (wsq yX8_firstFit cX8_firstFit 1 (some .int)) (rmq 5 130) 0 0 0 := cwV 0 ht (goodV wd4_189 wd4_190 wd4_191 wd1_1 wd4_192) rfl rfl rfl (by decide +kernel) hR
theorem cl_RL_121 {R : Room} {s : State} {args : Array Value} (ht : ∀ w ∈ lw_all, w.before args s = true) (hR : 5 + 1 ≤ R.frames ∧ 8 + (3 + 11) + 116 ≤ R.locals) : CallW R s args RL RX9 121 yX9_firstFit cX9_firstFit 3 (some .int) (wsq yX9_firstFit cX9_firstFit 3 (some .int)) (rmq 5 116) 0 0 0 := cwV 0 ht (goodV wd7_109 wd7_110 wd7_111 wd1_10 wd7_112) rfl rfl rfl (by decide +kernel) hR
theorem cl_RL_122 {R : Room} {s : State} {args : Array Value} (ht : ∀ w ∈ lw_all, w.before args s = true) (hR : 6 + 1 ≤ R.frames ∧ 8 + (3 + 11) + 150 ≤ R.locals) : CallW R s args RL RX8 122 yX8_with cX8_with 3 (some .int) (wsq yX8_with cX8_with 3 (some .int)) (rmq 6 150) 0 0 1 := cwV 1 ht (goodV wd4_201 wd4_202 wd4_203 wd1_1 wd4_204) rfl rfl rfl (by decide +kernel) hR
theorem cl_RL_125 {R : Room} {s : State} {args : Array Value} (ht : ∀ w ∈ lw_all, w.before args s = true) (hR : 7 + 1 ≤ R.frames ∧ 8 + (3 + 11) + 164 ≤ R.locals) : CallW R s args RL RX9 125 yX9_with cX9_with 3 (some .int) (wsq yX9_with cX9_with 3 (some .int)) (rmq 7 164) 0 0 1 := cwV 1 ht (goodV wd7_117 wd7_118 wd7_119 wd1_10 wd7_120) rfl rfl rfl (by decide +kernel) hR
theorem cl_RL_126 {R : Room} {s : State} {args : Array Value} (ht : ∀ w ∈ lw_all, w.before args s = true) (hR : 6 + 1 ≤ R.frames ∧ 8 + (5 + 11) + 150 ≤ R.locals) : CallW R s args RL RX8 126 yX8_narrowest cX8_narrowest 5 (some .int) (wsq yX8_narrowest cX8_narrowest 5 (some .int)) (rmq 6 150) 0 0 1 := cwV 1 ht (goodV wd4_213 wd4_214 wd4_215 wd1_1 wd4_216) rfl rfl rfl (by decide +kernel) hR
theorem cl_RL_129 {R : Room} {s : State} {args : Array Value} (ht : ∀ w ∈ lw_all, w.before args s = true) (hR : 7 + 1 ≤ R.frames ∧ 8 + (4 + 11) + 164 ≤ R.locals) : CallW R s args RL RX9 129 yX9_narrowest cX9_narrowest 4 (some .int) (wsq yX9_narrowest cX9_narrowest 4 (some .int)) (rmq 7 164) 0 0 1 := cwV 1 ht (goodV wd7_125 wd7_126 wd7_127 wd1_10 wd7_128) rfl rfl rfl (by decide +kernel) hR
theorem cl_RL_130 {R : Room} {s : State} {args : Array Value} (ht : ∀ w ∈ lw_all, w.before args s = true) (hR : 6 + 1 ≤ R.frames ∧ 8 + (4 + 11) + 152 ≤ R.locals) : CallW R s args RL RX8 130 yX8_without cX8_without 4 (some .int) (wsq yX8_without cX8_without 4 (some .int)) (rmq 6 152) 0 0 2 := cwV 2 ht (goodV wd4_217 wd4_218 wd4_219 wd1_1 wd4_220) rfl rfl rfl (by decide +kernel) hR
theorem cl_RL_133 {R : Room} {s : State} {args : Array Value} (ht : ∀ w ∈ lw_all, w.before args s = true) (hR : 7 + 1 ≤ R.frames ∧ 8 + (5 + 11) + 163 ≤ R.locals) : CallW R s args RL RX9 133 yX9_without cX9_without 5 (some .int) (wsq yX9_without cX9_without 5 (some .int)) (rmq 7 163) 0 0 2 := cwV 2 ht (goodV wd7_129 wd7_130 wd7_131 wd1_10 wd7_132) rfl rfl rfl (by decide +kernel) hR
theorem cl_RL_134 {R : Room} {s : State} {args : Array Value} (ht : ∀ w ∈ lw_all, w.before args s = true) (hR : 6 + 1 ≤ R.frames ∧ 8 + (5 + 11) + 152 ≤ R.locals) : CallW R s args RL RX8 134 yX8_worst cX8_worst 5 (some .int) (wsq yX8_worst cX8_worst 5 (some .int)) (rmq 6 152) 0 0 0 := cwV 0 ht (goodV wd4_221 wd4_222 wd4_223 wd1_1 wd4_224) rfl rfl rfl (by decide +kernel) hR
theorem cl_RL_137 {R : Room} {s : State} {args : Array Value} (ht : ∀ w ∈ lw_all, w.before args s = true) (hR : 7 + 1 ≤ R.frames ∧ 8 + (5 + 11) + 163 ≤ R.locals) : CallW R s args RL RX9 137 yX9_worst cX9_worst 5 (some .int) (wsq yX9_worst cX9_worst 5 (some .int)) (rmq 7 163) 0 0 0 := cwV 0 ht (goodV wd7_145 wd7_146 wd7_147 wd1_10 wd7_148) rfl rfl rfl (by decide +kernel) hR
theorem cl_RL_138 {R : Room} {s : State} {args : Array Value} (ht : ∀ w ∈ lw_all, w.before args s = true) (hR : 6 + 1 ≤ R.frames ∧ 8 + (5 + 11) + 150 ≤ R.locals) : CallW R s args RL RX8 138 yX8_manners cX8_manners 5 (some .int) (wsq yX8_manners cX8_manners 5 (some .int)) (rmq 6 150) 0 0 0 := cwV 0 ht (goodV wd4_228 wd4_229 wd4_230 wd1_1 wd4_231) rfl rfl rfl (by decide +kernel) hR
theorem cl_RL_141 {R : Room} {s : State} {args : Array Value} (ht : ∀ w ∈ lw_all, w.before args s = true) (hR : 6 + 1 ≤ R.frames ∧ 8 + (6 + 11) + 141 ≤ R.locals) : CallW R s args RL RX9 141 yX9_manners cX9_manners 6 (some .int) (wsq yX9_manners cX9_manners 6 (some .int)) (rmq 6 141) 0 0 0 := cwV 0 ht (goodV wd7_149 wd7_150 wd7_151 wd1_10 wd7_152) rfl rfl rfl (by decide +kernel) hR
theorem cl_RL_142 {R : Room} {s : State} {args : Array Value} (ht : ∀ w ∈ lw_all, w.before args s = true) (hR : 6 + 1 ≤ R.frames ∧ 8 + (5 + 11) + 150 ≤ R.locals) : CallW R s args RL RX8 142 yX8_two cX8_two 5 (some .int) (wsq yX8_two cX8_two 5 (some .int)) (rmq 6 150) 0 0 2 := cwV 2 ht (goodV wd4_232 wd4_233 wd4_234 wd1_1 wd4_235) rfl rfl rfl (by decide +kernel) hR
theorem cl_RL_145 {R : Room} {s : State} {args : Array Value} (ht : ∀ w ∈ lw_all, w.before args s = true) (hR : 7 + 1 ≤ R.frames ∧ 8 + (8 + 11) + 164 ≤ R.locals) : CallW R s args RL RX9 145 yX9_two cX9_two 8 (some .int) (wsq yX9_two cX9_two 8 (some .int)) (rmq 7 164) 0 0 2 := cwV 2 ht (goodV wd7_153 wd7_154 wd7_155 wd1_10 wd7_156) rfl rfl rfl (by decide +kernel) hR
theorem cl_RL_146 {R : Room} {s : State} {args : Array Value} (ht : ∀ w ∈ lw_all, w.before args s = true) (hR : 6 + 1 ≤ R.frames ∧ 8 + (9 + 11) + 152 ≤ R.locals) : CallW R s args RL RX8 146 yX8_lost cX8_lost 9 (some .long) (wsq yX8_lost cX8_lost 9 (some .long)) (rmq 6 152) 0 0 3 := cwV 3 ht (goodV wd4_236 wd4_237 wd4_238 wd1_1 wd4_239) rfl rfl rfl (by decide +kernel) hR
theorem cl_RL_150 {R : Room} {s : State} {args : Array Value} (ht : ∀ w ∈ lw_all, w.before args s = true) (hR : 6 + 1 ≤ R.frames ∧ 8 + (15 + 11) + 141 ≤ R.locals) : CallW R s args RL RX9 150 yX9_lost cX9_lost 15 (some .long) (wsq yX9_lost cX9_lost 15 (some .long)) (rmq 6 141) 0 0 3 := cwV 3 ht (goodV wd7_157 wd7_158 wd7_159 wd1_10 wd7_160) rfl rfl rfl (by decide +kernel) hR
theorem cl_RL_151 {R : Room} {s : State} {args : Array Value} (ht : ∀ w ∈ lw_all, w.before args s = true) (hR : 6 + 1 ≤ R.frames ∧ 8 + (2 + 11) + 152 ≤ R.locals) : CallW R s args RL RX8 151 yX8_mean cX8_mean 2 (some .long) (wsq yX8_mean cX8_mean 2 (some .long)) (rmq 6 152) 0 0 1 := cwV 1 ht (goodV wd5_14 wd5_15 wd5_16 wd1_1 wd5_17) rfl rfl rfl (by decide +kernel) hR
theorem cl_RL_155 {R : Room} {s : State} {args : Array Value} (ht : ∀ w ∈ lw_all, w.before args s = true) (hR : 6 + 1 ≤ R.frames ∧ 8 + (4 + 11) + 141 ≤ R.locals) : CallW R s args RL RX9 155 yX9_mean cX9_mean 4 (some .long) (wsq yX9_mean cX9_mean 4 (some .long)) (rmq 6 141) 0 0 1 := cwV 1 ht (goodV wd7_172 wd7_173 wd7_174 wd1_10 wd7_175) rfl rfl rfl (by decide +kernel) hR
theorem cl_RL_156 {R : Room} {s : State} {args : Array Value} (ht : ∀ w ∈ lw_all, w.before args s = true) (hR : 6 + 1 ≤ R.frames ∧ 8 + (5 + 11) + 152 ≤ R.locals) : CallW R s args RL RX8 156 yX8_whatIs cX8_whatIs 5 (some .int) (wsq yX8_whatIs cX8_whatIs 5 (some .int)) (rmq 6 152) 0 0 1 := cwV 1 ht (goodV wd5_22 wd5_23 wd5_24 wd1_1 wd5_25) rfl rfl rfl (by decide +kernel) hR
theorem cl_RL_159 {R : Room} {s : State} {args : Array Value} (ht : ∀ w ∈ lw_all, w.before args s = true) (hR : 8 + 1 ≤ R.frames ∧ 8 + (6 + 11) + 186 ≤ R.locals) : CallW R s args RL RX9 159 yX9_whatIs cX9_whatIs 6 (some .int) (wsq yX9_whatIs cX9_whatIs 6 (some .int)) (rmq 8 186) 0 0 1 := cwV 1 ht (goodV wd7_176 wd7_177 wd7_178 wd1_10 wd7_179) rfl rfl rfl (by decide +kernel) hR
theorem cl_RL_160 {R : Room} {s : State} {args : Array Value} (ht : ∀ w ∈ lw_all, w.before args s = true) (hR : 2 + 1 ≤ R.frames ∧ 8 + (2 + 11) + 43 ≤ R.locals) : CallW R s args RL RX8 160 yX8_row cX8_row 2 (some .int) (wsq yX8_row cX8_row 2 (some .int)) (rmq 2 43) 0 0 1 := cwV 1 ht (goodV wd5_30 wd5_31 wd5_32 wd1_1 wd5_33) rfl rfl rfl (by decide +kernel) hR
theorem cl_RL_163 {R : Room} {s : State} {args : Array Value} (ht : ∀ w ∈ lw_all, w.before args s = true) (hR : 1 + 1 ≤ R.frames ∧ 8 + (3 + 11) + 22 ≤ R.locals) : CallW R s args RL RX9 163 yX9_row cX9_row 3 (some .int) (wsq yX9_row cX9_row 3 (some .int)) (rmq 1 22) 0 0 1 := cwV 1 ht (goodV wd7_184 wd7_185 wd7_186 wd1_10 wd7_187) rfl rfl rfl (by decide +kernel) hR
theorem cl_RL_164 {R : Room} {s : State} {args : Array Value} (ht : ∀ w ∈ lw_all, w.before args s = true) (hR : 6 + 1 ≤ R.frames ∧ 8 + (2 + 11) + 152 ≤ R.locals) : CallW R s args RL RX8 164 yX8_judge cX8_judge 2 (some .int) (wsq yX8_judge cX8_judge 2 (some .int)) (rmq 6 152) 0 0 0 := cwV 0 ht (goodV wd5_34 wd5_35 wd5_36 wd1_1 wd5_37) rfl rfl rfl (by decide +kernel) hR
theorem cl_RL_167 {R : Room} {s : State} {args : Array Value} (ht : ∀ w ∈ lw_all, w.before args s = true) (hR : 6 + 1 ≤ R.frames ∧ 8 + (4 + 11) + 141 ≤ R.locals) : CallW R s args RL RX9 167 yX9_judge cX9_judge 4 (some .int) (wsq yX9_judge cX9_judge 4 (some .int)) (rmq 6 141) 0 0 0 := cwV 0 ht (goodV wd7_188 wd7_189 wd7_190 wd1_10 wd7_191) rfl rfl rfl (by decide +kernel) hR
theorem cl_RL_168 {R : Room} {s : State} {args : Array Value} (ht : ∀ w ∈ lw_all, w.before args s = true) (hR : 0 + 1 ≤ R.frames ∧ 8 + (2 + 11) + 0 ≤ R.locals) : CallW R s args RL RX8 168 yX8_clear cX8_clear 2 (some .int) (wsq yX8_clear cX8_clear 2 (some .int)) (rmq 0 0) 0 0 0 := cwV 0 ht (goodV wd5_42 wd5_43 wd5_44 wd1_1 wd5_45) rfl rfl rfl (by decide +kernel) hR
theorem cl_RL_171 {R : Room} {s : State} {args : Array Value} (ht : ∀ w ∈ lw_all, w.before args s = true) (hR : 0 + 1 ≤ R.frames ∧ 8 + (2 + 11) + 0 ≤ R.locals) : CallW R s args RL RX9 171 yX9_clear cX9_clear 2 (some .int) (wsq yX9_clear cX9_clear 2 (some .int)) (rmq 0 0) 0 0 0 := cwV 0 ht (goodV wd7_192 wd7_193 wd7_194 wd1_10 wd7_195) rfl rfl rfl (by decide +kernel) hR
theorem cl_RL_172 {R : Room} {s : State} {args : Array Value} (ht : ∀ w ∈ lw_all, w.before args s = true) (hR : 6 + 1 ≤ R.frames ∧ 8 + (10 + 11) + 150 ≤ R.locals) : CallW R s args RL RX8 172 yX8_lots cX8_lots 10 (some .int) (wsq yX8_lots cX8_lots 10 (some .int)) (rmq 6 150) 0 0 3 := cwV 3 ht (goodV wd5_46 wd5_47 wd5_48 wd1_1 wd5_49) rfl rfl rfl (by decide +kernel) hR
theorem cl_RL_175 {R : Room} {s : State} {args : Array Value} (ht : ∀ w ∈ lw_all, w.before args s = true) (hR : 6 + 1 ≤ R.frames ∧ 8 + (10 + 11) + 141 ≤ R.locals) : CallW R s args RL RX9 175 yX9_lots cX9_lots 10 (some .int) (wsq yX9_lots cX9_lots 10 (some .int)) (rmq 6 141) 0 0 3 := cwV 3 ht (goodV wd7_196 wd7_197 wd7_198 wd1_10 wd7_199) rfl rfl rfl (by decide +kernel) hR
theorem cl_RL_176 {R : Room} {s : State} {args : Array Value} (ht : ∀ w ∈ lw_all, w.before args s = true) (hR : 4 + 1 ≤ R.frames ∧ 8 + (1 + 11) + 84 ≤ R.locals) : CallW R s args RL RX8 176 yX8_image cX8_image 1 (some .int) (wsq yX8_image cX8_image 1 (some .int)) (rmq 4 84) 0 0 0 := cwV 0 ht (goodV wd5_57 wd5_58 wd5_59 wd1_1 wd5_60) rfl rfl rfl (by decide +kernel) hR
theorem cl_RL_179 {R : Room} {s : State} {args : Array Value} (ht : ∀ w ∈ lw_all, w.before args s = true) (hR : 2 + 1 ≤ R.frames ∧ 8 + (1 + 11) + 44 ≤ R.locals) : CallW R s args RL RX9 179 yX9_image cX9_image 1 (some .int) (wsq yX9_image cX9_image 1 (some .int)) (rmq 2 44) 0 0 0 := cwV 0 ht (goodV wd6_96 wd6_97 wd6_98 wd1_10 wd6_99) rfl rfl rfl (by decide +kernel) hR
theorem cl_RL_180 {R : Room} {s : State} {args : Array Value} (ht : ∀ w ∈ lw_all, w.before args s = true) (hR : 4 + 1 ≤ R.frames ∧ 8 + (1 + 11) + 84 ≤ R.locals) : CallW R s args RL RX8 180 yX8_on cX8_on 1 (some .int) (wsq yX8_on cX8_on 1 (some .int)) (rmq 4 84) 0 0 0 := cwV 0 ht (goodV wd5_61 wd5_62 wd5_63 wd1_1 wd5_64) rfl rfl rfl (by decide +kernel) hR
theorem cl_RL_183 {R : Room} {s : State} {args : Array Value} (ht : ∀ w ∈ lw_all, w.before args s = true) (hR : 2 + 1 ≤ R.frames ∧ 8 + (1 + 11) + 44 ≤ R.locals) : CallW R s args RL RX9 183 yX9_on cX9_on 1 (some .int) (wsq yX9_on cX9_on 1 (some .int)) (rmq 2 44) 0 0 0 := cwV 0 ht (goodV wd6_100 wd6_101 wd6_102 wd1_10 wd6_103) rfl rfl rfl (by decide +kernel) hR
theorem cl_RL_184 {R : Room} {s : State} {args : Array Value} (ht : ∀ w ∈ lw_all, w.before args s = true) (hR : 2 + 1 ≤ R.frames ∧ 8 + (2 + 11) + 43 ≤ R.locals) : CallW R s args RL RX8 184 yX8_count cX8_count 2 (some .int) (wsq yX8_count cX8_count 2 (some .int)) (rmq 2 43) 0 0 1 := cwV 1 ht (goodV wd5_65 wd5_66 wd5_67 wd1_1 wd5_68) rfl rfl rfl (by decide +kernel) hR
theorem cl_RL_187 {R : Room} {s : State} {args : Array Value} (ht : ∀ w ∈ lw_all, w.before args s = true) (hR : 1 + 1 ≤ R.frames ∧ 8 + (2 + 11) + 22 ≤ R.locals) : CallW R s args RL RX9 187 yX9_count cX9_count 2 (some .int) (wsq yX9_count cX9_count 2 (some .int)) (rmq 1 22) 0 0 1 := cwV 1 ht (goodV wd7_207 wd7_208 wd7_209 wd1_10 wd7_210) rfl rfl rfl (by decide +kernel) hR
def f_law_c0 (xs : Nat → Int32) (L : Nat) (K : Int32 → Mem → Option (Int32 × Mem)) (i : Int32) (M : Mem) : Option (Int32 × Mem) := (gq (inB (i + (1 : Int32)) L) (bq2 (f_X8_letter (xs ((i + (1 : Int32)) : Int32).toNatClampNeg) M) (fun (x2 : Int32) (M3 : Mem) => gq (inB (i + (1 : Int32)) L) (bq2 (f_X9_letter (xs ((i + (1 : Int32)) : Int32).toNatClampNeg) M3) (fun (x6 : Int32) (M7 : Mem) => (if x2 = x6 then (nmq (i + (5 : Int32)) (fun (x10 : Int32) => (K x10 M7))) else some ((0 : Int32), M7)))))))
set_option maxHeartbeats 4000000 in
set_option maxRecDepth 100000 in
theorem law_c0 {p : Program} {l : Launch} {e : Env} {s : State} {m : MethodId} {args : Array Value} {below : List Frame} {meth : Method} {c : Code} {cells slots : Nat} {Q : State → Prop} {G : GG} {b L : Nat} {xs : Nat → Int32} {Mr : Mem} (hB : BX p s m args c cL_law 4 RL G) (hcs : cells ≤ room_1.cells ∧ slots ≤ room_1.slots) (hX : va_X b L xs s s.heap) (hbl : b < s.heap.size) (hbA : ¬ adA G b) {K : Int32 → Mem → Option (Int32 × Mem)} (ih : ∀ (i : Int32) (M : Mem) (H : Heap) (locs : List Loc) (ls : Array Slot), Wd G M H → va_S (adA G) s.heap H locs → lv_has ls 4 [(0, .ref b), (1, .ref (G.2.2.1 0)), (2, .ref (G.2.2.1 139)), (3, .int i)] → K i M = some ((1 : Int32), Mr) → W p l e room_1 s m args below meth c H locs cells slots Q (F0 m 18 ls [])) : ∀ (i : Int32) (M : Mem) (H : Heap) (locs : List Loc) (ls : Array Slot), Wd G M H → va_S (adA G) s.heap H locs → lv_has ls 4 [(0, .ref b), (1, .ref (G.2.2.1 0)), (2, .ref (G.2.2.1 139)), (3, .int i)] → f_law_c0 xs L K i M = some ((1 : Int32), Mr) → W p l e room_1 s m args below meth c H locs cells slots Q (F0 m 216 ls []) := by
  intro i M H locs ls hW hS hl hf
  have hx := hB.x
  have hb := hB.b
  unfold f_law_c0 at hf
  refine lv_aload_n hx hb dL_law_216 rfl (lv_at hl 1 rfl) ?_
  refine lv_aload_n hx hb dL_law_217 rfl (lv_at hl 0 rfl) ?_
  refine lv_iload_n hx hb dL_law_218 rfl (lv_at hl 3 rfl) ?_
  refine lv_iconst (v := (1 : Int32)) hx hb dL_law_219 (by decide) ?_
  refine lv_iadd hx hb dL_law_220 ?_
  obtain ⟨h1, hf⟩ := g_o hf
  refine va_sld hx hb hX hbl hbA hS h1 dL_law_221 ?_
  obtain ⟨x2, M3, hg4, hf⟩ := b_o2 hf
  refine x_ci hB (x_rv hB hW hS (As := [.int (xs ((i + (1 : Int32)) : Int32).toNatClampNeg)]) (rest := []) (ct_X8_letter l G hg4) (cl_RL_13 hB.2.2.2.2.1 ⟨Nat.le_of_ble_eq_true rfl, Nat.le_of_ble_eq_true rfl⟩) tl0 (by decide) rfl rfl hl.1 rfl (Nat.le_of_ble_eq_true rfl) dL_law_222 hcs) hS (fun H locs hW hS => ?_)
  refine lv_aload_n hx hb dL_law_225 rfl (lv_at hl 2 rfl) ?_
  refine lv_aload_n hx hb dL_law_226 rfl (lv_at hl 0 rfl) ?_
  refine lv_iload_n hx hb dL_law_227 rfl (lv_at hl 3 rfl) ?_
  refine lv_iconst (v := (1 : Int32)) hx hb dL_law_228 (by decide) ?_
  refine lv_iadd hx hb dL_law_229 ?_
  obtain ⟨h5, hf⟩ := g_o hf
  refine va_sld hx hb hX hbl hbA hS h5 dL_law_230 ?_
  obtain ⟨x6, M7, hg8, hf⟩ := b_o2 hf
  refine x_ci hB (x_rv hB hW hS (As := [.int (xs ((i + (1 : Int32)) : Int32).toNatClampNeg)]) (rest := [.int x2]) (ct_X9_letter l G hg8) (cl_RL_17 hB.2.2.2.2.1 ⟨Nat.le_of_ble_eq_true rfl, Nat.le_of_ble_eq_true rfl⟩) tl139 (by decide) rfl rfl hl.1 rfl (Nat.le_of_ble_eq_true rfl) dL_law_231 hcs) hS (fun H locs hW hS => ?_)
  refine lv_icmp_eq (tgt := 1294) hx hb dL_law_234 (by decide) (fun c9 => ?_) (fun c9 => ?_)
  · have hf := i_t hf c9
    obtain ⟨x10, ex10⟩ : ∃ y : Int32, y = i + (5 : Int32) := ⟨_, rfl⟩
    have hf := nm_o hf ex10
    refine lv_iinc (v := x10) (lv' := [(3, .int x10), (0, .ref b), (1, .ref (G.2.2.1 0)), (2, .ref (G.2.2.1 139))]) hx hb dL_law_1294 hl (k := 3) rfl (by rw [ex10]; rfl) (by decide) rfl (fun ls hl => ?_)
    refine lv_goto (tgt := 18) hx hb dL_law_1297 (by decide) ?_
    exact ih x10 M7 _ _ ls hW hS (lv_sub hl [1, 2, 3, 0] rfl) hf
  · have hf := i_f hf c9
    refine lv_iconst (v := (0 : Int32)) hx hb dL_law_237 (by decide) ?_
    exact absurd (show (0 : Int32) = 1 from s_1 hf) (by decide)
def f_law_c1 (xs : Nat → Int32) (L : Nat) (K : Int32 → Mem → Option (Int32 × Mem)) (i : Int32) (M : Mem) : Option (Int32 × Mem) := (bq2 (f_X8_sheet M) (fun (x1 : Int32) (M2 : Mem) => bq2 (f_X9_sheet M2) (fun (x4 : Int32) (M5 : Mem) => (if x1 = x4 then (nmq (i + (5 : Int32)) (fun (x8 : Int32) => (K x8 M5))) else some ((0 : Int32), M5)))))
set_option maxHeartbeats 4000000 in
set_option maxRecDepth 100000 in
theorem law_c1 {p : Program} {l : Launch} {e : Env} {s : State} {m : MethodId} {args : Array Value} {below : List Frame} {meth : Method} {c : Code} {cells slots : Nat} {Q : State → Prop} {G : GG} {b L : Nat} {xs : Nat → Int32} {Mr : Mem} (hB : BX p s m args c cL_law 4 RL G) (hcs : cells ≤ room_1.cells ∧ slots ≤ room_1.slots) (hX : va_X b L xs s s.heap) (hbl : b < s.heap.size) (hbA : ¬ adA G b) {K : Int32 → Mem → Option (Int32 × Mem)} (ih : ∀ (i : Int32) (M : Mem) (H : Heap) (locs : List Loc) (ls : Array Slot), Wd G M H → va_S (adA G) s.heap H locs → lv_has ls 4 [(0, .ref b), (1, .ref (G.2.2.1 0)), (2, .ref (G.2.2.1 139)), (3, .int i)] → K i M = some ((1 : Int32), Mr) → W p l e room_1 s m args below meth c H locs cells slots Q (F0 m 18 ls [])) : ∀ (i : Int32) (M : Mem) (H : Heap) (locs : List Loc) (ls : Array Slot), Wd G M H → va_S (adA G) s.heap H locs → lv_has ls 4 [(0, .ref b), (1, .ref (G.2.2.1 0)), (2, .ref (G.2.2.1 139)), (3, .int i)] → f_law_c1 xs L K i M = some ((1 : Int32), Mr) → W p l e room_1 s m args below meth c H locs cells slots Q (F0 m 239 ls []) := by
  intro i M H locs ls hW hS hl hf
  have hx := hB.x
  have hb := hB.b
  unfold f_law_c1 at hf
  refine lv_aload_n hx hb dL_law_239 rfl (lv_at hl 1 rfl) ?_
  obtain ⟨x1, M2, hg3, hf⟩ := b_o2 hf
  refine x_ci hB (x_rv hB hW hS (As := []) (rest := []) (ct_X8_sheet l G hg3) (cl_RL_18 hB.2.2.2.2.1 ⟨Nat.le_of_ble_eq_true rfl, Nat.le_of_ble_eq_true rfl⟩) tl0 (by decide) rfl rfl hl.1 rfl (Nat.le_of_ble_eq_true rfl) dL_law_240 hcs) hS (fun H locs hW hS => ?_)
  refine lv_aload_n hx hb dL_law_243 rfl (lv_at hl 2 rfl) ?_
  obtain ⟨x4, M5, hg6, hf⟩ := b_o2 hf
  refine x_ci hB (x_rv hB hW hS (As := []) (rest := [.int x1]) (ct_X9_sheet l G hg6) (cl_RL_22 hB.2.2.2.2.1 ⟨Nat.le_of_ble_eq_true rfl, Nat.le_of_ble_eq_true rfl⟩) tl139 (by decide) rfl rfl hl.1 rfl (Nat.le_of_ble_eq_true rfl) dL_law_244 hcs) hS (fun H locs hW hS => ?_)
  refine lv_icmp_eq (tgt := 1294) hx hb dL_law_247 (by decide) (fun c7 => ?_) (fun c7 => ?_)
  · have hf := i_t hf c7
    obtain ⟨x8, ex8⟩ : ∃ y : Int32, y = i + (5 : Int32) := ⟨_, rfl⟩
    have hf := nm_o hf ex8
    refine lv_iinc (v := x8) (lv' := [(3, .int x8), (0, .ref b), (1, .ref (G.2.2.1 0)), (2, .ref (G.2.2.1 139))]) hx hb dL_law_1294 hl (k := 3) rfl (by rw [ex8]; rfl) (by decide) rfl (fun ls hl => ?_)
    refine lv_goto (tgt := 18) hx hb dL_law_1297 (by decide) ?_
    exact ih x8 M5 _ _ ls hW hS (lv_sub hl [1, 2, 3, 0] rfl) hf
  · have hf := i_f hf c7
    refine lv_iconst (v := (0 : Int32)) hx hb dL_law_250 (by decide) ?_
    exact absurd (show (0 : Int32) = 1 from s_1 hf) (by decide)
def f_law_c2 (xs : Nat → Int32) (L : Nat) (K : Int32 → Mem → Option (Int32 × Mem)) (i : Int32) (M : Mem) : Option (Int32 × Mem) := (gq (inB (i + (1 : Int32)) L) (gq (inB (i + (2 : Int32)) L) (bq2 (f_X8_widens (xs ((i + (1 : Int32)) : Int32).toNatClampNeg) (xs ((i + (2 : Int32)) : Int32).toNatClampNeg) M) (fun (x3 : Int32) (M4 : Mem) => gq (inB (i + (1 : Int32)) L) (gq (inB (i + (2 : Int32)) L) (bq2 (f_X9_widens (xs ((i + (1 : Int32)) : Int32).toNatClampNeg) (xs ((i + (2 : Int32)) : Int32).toNatClampNeg) M4) (fun (x8 : Int32) (M9 : Mem) => (if x3 = x8 then (nmq (i + (5 : Int32)) (fun (x12 : Int32) => (K x12 M9))) else some ((0 : Int32), M9)))))))))
set_option maxHeartbeats 4000000 in
set_option maxRecDepth 100000 in
theorem law_c2 {p : Program} {l : Launch} {e : Env} {s : State} {m : MethodId} {args : Array Value} {below : List Frame} {meth : Method} {c : Code} {cells slots : Nat} {Q : State → Prop} {G : GG} {b L : Nat} {xs : Nat → Int32} {Mr : Mem} (hB : BX p s m args c cL_law 4 RL G) (hcs : cells ≤ room_1.cells ∧ slots ≤ room_1.slots) (hX : va_X b L xs s s.heap) (hbl : b < s.heap.size) (hbA : ¬ adA G b) {K : Int32 → Mem → Option (Int32 × Mem)} (ih : ∀ (i : Int32) (M : Mem) (H : Heap) (locs : List Loc) (ls : Array Slot), Wd G M H → va_S (adA G) s.heap H locs → lv_has ls 4 [(0, .ref b), (1, .ref (G.2.2.1 0)), (2, .ref (G.2.2.1 139)), (3, .int i)] → K i M = some ((1 : Int32), Mr) → W p l e room_1 s m args below meth c H locs cells slots Q (F0 m 18 ls [])) : ∀ (i : Int32) (M : Mem) (H : Heap) (locs : List Loc) (ls : Array Slot), Wd G M H → va_S (adA G) s.heap H locs → lv_has ls 4 [(0, .ref b), (1, .ref (G.2.2.1 0)), (2, .ref (G.2.2.1 139)), (3, .int i)] → f_law_c2 xs L K i M = some ((1 : Int32), Mr) → W p l e room_1 s m args below meth c H locs cells slots Q (F0 m 252 ls []) := by
  intro i M H locs ls hW hS hl hf
  have hx := hB.x
  have hb := hB.b
  unfold f_law_c2 at hf
  refine lv_aload_n hx hb dL_law_252 rfl (lv_at hl 1 rfl) ?_
  refine lv_aload_n hx hb dL_law_253 rfl (lv_at hl 0 rfl) ?_
  refine lv_iload_n hx hb dL_law_254 rfl (lv_at hl 3 rfl) ?_
  refine lv_iconst (v := (1 : Int32)) hx hb dL_law_255 (by decide) ?_
  refine lv_iadd hx hb dL_law_256 ?_
  obtain ⟨h1, hf⟩ := g_o hf
  refine va_sld hx hb hX hbl hbA hS h1 dL_law_257 ?_
  refine lv_aload_n hx hb dL_law_258 rfl (lv_at hl 0 rfl) ?_
  refine lv_iload_n hx hb dL_law_259 rfl (lv_at hl 3 rfl) ?_
  refine lv_iconst (v := (2 : Int32)) hx hb dL_law_260 (by decide) ?_
  refine lv_iadd hx hb dL_law_261 ?_
  obtain ⟨h2, hf⟩ := g_o hf
  refine va_sld hx hb hX hbl hbA hS h2 dL_law_262 ?_
  obtain ⟨x3, M4, hg5, hf⟩ := b_o2 hf
  refine x_ci hB (x_rv hB hW hS (As := [.int (xs ((i + (1 : Int32)) : Int32).toNatClampNeg), .int (xs ((i + (2 : Int32)) : Int32).toNatClampNeg)]) (rest := []) (ct_X8_widens l G hg5) (cl_RL_23 hB.2.2.2.2.1 ⟨Nat.le_of_ble_eq_true rfl, Nat.le_of_ble_eq_true rfl⟩) tl0 (by decide) rfl rfl hl.1 rfl (Nat.le_of_ble_eq_true rfl) dL_law_263 hcs) hS (fun H locs hW hS => ?_)
  refine lv_aload_n hx hb dL_law_266 rfl (lv_at hl 2 rfl) ?_
  refine lv_aload_n hx hb dL_law_267 rfl (lv_at hl 0 rfl) ?_
  refine lv_iload_n hx hb dL_law_268 rfl (lv_at hl 3 rfl) ?_
  refine lv_iconst (v := (1 : Int32)) hx hb dL_law_269 (by decide) ?_
  refine lv_iadd hx hb dL_law_270 ?_
  obtain ⟨h6, hf⟩ := g_o hf
  refine va_sld hx hb hX hbl hbA hS h6 dL_law_271 ?_
  refine lv_aload_n hx hb dL_law_272 rfl (lv_at hl 0 rfl) ?_
  refine lv_iload_n hx hb dL_law_273 rfl (lv_at hl 3 rfl) ?_
  refine lv_iconst (v := (2 : Int32)) hx hb dL_law_274 (by decide) ?_
  refine lv_iadd hx hb dL_law_275 ?_
  obtain ⟨h7, hf⟩ := g_o hf
  refine va_sld hx hb hX hbl hbA hS h7 dL_law_276 ?_
  obtain ⟨x8, M9, hg10, hf⟩ := b_o2 hf
  refine x_ci hB (x_rv hB hW hS (As := [.int (xs ((i + (1 : Int32)) : Int32).toNatClampNeg), .int (xs ((i + (2 : Int32)) : Int32).toNatClampNeg)]) (rest := [.int x3]) (ct_X9_widens l G hg10) (cl_RL_27 hB.2.2.2.2.1 ⟨Nat.le_of_ble_eq_true rfl, Nat.le_of_ble_eq_true rfl⟩) tl139 (by decide) rfl rfl hl.1 rfl (Nat.le_of_ble_eq_true rfl) dL_law_277 hcs) hS (fun H locs hW hS => ?_)
  refine lv_icmp_eq (tgt := 1294) hx hb dL_law_280 (by decide) (fun c11 => ?_) (fun c11 => ?_)
  · have hf := i_t hf c11
    obtain ⟨x12, ex12⟩ : ∃ y : Int32, y = i + (5 : Int32) := ⟨_, rfl⟩
    have hf := nm_o hf ex12
    refine lv_iinc (v := x12) (lv' := [(3, .int x12), (0, .ref b), (1, .ref (G.2.2.1 0)), (2, .ref (G.2.2.1 139))]) hx hb dL_law_1294 hl (k := 3) rfl (by rw [ex12]; rfl) (by decide) rfl (fun ls hl => ?_)
    refine lv_goto (tgt := 18) hx hb dL_law_1297 (by decide) ?_
    exact ih x12 M9 _ _ ls hW hS (lv_sub hl [1, 2, 3, 0] rfl) hf
  · have hf := i_f hf c11
    refine lv_iconst (v := (0 : Int32)) hx hb dL_law_283 (by decide) ?_
    exact absurd (show (0 : Int32) = 1 from s_1 hf) (by decide)
def f_law_c3 (xs : Nat → Int32) (L : Nat) (K : Int32 → Mem → Option (Int32 × Mem)) (i : Int32) (M : Mem) : Option (Int32 × Mem) := (gq (inB (i + (1 : Int32)) L) (gq (inB (i + (2 : Int32)) L) (gq (inB (i + (3 : Int32)) L) (bq2 (f_X8_adds (xs ((i + (1 : Int32)) : Int32).toNatClampNeg) (xs ((i + (2 : Int32)) : Int32).toNatClampNeg) (xs ((i + (3 : Int32)) : Int32).toNatClampNeg) M) (fun (x4 : Int32) (M5 : Mem) => gq (inB (i + (1 : Int32)) L) (gq (inB (i + (2 : Int32)) L) (gq (inB (i + (3 : Int32)) L) (bq2 (f_X9_adds (xs ((i + (1 : Int32)) : Int32).toNatClampNeg) (xs ((i + (2 : Int32)) : Int32).toNatClampNeg) (xs ((i + (3 : Int32)) : Int32).toNatClampNeg) M5) (fun (x10 : Int32) (M11 : Mem) => (if x4 = x10 then (nmq (i + (5 : Int32)) (fun (x14 : Int32) => (K x14 M11))) else some ((0 : Int32), M11)))))))))))
set_option maxHeartbeats 4000000 in
set_option maxRecDepth 100000 in
theorem law_c3 {p : Program} {l : Launch} {e : Env} {s : State} {m : MethodId} {args : Array Value} {below : List Frame} {meth : Method} {c : Code} {cells slots : Nat} {Q : State → Prop} {G : GG} {b L : Nat} {xs : Nat → Int32} {Mr : Mem} (hB : BX p s m args c cL_law 4 RL G) (hcs : cells ≤ room_1.cells ∧ slots ≤ room_1.slots) (hX : va_X b L xs s s.heap) (hbl : b < s.heap.size) (hbA : ¬ adA G b) {K : Int32 → Mem → Option (Int32 × Mem)} (ih : ∀ (i : Int32) (M : Mem) (H : Heap) (locs : List Loc) (ls : Array Slot), Wd G M H → va_S (adA G) s.heap H locs → lv_has ls 4 [(0, .ref b), (1, .ref (G.2.2.1 0)), (2, .ref (G.2.2.1 139)), (3, .int i)] → K i M = some ((1 : Int32), Mr) → W p l e room_1 s m args below meth c H locs cells slots Q (F0 m 18 ls [])) : ∀ (i : Int32) (M : Mem) (H : Heap) (locs : List Loc) (ls : Array Slot), Wd G M H → va_S (adA G) s.heap H locs → lv_has ls 4 [(0, .ref b), (1, .ref (G.2.2.1 0)), (2, .ref (G.2.2.1 139)), (3, .int i)] → f_law_c3 xs L K i M = some ((1 : Int32), Mr) → W p l e room_1 s m args below meth c H locs cells slots Q (F0 m 285 ls []) := by
  intro i M H locs ls hW hS hl hf
  have hx := hB.x
  have hb := hB.b
  unfold f_law_c3 at hf
  refine lv_aload_n hx hb dL_law_285 rfl (lv_at hl 1 rfl) ?_
  refine lv_aload_n hx hb dL_law_286 rfl (lv_at hl 0 rfl) ?_
  refine lv_iload_n hx hb dL_law_287 rfl (lv_at hl 3 rfl) ?_
  refine lv_iconst (v := (1 : Int32)) hx hb dL_law_288 (by decide) ?_
  refine lv_iadd hx hb dL_law_289 ?_
  obtain ⟨h1, hf⟩ := g_o hf
  refine va_sld hx hb hX hbl hbA hS h1 dL_law_290 ?_
  refine lv_aload_n hx hb dL_law_291 rfl (lv_at hl 0 rfl) ?_
  refine lv_iload_n hx hb dL_law_292 rfl (lv_at hl 3 rfl) ?_
  refine lv_iconst (v := (2 : Int32)) hx hb dL_law_293 (by decide) ?_
  refine lv_iadd hx hb dL_law_294 ?_
  obtain ⟨h2, hf⟩ := g_o hf
  refine va_sld hx hb hX hbl hbA hS h2 dL_law_295 ?_
  refine lv_aload_n hx hb dL_law_296 rfl (lv_at hl 0 rfl) ?_
  refine lv_iload_n hx hb dL_law_297 rfl (lv_at hl 3 rfl) ?_
  refine lv_iconst (v := (3 : Int32)) hx hb dL_law_298 (by decide) ?_
  refine lv_iadd hx hb dL_law_299 ?_
  obtain ⟨h3, hf⟩ := g_o hf
  refine va_sld hx hb hX hbl hbA hS h3 dL_law_300 ?_
  obtain ⟨x4, M5, hg6, hf⟩ := b_o2 hf
  refine x_ci hB (x_rv hB hW hS (As := [.int (xs ((i + (1 : Int32)) : Int32).toNatClampNeg), .int (xs ((i + (2 : Int32)) : Int32).toNatClampNeg), .int (xs ((i + (3 : Int32)) : Int32).toNatClampNeg)]) (rest := []) (ct_X8_adds l G hg6) (cl_RL_28 hB.2.2.2.2.1 ⟨Nat.le_of_ble_eq_true rfl, Nat.le_of_ble_eq_true rfl⟩) tl0 (by decide) rfl rfl hl.1 rfl (Nat.le_of_ble_eq_true rfl) dL_law_301 hcs) hS (fun H locs hW hS => ?_)
  refine lv_aload_n hx hb dL_law_304 rfl (lv_at hl 2 rfl) ?_
  refine lv_aload_n hx hb dL_law_305 rfl (lv_at hl 0 rfl) ?_
  refine lv_iload_n hx hb dL_law_306 rfl (lv_at hl 3 rfl) ?_
  refine lv_iconst (v := (1 : Int32)) hx hb dL_law_307 (by decide) ?_
  refine lv_iadd hx hb dL_law_308 ?_
  obtain ⟨h7, hf⟩ := g_o hf
  refine va_sld hx hb hX hbl hbA hS h7 dL_law_309 ?_
  refine lv_aload_n hx hb dL_law_310 rfl (lv_at hl 0 rfl) ?_
  refine lv_iload_n hx hb dL_law_311 rfl (lv_at hl 3 rfl) ?_
  refine lv_iconst (v := (2 : Int32)) hx hb dL_law_312 (by decide) ?_
  refine lv_iadd hx hb dL_law_313 ?_
  obtain ⟨h8, hf⟩ := g_o hf
  refine va_sld hx hb hX hbl hbA hS h8 dL_law_314 ?_
  refine lv_aload_n hx hb dL_law_315 rfl (lv_at hl 0 rfl) ?_
  refine lv_iload_n hx hb dL_law_316 rfl (lv_at hl 3 rfl) ?_
  refine lv_iconst (v := (3 : Int32)) hx hb dL_law_317 (by decide) ?_
  refine lv_iadd hx hb dL_law_318 ?_
  obtain ⟨h9, hf⟩ := g_o hf
  refine va_sld hx hb hX hbl hbA hS h9 dL_law_319 ?_
  obtain ⟨x10, M11, hg12, hf⟩ := b_o2 hf
  refine x_ci hB (x_rv hB hW hS (As := [.int (xs ((i + (1 : Int32)) : Int32).toNatClampNeg), .int (xs ((i + (2 : Int32)) : Int32).toNatClampNeg), .int (xs ((i + (3 : Int32)) : Int32).toNatClampNeg)]) (rest := [.int x4]) (ct_X9_adds l G hg12) (cl_RL_32 hB.2.2.2.2.1 ⟨Nat.le_of_ble_eq_true rfl, Nat.le_of_ble_eq_true rfl⟩) tl139 (by decide) rfl rfl hl.1 rfl (Nat.le_of_ble_eq_true rfl) dL_law_320 hcs) hS (fun H locs hW hS => ?_)
  refine lv_icmp_eq (tgt := 1294) hx hb dL_law_323 (by decide) (fun c13 => ?_) (fun c13 => ?_)
  · have hf := i_t hf c13
    obtain ⟨x14, ex14⟩ : ∃ y : Int32, y = i + (5 : Int32) := ⟨_, rfl⟩
    have hf := nm_o hf ex14
    refine lv_iinc (v := x14) (lv' := [(3, .int x14), (0, .ref b), (1, .ref (G.2.2.1 0)), (2, .ref (G.2.2.1 139))]) hx hb dL_law_1294 hl (k := 3) rfl (by rw [ex14]; rfl) (by decide) rfl (fun ls hl => ?_)
    refine lv_goto (tgt := 18) hx hb dL_law_1297 (by decide) ?_
    exact ih x14 M11 _ _ ls hW hS (lv_sub hl [1, 2, 3, 0] rfl) hf
  · have hf := i_f hf c13
    refine lv_iconst (v := (0 : Int32)) hx hb dL_law_326 (by decide) ?_
    exact absurd (show (0 : Int32) = 1 from s_1 hf) (by decide)
def f_law_c4 (xs : Nat → Int32) (L : Nat) (K : Int32 → Mem → Option (Int32 × Mem)) (i : Int32) (M : Mem) : Option (Int32 × Mem) := (gq (inB (i + (1 : Int32)) L) (bq2 (f_X8_forces (xs ((i + (1 : Int32)) : Int32).toNatClampNeg) M) (fun (x2 : Int32) (M3 : Mem) => gq (inB (i + (1 : Int32)) L) (bq2 (f_X9_forces (xs ((i + (1 : Int32)) : Int32).toNatClampNeg) M3) (fun (x6 : Int32) (M7 : Mem) => (if x2 = x6 then (nmq (i + (5 : Int32)) (fun (x10 : Int32) => (K x10 M7))) else some ((0 : Int32), M7)))))))
set_option maxHeartbeats 4000000 in
set_option maxRecDepth 100000 in
theorem law_c4 {p : Program} {l : Launch} {e : Env} {s : State} {m : MethodId} {args : Array Value} {below : List Frame} {meth : Method} {c : Code} {cells slots : Nat} {Q : State → Prop} {G : GG} {b L : Nat} {xs : Nat → Int32} {Mr : Mem} (hB : BX p s m args c cL_law 4 RL G) (hcs : cells ≤ room_1.cells ∧ slots ≤ room_1.slots) (hX : va_X b L xs s s.heap) (hbl : b < s.heap.size) (hbA : ¬ adA G b) {K : Int32 → Mem → Option (Int32 × Mem)} (ih : ∀ (i : Int32) (M : Mem) (H : Heap) (locs : List Loc) (ls : Array Slot), Wd G M H → va_S (adA G) s.heap H locs → lv_has ls 4 [(0, .ref b), (1, .ref (G.2.2.1 0)), (2, .ref (G.2.2.1 139)), (3, .int i)] → K i M = some ((1 : Int32), Mr) → W p l e room_1 s m args below meth c H locs cells slots Q (F0 m 18 ls [])) : ∀ (i : Int32) (M : Mem) (H : Heap) (locs : List Loc) (ls : Array Slot), Wd G M H → va_S (adA G) s.heap H locs → lv_has ls 4 [(0, .ref b), (1, .ref (G.2.2.1 0)), (2, .ref (G.2.2.1 139)), (3, .int i)] → f_law_c4 xs L K i M = some ((1 : Int32), Mr) → W p l e room_1 s m args below meth c H locs cells slots Q (F0 m 328 ls []) := by
  intro i M H locs ls hW hS hl hf
  have hx := hB.x
  have hb := hB.b
  unfold f_law_c4 at hf
  refine lv_aload_n hx hb dL_law_328 rfl (lv_at hl 1 rfl) ?_
  refine lv_aload_n hx hb dL_law_329 rfl (lv_at hl 0 rfl) ?_
  refine lv_iload_n hx hb dL_law_330 rfl (lv_at hl 3 rfl) ?_
  refine lv_iconst (v := (1 : Int32)) hx hb dL_law_331 (by decide) ?_
  refine lv_iadd hx hb dL_law_332 ?_
  obtain ⟨h1, hf⟩ := g_o hf
  refine va_sld hx hb hX hbl hbA hS h1 dL_law_333 ?_
  obtain ⟨x2, M3, hg4, hf⟩ := b_o2 hf
  refine x_ci hB (x_rv hB hW hS (As := [.int (xs ((i + (1 : Int32)) : Int32).toNatClampNeg)]) (rest := []) (ct_X8_forces l G hg4) (cl_RL_33 hB.2.2.2.2.1 ⟨Nat.le_of_ble_eq_true rfl, Nat.le_of_ble_eq_true rfl⟩) tl0 (by decide) rfl rfl hl.1 rfl (Nat.le_of_ble_eq_true rfl) dL_law_334 hcs) hS (fun H locs hW hS => ?_)
  refine lv_aload_n hx hb dL_law_337 rfl (lv_at hl 2 rfl) ?_
  refine lv_aload_n hx hb dL_law_338 rfl (lv_at hl 0 rfl) ?_
  refine lv_iload_n hx hb dL_law_339 rfl (lv_at hl 3 rfl) ?_
  refine lv_iconst (v := (1 : Int32)) hx hb dL_law_340 (by decide) ?_
  refine lv_iadd hx hb dL_law_341 ?_
  obtain ⟨h5, hf⟩ := g_o hf
  refine va_sld hx hb hX hbl hbA hS h5 dL_law_342 ?_
  obtain ⟨x6, M7, hg8, hf⟩ := b_o2 hf
  refine x_ci hB (x_rv hB hW hS (As := [.int (xs ((i + (1 : Int32)) : Int32).toNatClampNeg)]) (rest := [.int x2]) (ct_X9_forces l G hg8) (cl_RL_36 hB.2.2.2.2.1 ⟨Nat.le_of_ble_eq_true rfl, Nat.le_of_ble_eq_true rfl⟩) tl139 (by decide) rfl rfl hl.1 rfl (Nat.le_of_ble_eq_true rfl) dL_law_343 hcs) hS (fun H locs hW hS => ?_)
  refine lv_icmp_eq (tgt := 1294) hx hb dL_law_346 (by decide) (fun c9 => ?_) (fun c9 => ?_)
  · have hf := i_t hf c9
    obtain ⟨x10, ex10⟩ : ∃ y : Int32, y = i + (5 : Int32) := ⟨_, rfl⟩
    have hf := nm_o hf ex10
    refine lv_iinc (v := x10) (lv' := [(3, .int x10), (0, .ref b), (1, .ref (G.2.2.1 0)), (2, .ref (G.2.2.1 139))]) hx hb dL_law_1294 hl (k := 3) rfl (by rw [ex10]; rfl) (by decide) rfl (fun ls hl => ?_)
    refine lv_goto (tgt := 18) hx hb dL_law_1297 (by decide) ?_
    exact ih x10 M7 _ _ ls hW hS (lv_sub hl [1, 2, 3, 0] rfl) hf
  · have hf := i_f hf c9
    refine lv_iconst (v := (0 : Int32)) hx hb dL_law_349 (by decide) ?_
    exact absurd (show (0 : Int32) = 1 from s_1 hf) (by decide)
def f_law_c5 (xs : Nat → Int32) (L : Nat) (K : Int32 → Mem → Option (Int32 × Mem)) (i : Int32) (M : Mem) : Option (Int32 × Mem) := (gq (inB (i + (1 : Int32)) L) (bq2 (f_X8_drops (xs ((i + (1 : Int32)) : Int32).toNatClampNeg) M) (fun (x2 : Int32) (M3 : Mem) => gq (inB (i + (1 : Int32)) L) (bq2 (f_X9_drops (xs ((i + (1 : Int32)) : Int32).toNatClampNeg) M3) (fun (x6 : Int32) (M7 : Mem) => (if x2 = x6 then (nmq (i + (5 : Int32)) (fun (x10 : Int32) => (K x10 M7))) else some ((0 : Int32), M7)))))))
set_option maxHeartbeats 4000000 in
set_option maxRecDepth 100000 in
theorem law_c5 {p : Program} {l : Launch} {e : Env} {s : State} {m : MethodId} {args : Array Value} {below : List Frame} {meth : Method} {c : Code} {cells slots : Nat} {Q : State → Prop} {G : GG} {b L : Nat} {xs : Nat → Int32} {Mr : Mem} (hB : BX p s m args c cL_law 4 RL G) (hcs : cells ≤ room_1.cells ∧ slots ≤ room_1.slots) (hX : va_X b L xs s s.heap) (hbl : b < s.heap.size) (hbA : ¬ adA G b) {K : Int32 → Mem → Option (Int32 × Mem)} (ih : ∀ (i : Int32) (M : Mem) (H : Heap) (locs : List Loc) (ls : Array Slot), Wd G M H → va_S (adA G) s.heap H locs → lv_has ls 4 [(0, .ref b), (1, .ref (G.2.2.1 0)), (2, .ref (G.2.2.1 139)), (3, .int i)] → K i M = some ((1 : Int32), Mr) → W p l e room_1 s m args below meth c H locs cells slots Q (F0 m 18 ls [])) : ∀ (i : Int32) (M : Mem) (H : Heap) (locs : List Loc) (ls : Array Slot), Wd G M H → va_S (adA G) s.heap H locs → lv_has ls 4 [(0, .ref b), (1, .ref (G.2.2.1 0)), (2, .ref (G.2.2.1 139)), (3, .int i)] → f_law_c5 xs L K i M = some ((1 : Int32), Mr) → W p l e room_1 s m args below meth c H locs cells slots Q (F0 m 351 ls []) := by
  intro i M H locs ls hW hS hl hf
  have hx := hB.x
  have hb := hB.b
  unfold f_law_c5 at hf
  refine lv_aload_n hx hb dL_law_351 rfl (lv_at hl 1 rfl) ?_
  refine lv_aload_n hx hb dL_law_352 rfl (lv_at hl 0 rfl) ?_
  refine lv_iload_n hx hb dL_law_353 rfl (lv_at hl 3 rfl) ?_
  refine lv_iconst (v := (1 : Int32)) hx hb dL_law_354 (by decide) ?_
  refine lv_iadd hx hb dL_law_355 ?_
  obtain ⟨h1, hf⟩ := g_o hf
  refine va_sld hx hb hX hbl hbA hS h1 dL_law_356 ?_
  obtain ⟨x2, M3, hg4, hf⟩ := b_o2 hf
  refine x_ci hB (x_rv hB hW hS (As := [.int (xs ((i + (1 : Int32)) : Int32).toNatClampNeg)]) (rest := []) (ct_X8_drops l G hg4) (cl_RL_37 hB.2.2.2.2.1 ⟨Nat.le_of_ble_eq_true rfl, Nat.le_of_ble_eq_true rfl⟩) tl0 (by decide) rfl rfl hl.1 rfl (Nat.le_of_ble_eq_true rfl) dL_law_357 hcs) hS (fun H locs hW hS => ?_)
  refine lv_aload_n hx hb dL_law_360 rfl (lv_at hl 2 rfl) ?_
  refine lv_aload_n hx hb dL_law_361 rfl (lv_at hl 0 rfl) ?_
  refine lv_iload_n hx hb dL_law_362 rfl (lv_at hl 3 rfl) ?_
  refine lv_iconst (v := (1 : Int32)) hx hb dL_law_363 (by decide) ?_
  refine lv_iadd hx hb dL_law_364 ?_
  obtain ⟨h5, hf⟩ := g_o hf
  refine va_sld hx hb hX hbl hbA hS h5 dL_law_365 ?_
  obtain ⟨x6, M7, hg8, hf⟩ := b_o2 hf
  refine x_ci hB (x_rv hB hW hS (As := [.int (xs ((i + (1 : Int32)) : Int32).toNatClampNeg)]) (rest := [.int x2]) (ct_X9_drops l G hg8) (cl_RL_40 hB.2.2.2.2.1 ⟨Nat.le_of_ble_eq_true rfl, Nat.le_of_ble_eq_true rfl⟩) tl139 (by decide) rfl rfl hl.1 rfl (Nat.le_of_ble_eq_true rfl) dL_law_366 hcs) hS (fun H locs hW hS => ?_)
  refine lv_icmp_eq (tgt := 1294) hx hb dL_law_369 (by decide) (fun c9 => ?_) (fun c9 => ?_)
  · have hf := i_t hf c9
    obtain ⟨x10, ex10⟩ : ∃ y : Int32, y = i + (5 : Int32) := ⟨_, rfl⟩
    have hf := nm_o hf ex10
    refine lv_iinc (v := x10) (lv' := [(3, .int x10), (0, .ref b), (1, .ref (G.2.2.1 0)), (2, .ref (G.2.2.1 139))]) hx hb dL_law_1294 hl (k := 3) rfl (by rw [ex10]; rfl) (by decide) rfl (fun ls hl => ?_)
    refine lv_goto (tgt := 18) hx hb dL_law_1297 (by decide) ?_
    exact ih x10 M7 _ _ ls hW hS (lv_sub hl [1, 2, 3, 0] rfl) hf
  · have hf := i_f hf c9
    refine lv_iconst (v := (0 : Int32)) hx hb dL_law_372 (by decide) ?_
    exact absurd (show (0 : Int32) = 1 from s_1 hf) (by decide)
def f_law_c6 (xs : Nat → Int32) (L : Nat) (K : Int32 → Mem → Option (Int32 × Mem)) (i : Int32) (M : Mem) : Option (Int32 × Mem) := (gq (inB (i + (1 : Int32)) L) (gq (inB (i + (2 : Int32)) L) (gq (inB (i + (3 : Int32)) L) (gq (inB (i + (4 : Int32)) L) (bq2 (f_X8_patterns (xs ((i + (1 : Int32)) : Int32).toNatClampNeg) (xs ((i + (2 : Int32)) : Int32).toNatClampNeg) (xs ((i + (3 : Int32)) : Int32).toNatClampNeg) (xs ((i + (4 : Int32)) : Int32).toNatClampNeg) M) (fun (x5 : Int32) (M6 : Mem) => gq (inB (i + (1 : Int32)) L) (gq (inB (i + (2 : Int32)) L) (gq (inB (i + (3 : Int32)) L) (gq (inB (i + (4 : Int32)) L) (bq2 (f_X9_patterns (xs ((i + (1 : Int32)) : Int32).toNatClampNeg) (xs ((i + (2 : Int32)) : Int32).toNatClampNeg) (xs ((i + (3 : Int32)) : Int32).toNatClampNeg) (xs ((i + (4 : Int32)) : Int32).toNatClampNeg) M6) (fun (x12 : Int32) (M13 : Mem) => (if x5 = x12 then (nmq (i + (5 : Int32)) (fun (x16 : Int32) => (K x16 M13))) else some ((0 : Int32), M13)))))))))))))
set_option maxHeartbeats 4000000 in
set_option maxRecDepth 100000 in
theorem law_c6 {p : Program} {l : Launch} {e : Env} {s : State} {m : MethodId} {args : Array Value} {below : List Frame} {meth : Method} {c : Code} {cells slots : Nat} {Q : State → Prop} {G : GG} {b L : Nat} {xs : Nat → Int32} {Mr : Mem} (hB : BX p s m args c cL_law 4 RL G) (hcs : cells ≤ room_1.cells ∧ slots ≤ room_1.slots) (hX : va_X b L xs s s.heap) (hbl : b < s.heap.size) (hbA : ¬ adA G b) {K : Int32 → Mem → Option (Int32 × Mem)} (ih : ∀ (i : Int32) (M : Mem) (H : Heap) (locs : List Loc) (ls : Array Slot), Wd G M H → va_S (adA G) s.heap H locs → lv_has ls 4 [(0, .ref b), (1, .ref (G.2.2.1 0)), (2, .ref (G.2.2.1 139)), (3, .int i)] → K i M = some ((1 : Int32), Mr) → W p l e room_1 s m args below meth c H locs cells slots Q (F0 m 18 ls [])) : ∀ (i : Int32) (M : Mem) (H : Heap) (locs : List Loc) (ls : Array Slot), Wd G M H → va_S (adA G) s.heap H locs → lv_has ls 4 [(0, .ref b), (1, .ref (G.2.2.1 0)), (2, .ref (G.2.2.1 139)), (3, .int i)] → f_law_c6 xs L K i M = some ((1 : Int32), Mr) → W p l e room_1 s m args below meth c H locs cells slots Q (F0 m 374 ls []) := by
  intro i M H locs ls hW hS hl hf
  have hx := hB.x
  have hb := hB.b
  unfold f_law_c6 at hf
  refine lv_aload_n hx hb dL_law_374 rfl (lv_at hl 1 rfl) ?_
  refine lv_aload_n hx hb dL_law_375 rfl (lv_at hl 0 rfl) ?_
  refine lv_iload_n hx hb dL_law_376 rfl (lv_at hl 3 rfl) ?_
  refine lv_iconst (v := (1 : Int32)) hx hb dL_law_377 (by decide) ?_
  refine lv_iadd hx hb dL_law_378 ?_
  obtain ⟨h1, hf⟩ := g_o hf
  refine va_sld hx hb hX hbl hbA hS h1 dL_law_379 ?_
  refine lv_aload_n hx hb dL_law_380 rfl (lv_at hl 0 rfl) ?_
  refine lv_iload_n hx hb dL_law_381 rfl (lv_at hl 3 rfl) ?_
  refine lv_iconst (v := (2 : Int32)) hx hb dL_law_382 (by decide) ?_
  refine lv_iadd hx hb dL_law_383 ?_
  obtain ⟨h2, hf⟩ := g_o hf
  refine va_sld hx hb hX hbl hbA hS h2 dL_law_384 ?_
  refine lv_aload_n hx hb dL_law_385 rfl (lv_at hl 0 rfl) ?_
  refine lv_iload_n hx hb dL_law_386 rfl (lv_at hl 3 rfl) ?_
  refine lv_iconst (v := (3 : Int32)) hx hb dL_law_387 (by decide) ?_
  refine lv_iadd hx hb dL_law_388 ?_
  obtain ⟨h3, hf⟩ := g_o hf
  refine va_sld hx hb hX hbl hbA hS h3 dL_law_389 ?_
  refine lv_aload_n hx hb dL_law_390 rfl (lv_at hl 0 rfl) ?_
  refine lv_iload_n hx hb dL_law_391 rfl (lv_at hl 3 rfl) ?_
  refine lv_iconst (v := (4 : Int32)) hx hb dL_law_392 (by decide) ?_
  refine lv_iadd hx hb dL_law_393 ?_
  obtain ⟨h4, hf⟩ := g_o hf
  refine va_sld hx hb hX hbl hbA hS h4 dL_law_394 ?_
  obtain ⟨x5, M6, hg7, hf⟩ := b_o2 hf
  refine x_ci hB (x_rv hB hW hS (As := [.int (xs ((i + (1 : Int32)) : Int32).toNatClampNeg), .int (xs ((i + (2 : Int32)) : Int32).toNatClampNeg), .int (xs ((i + (3 : Int32)) : Int32).toNatClampNeg), .int (xs ((i + (4 : Int32)) : Int32).toNatClampNeg)]) (rest := []) (ct_X8_patterns l G hg7) (cl_RL_41 hB.2.2.2.2.1 ⟨Nat.le_of_ble_eq_true rfl, Nat.le_of_ble_eq_true rfl⟩) tl0 (by decide) rfl rfl hl.1 rfl (Nat.le_of_ble_eq_true rfl) dL_law_395 hcs) hS (fun H locs hW hS => ?_)
  refine lv_aload_n hx hb dL_law_398 rfl (lv_at hl 2 rfl) ?_
  refine lv_aload_n hx hb dL_law_399 rfl (lv_at hl 0 rfl) ?_
  refine lv_iload_n hx hb dL_law_400 rfl (lv_at hl 3 rfl) ?_
  refine lv_iconst (v := (1 : Int32)) hx hb dL_law_401 (by decide) ?_
  refine lv_iadd hx hb dL_law_402 ?_
  obtain ⟨h8, hf⟩ := g_o hf
  refine va_sld hx hb hX hbl hbA hS h8 dL_law_403 ?_
  refine lv_aload_n hx hb dL_law_404 rfl (lv_at hl 0 rfl) ?_
  refine lv_iload_n hx hb dL_law_405 rfl (lv_at hl 3 rfl) ?_
  refine lv_iconst (v := (2 : Int32)) hx hb dL_law_406 (by decide) ?_
  refine lv_iadd hx hb dL_law_407 ?_
  obtain ⟨h9, hf⟩ := g_o hf
  refine va_sld hx hb hX hbl hbA hS h9 dL_law_408 ?_
  refine lv_aload_n hx hb dL_law_409 rfl (lv_at hl 0 rfl) ?_
  refine lv_iload_n hx hb dL_law_410 rfl (lv_at hl 3 rfl) ?_
  refine lv_iconst (v := (3 : Int32)) hx hb dL_law_411 (by decide) ?_
  refine lv_iadd hx hb dL_law_412 ?_
  obtain ⟨h10, hf⟩ := g_o hf
  refine va_sld hx hb hX hbl hbA hS h10 dL_law_413 ?_
  refine lv_aload_n hx hb dL_law_414 rfl (lv_at hl 0 rfl) ?_
  refine lv_iload_n hx hb dL_law_415 rfl (lv_at hl 3 rfl) ?_
  refine lv_iconst (v := (4 : Int32)) hx hb dL_law_416 (by decide) ?_
  refine lv_iadd hx hb dL_law_417 ?_
  obtain ⟨h11, hf⟩ := g_o hf
  refine va_sld hx hb hX hbl hbA hS h11 dL_law_418 ?_
  obtain ⟨x12, M13, hg14, hf⟩ := b_o2 hf
  refine x_ci hB (x_rv hB hW hS (As := [.int (xs ((i + (1 : Int32)) : Int32).toNatClampNeg), .int (xs ((i + (2 : Int32)) : Int32).toNatClampNeg), .int (xs ((i + (3 : Int32)) : Int32).toNatClampNeg), .int (xs ((i + (4 : Int32)) : Int32).toNatClampNeg)]) (rest := [.int x5]) (ct_X9_patterns l G hg14) (cl_RL_45 hB.2.2.2.2.1 ⟨Nat.le_of_ble_eq_true rfl, Nat.le_of_ble_eq_true rfl⟩) tl139 (by decide) rfl rfl hl.1 rfl (Nat.le_of_ble_eq_true rfl) dL_law_419 hcs) hS (fun H locs hW hS => ?_)
  refine lv_icmp_eq (tgt := 1294) hx hb dL_law_422 (by decide) (fun c15 => ?_) (fun c15 => ?_)
  · have hf := i_t hf c15
    obtain ⟨x16, ex16⟩ : ∃ y : Int32, y = i + (5 : Int32) := ⟨_, rfl⟩
    have hf := nm_o hf ex16
    refine lv_iinc (v := x16) (lv' := [(3, .int x16), (0, .ref b), (1, .ref (G.2.2.1 0)), (2, .ref (G.2.2.1 139))]) hx hb dL_law_1294 hl (k := 3) rfl (by rw [ex16]; rfl) (by decide) rfl (fun ls hl => ?_)
    refine lv_goto (tgt := 18) hx hb dL_law_1297 (by decide) ?_
    exact ih x16 M13 _ _ ls hW hS (lv_sub hl [1, 2, 3, 0] rfl) hf
  · have hf := i_f hf c15
    refine lv_iconst (v := (0 : Int32)) hx hb dL_law_425 (by decide) ?_
    exact absurd (show (0 : Int32) = 1 from s_1 hf) (by decide)
def f_law_c7 (xs : Nat → Int32) (L : Nat) (K : Int32 → Mem → Option (Int32 × Mem)) (i : Int32) (M : Mem) : Option (Int32 × Mem) := (gq (inB (i + (1 : Int32)) L) (bq2 (f_X8_line (xs ((i + (1 : Int32)) : Int32).toNatClampNeg) M) (fun (x2 : Int32) (M3 : Mem) => gq (inB (i + (1 : Int32)) L) (bq2 (f_X9_line (xs ((i + (1 : Int32)) : Int32).toNatClampNeg) M3) (fun (x6 : Int32) (M7 : Mem) => (if x2 = x6 then (nmq (i + (5 : Int32)) (fun (x10 : Int32) => (K x10 M7))) else some ((0 : Int32), M7)))))))
set_option maxHeartbeats 4000000 in
set_option maxRecDepth 100000 in
theorem law_c7 {p : Program} {l : Launch} {e : Env} {s : State} {m : MethodId} {args : Array Value} {below : List Frame} {meth : Method} {c : Code} {cells slots : Nat} {Q : State → Prop} {G : GG} {b L : Nat} {xs : Nat → Int32} {Mr : Mem} (hB : BX p s m args c cL_law 4 RL G) (hcs : cells ≤ room_1.cells ∧ slots ≤ room_1.slots) (hX : va_X b L xs s s.heap) (hbl : b < s.heap.size) (hbA : ¬ adA G b) {K : Int32 → Mem → Option (Int32 × Mem)} (ih : ∀ (i : Int32) (M : Mem) (H : Heap) (locs : List Loc) (ls : Array Slot), Wd G M H → va_S (adA G) s.heap H locs → lv_has ls 4 [(0, .ref b), (1, .ref (G.2.2.1 0)), (2, .ref (G.2.2.1 139)), (3, .int i)] → K i M = some ((1 : Int32), Mr) → W p l e room_1 s m args below meth c H locs cells slots Q (F0 m 18 ls [])) : ∀ (i : Int32) (M : Mem) (H : Heap) (locs : List Loc) (ls : Array Slot), Wd G M H → va_S (adA G) s.heap H locs → lv_has ls 4 [(0, .ref b), (1, .ref (G.2.2.1 0)), (2, .ref (G.2.2.1 139)), (3, .int i)] → f_law_c7 xs L K i M = some ((1 : Int32), Mr) → W p l e room_1 s m args below meth c H locs cells slots Q (F0 m 427 ls []) := by
  intro i M H locs ls hW hS hl hf
  have hx := hB.x
  have hb := hB.b
  unfold f_law_c7 at hf
  refine lv_aload_n hx hb dL_law_427 rfl (lv_at hl 1 rfl) ?_
  refine lv_aload_n hx hb dL_law_428 rfl (lv_at hl 0 rfl) ?_
  refine lv_iload_n hx hb dL_law_429 rfl (lv_at hl 3 rfl) ?_
  refine lv_iconst (v := (1 : Int32)) hx hb dL_law_430 (by decide) ?_
  refine lv_iadd hx hb dL_law_431 ?_
  obtain ⟨h1, hf⟩ := g_o hf
  refine va_sld hx hb hX hbl hbA hS h1 dL_law_432 ?_
  obtain ⟨x2, M3, hg4, hf⟩ := b_o2 hf
  refine x_ci hB (x_rv hB hW hS (As := [.int (xs ((i + (1 : Int32)) : Int32).toNatClampNeg)]) (rest := []) (ct_X8_line l G hg4) (cl_RL_46 hB.2.2.2.2.1 ⟨Nat.le_of_ble_eq_true rfl, Nat.le_of_ble_eq_true rfl⟩) tl0 (by decide) rfl rfl hl.1 rfl (Nat.le_of_ble_eq_true rfl) dL_law_433 hcs) hS (fun H locs hW hS => ?_)
  refine lv_aload_n hx hb dL_law_436 rfl (lv_at hl 2 rfl) ?_
  refine lv_aload_n hx hb dL_law_437 rfl (lv_at hl 0 rfl) ?_
  refine lv_iload_n hx hb dL_law_438 rfl (lv_at hl 3 rfl) ?_
  refine lv_iconst (v := (1 : Int32)) hx hb dL_law_439 (by decide) ?_
  refine lv_iadd hx hb dL_law_440 ?_
  obtain ⟨h5, hf⟩ := g_o hf
  refine va_sld hx hb hX hbl hbA hS h5 dL_law_441 ?_
  obtain ⟨x6, M7, hg8, hf⟩ := b_o2 hf
  refine x_ci hB (x_rv hB hW hS (As := [.int (xs ((i + (1 : Int32)) : Int32).toNatClampNeg)]) (rest := [.int x2]) (ct_X9_line l G hg8) (cl_RL_49 hB.2.2.2.2.1 ⟨Nat.le_of_ble_eq_true rfl, Nat.le_of_ble_eq_true rfl⟩) tl139 (by decide) rfl rfl hl.1 rfl (Nat.le_of_ble_eq_true rfl) dL_law_442 hcs) hS (fun H locs hW hS => ?_)
  refine lv_icmp_eq (tgt := 1294) hx hb dL_law_445 (by decide) (fun c9 => ?_) (fun c9 => ?_)
  · have hf := i_t hf c9
    obtain ⟨x10, ex10⟩ : ∃ y : Int32, y = i + (5 : Int32) := ⟨_, rfl⟩
    have hf := nm_o hf ex10
    refine lv_iinc (v := x10) (lv' := [(3, .int x10), (0, .ref b), (1, .ref (G.2.2.1 0)), (2, .ref (G.2.2.1 139))]) hx hb dL_law_1294 hl (k := 3) rfl (by rw [ex10]; rfl) (by decide) rfl (fun ls hl => ?_)
    refine lv_goto (tgt := 18) hx hb dL_law_1297 (by decide) ?_
    exact ih x10 M7 _ _ ls hW hS (lv_sub hl [1, 2, 3, 0] rfl) hf
  · have hf := i_f hf c9
    refine lv_iconst (v := (0 : Int32)) hx hb dL_law_448 (by decide) ?_
    exact absurd (show (0 : Int32) = 1 from s_1 hf) (by decide)
def f_law_c8 (xs : Nat → Int32) (L : Nat) (K : Int32 → Mem → Option (Int32 × Mem)) (i : Int32) (M : Mem) : Option (Int32 × Mem) := (gq (inB (i + (1 : Int32)) L) (gq (inB (i + (2 : Int32)) L) (gq (inB (i + (3 : Int32)) L) (bq2 (f_X8_glue (xs ((i + (1 : Int32)) : Int32).toNatClampNeg) (xs ((i + (2 : Int32)) : Int32).toNatClampNeg) (xs ((i + (3 : Int32)) : Int32).toNatClampNeg) M) (fun (x4 : Int32) (M5 : Mem) => gq (inB (i + (1 : Int32)) L) (gq (inB (i + (2 : Int32)) L) (gq (inB (i + (3 : Int32)) L) (bq2 (f_X9_glue (xs ((i + (1 : Int32)) : Int32).toNatClampNeg) (xs ((i + (2 : Int32)) : Int32).toNatClampNeg) (xs ((i + (3 : Int32)) : Int32).toNatClampNeg) M5) (fun (x10 : Int32) (M11 : Mem) => (if x4 = x10 then (nmq (i + (5 : Int32)) (fun (x14 : Int32) => (K x14 M11))) else some ((0 : Int32), M11)))))))))))
set_option maxHeartbeats 4000000 in
set_option maxRecDepth 100000 in
theorem law_c8 {p : Program} {l : Launch} {e : Env} {s : State} {m : MethodId} {args : Array Value} {below : List Frame} {meth : Method} {c : Code} {cells slots : Nat} {Q : State → Prop} {G : GG} {b L : Nat} {xs : Nat → Int32} {Mr : Mem} (hB : BX p s m args c cL_law 4 RL G) (hcs : cells ≤ room_1.cells ∧ slots ≤ room_1.slots) (hX : va_X b L xs s s.heap) (hbl : b < s.heap.size) (hbA : ¬ adA G b) {K : Int32 → Mem → Option (Int32 × Mem)} (ih : ∀ (i : Int32) (M : Mem) (H : Heap) (locs : List Loc) (ls : Array Slot), Wd G M H → va_S (adA G) s.heap H locs → lv_has ls 4 [(0, .ref b), (1, .ref (G.2.2.1 0)), (2, .ref (G.2.2.1 139)), (3, .int i)] → K i M = some ((1 : Int32), Mr) → W p l e room_1 s m args below meth c H locs cells slots Q (F0 m 18 ls [])) : ∀ (i : Int32) (M : Mem) (H : Heap) (locs : List Loc) (ls : Array Slot), Wd G M H → va_S (adA G) s.heap H locs → lv_has ls 4 [(0, .ref b), (1, .ref (G.2.2.1 0)), (2, .ref (G.2.2.1 139)), (3, .int i)] → f_law_c8 xs L K i M = some ((1 : Int32), Mr) → W p l e room_1 s m args below meth c H locs cells slots Q (F0 m 450 ls []) := by
  intro i M H locs ls hW hS hl hf
  have hx := hB.x
  have hb := hB.b
  unfold f_law_c8 at hf
  refine lv_aload_n hx hb dL_law_450 rfl (lv_at hl 1 rfl) ?_
  refine lv_aload_n hx hb dL_law_451 rfl (lv_at hl 0 rfl) ?_
  refine lv_iload_n hx hb dL_law_452 rfl (lv_at hl 3 rfl) ?_
  refine lv_iconst (v := (1 : Int32)) hx hb dL_law_453 (by decide) ?_
  refine lv_iadd hx hb dL_law_454 ?_
  obtain ⟨h1, hf⟩ := g_o hf
  refine va_sld hx hb hX hbl hbA hS h1 dL_law_455 ?_
  refine lv_aload_n hx hb dL_law_456 rfl (lv_at hl 0 rfl) ?_
  refine lv_iload_n hx hb dL_law_457 rfl (lv_at hl 3 rfl) ?_
  refine lv_iconst (v := (2 : Int32)) hx hb dL_law_458 (by decide) ?_
  refine lv_iadd hx hb dL_law_459 ?_
  obtain ⟨h2, hf⟩ := g_o hf
  refine va_sld hx hb hX hbl hbA hS h2 dL_law_460 ?_
  refine lv_aload_n hx hb dL_law_461 rfl (lv_at hl 0 rfl) ?_
  refine lv_iload_n hx hb dL_law_462 rfl (lv_at hl 3 rfl) ?_
  refine lv_iconst (v := (3 : Int32)) hx hb dL_law_463 (by decide) ?_
  refine lv_iadd hx hb dL_law_464 ?_
  obtain ⟨h3, hf⟩ := g_o hf
  refine va_sld hx hb hX hbl hbA hS h3 dL_law_465 ?_
  obtain ⟨x4, M5, hg6, hf⟩ := b_o2 hf
  refine x_ci hB (x_rv hB hW hS (As := [.int (xs ((i + (1 : Int32)) : Int32).toNatClampNeg), .int (xs ((i + (2 : Int32)) : Int32).toNatClampNeg), .int (xs ((i + (3 : Int32)) : Int32).toNatClampNeg)]) (rest := []) (ct_X8_glue l G hg6) (cl_RL_50 hB.2.2.2.2.1 ⟨Nat.le_of_ble_eq_true rfl, Nat.le_of_ble_eq_true rfl⟩) tl0 (by decide) rfl rfl hl.1 rfl (Nat.le_of_ble_eq_true rfl) dL_law_466 hcs) hS (fun H locs hW hS => ?_)
  refine lv_aload_n hx hb dL_law_469 rfl (lv_at hl 2 rfl) ?_
  refine lv_aload_n hx hb dL_law_470 rfl (lv_at hl 0 rfl) ?_
  refine lv_iload_n hx hb dL_law_471 rfl (lv_at hl 3 rfl) ?_
  refine lv_iconst (v := (1 : Int32)) hx hb dL_law_472 (by decide) ?_
  refine lv_iadd hx hb dL_law_473 ?_
  obtain ⟨h7, hf⟩ := g_o hf
  refine va_sld hx hb hX hbl hbA hS h7 dL_law_474 ?_
  refine lv_aload_n hx hb dL_law_475 rfl (lv_at hl 0 rfl) ?_
  refine lv_iload_n hx hb dL_law_476 rfl (lv_at hl 3 rfl) ?_
  refine lv_iconst (v := (2 : Int32)) hx hb dL_law_477 (by decide) ?_
  refine lv_iadd hx hb dL_law_478 ?_
  obtain ⟨h8, hf⟩ := g_o hf
  refine va_sld hx hb hX hbl hbA hS h8 dL_law_479 ?_
  refine lv_aload_n hx hb dL_law_480 rfl (lv_at hl 0 rfl) ?_
  refine lv_iload_n hx hb dL_law_481 rfl (lv_at hl 3 rfl) ?_
  refine lv_iconst (v := (3 : Int32)) hx hb dL_law_482 (by decide) ?_
  refine lv_iadd hx hb dL_law_483 ?_
  obtain ⟨h9, hf⟩ := g_o hf
  refine va_sld hx hb hX hbl hbA hS h9 dL_law_484 ?_
  obtain ⟨x10, M11, hg12, hf⟩ := b_o2 hf
  refine x_ci hB (x_rv hB hW hS (As := [.int (xs ((i + (1 : Int32)) : Int32).toNatClampNeg), .int (xs ((i + (2 : Int32)) : Int32).toNatClampNeg), .int (xs ((i + (3 : Int32)) : Int32).toNatClampNeg)]) (rest := [.int x4]) (ct_X9_glue l G hg12) (cl_RL_53 hB.2.2.2.2.1 ⟨Nat.le_of_ble_eq_true rfl, Nat.le_of_ble_eq_true rfl⟩) tl139 (by decide) rfl rfl hl.1 rfl (Nat.le_of_ble_eq_true rfl) dL_law_485 hcs) hS (fun H locs hW hS => ?_)
  refine lv_icmp_eq (tgt := 1294) hx hb dL_law_488 (by decide) (fun c13 => ?_) (fun c13 => ?_)
  · have hf := i_t hf c13
    obtain ⟨x14, ex14⟩ : ∃ y : Int32, y = i + (5 : Int32) := ⟨_, rfl⟩
    have hf := nm_o hf ex14
    refine lv_iinc (v := x14) (lv' := [(3, .int x14), (0, .ref b), (1, .ref (G.2.2.1 0)), (2, .ref (G.2.2.1 139))]) hx hb dL_law_1294 hl (k := 3) rfl (by rw [ex14]; rfl) (by decide) rfl (fun ls hl => ?_)
    refine lv_goto (tgt := 18) hx hb dL_law_1297 (by decide) ?_
    exact ih x14 M11 _ _ ls hW hS (lv_sub hl [1, 2, 3, 0] rfl) hf
  · have hf := i_f hf c13
    refine lv_iconst (v := (0 : Int32)) hx hb dL_law_491 (by decide) ?_
    exact absurd (show (0 : Int32) = 1 from s_1 hf) (by decide)
def f_law_c9 (xs : Nat → Int32) (L : Nat) (K : Int32 → Mem → Option (Int32 × Mem)) (i : Int32) (M : Mem) : Option (Int32 × Mem) := (gq (inB (i + (1 : Int32)) L) (bq2 (f_X8_tolerance (xs ((i + (1 : Int32)) : Int32).toNatClampNeg) M) (fun (x2 : Int32) (M3 : Mem) => gq (inB (i + (1 : Int32)) L) (bq2 (f_X9_tolerance (xs ((i + (1 : Int32)) : Int32).toNatClampNeg) M3) (fun (x6 : Int32) (M7 : Mem) => (if x2 = x6 then (nmq (i + (5 : Int32)) (fun (x10 : Int32) => (K x10 M7))) else some ((0 : Int32), M7)))))))
set_option maxHeartbeats 4000000 in
set_option maxRecDepth 100000 in
theorem law_c9 {p : Program} {l : Launch} {e : Env} {s : State} {m : MethodId} {args : Array Value} {below : List Frame} {meth : Method} {c : Code} {cells slots : Nat} {Q : State → Prop} {G : GG} {b L : Nat} {xs : Nat → Int32} {Mr : Mem} (hB : BX p s m args c cL_law 4 RL G) (hcs : cells ≤ room_1.cells ∧ slots ≤ room_1.slots) (hX : va_X b L xs s s.heap) (hbl : b < s.heap.size) (hbA : ¬ adA G b) {K : Int32 → Mem → Option (Int32 × Mem)} (ih : ∀ (i : Int32) (M : Mem) (H : Heap) (locs : List Loc) (ls : Array Slot), Wd G M H → va_S (adA G) s.heap H locs → lv_has ls 4 [(0, .ref b), (1, .ref (G.2.2.1 0)), (2, .ref (G.2.2.1 139)), (3, .int i)] → K i M = some ((1 : Int32), Mr) → W p l e room_1 s m args below meth c H locs cells slots Q (F0 m 18 ls [])) : ∀ (i : Int32) (M : Mem) (H : Heap) (locs : List Loc) (ls : Array Slot), Wd G M H → va_S (adA G) s.heap H locs → lv_has ls 4 [(0, .ref b), (1, .ref (G.2.2.1 0)), (2, .ref (G.2.2.1 139)), (3, .int i)] → f_law_c9 xs L K i M = some ((1 : Int32), Mr) → W p l e room_1 s m args below meth c H locs cells slots Q (F0 m 493 ls []) := by
  intro i M H locs ls hW hS hl hf
  have hx := hB.x
  have hb := hB.b
  unfold f_law_c9 at hf
  refine lv_aload_n hx hb dL_law_493 rfl (lv_at hl 1 rfl) ?_
  refine lv_aload_n hx hb dL_law_494 rfl (lv_at hl 0 rfl) ?_
  refine lv_iload_n hx hb dL_law_495 rfl (lv_at hl 3 rfl) ?_
  refine lv_iconst (v := (1 : Int32)) hx hb dL_law_496 (by decide) ?_
  refine lv_iadd hx hb dL_law_497 ?_
  obtain ⟨h1, hf⟩ := g_o hf
  refine va_sld hx hb hX hbl hbA hS h1 dL_law_498 ?_
  obtain ⟨x2, M3, hg4, hf⟩ := b_o2 hf
  refine x_ci hB (x_rv hB hW hS (As := [.int (xs ((i + (1 : Int32)) : Int32).toNatClampNeg)]) (rest := []) (ct_X8_tolerance l G hg4) (cl_RL_54 hB.2.2.2.2.1 ⟨Nat.le_of_ble_eq_true rfl, Nat.le_of_ble_eq_true rfl⟩) tl0 (by decide) rfl rfl hl.1 rfl (Nat.le_of_ble_eq_true rfl) dL_law_499 hcs) hS (fun H locs hW hS => ?_)
  refine lv_aload_n hx hb dL_law_502 rfl (lv_at hl 2 rfl) ?_
  refine lv_aload_n hx hb dL_law_503 rfl (lv_at hl 0 rfl) ?_
  refine lv_iload_n hx hb dL_law_504 rfl (lv_at hl 3 rfl) ?_
  refine lv_iconst (v := (1 : Int32)) hx hb dL_law_505 (by decide) ?_
  refine lv_iadd hx hb dL_law_506 ?_
  obtain ⟨h5, hf⟩ := g_o hf
  refine va_sld hx hb hX hbl hbA hS h5 dL_law_507 ?_
  obtain ⟨x6, M7, hg8, hf⟩ := b_o2 hf
  refine x_ci hB (x_rv hB hW hS (As := [.int (xs ((i + (1 : Int32)) : Int32).toNatClampNeg)]) (rest := [.int x2]) (ct_X9_tolerance l G hg8) (cl_RL_57 hB.2.2.2.2.1 ⟨Nat.le_of_ble_eq_true rfl, Nat.le_of_ble_eq_true rfl⟩) tl139 (by decide) rfl rfl hl.1 rfl (Nat.le_of_ble_eq_true rfl) dL_law_508 hcs) hS (fun H locs hW hS => ?_)
  refine lv_icmp_eq (tgt := 1294) hx hb dL_law_511 (by decide) (fun c9 => ?_) (fun c9 => ?_)
  · have hf := i_t hf c9
    obtain ⟨x10, ex10⟩ : ∃ y : Int32, y = i + (5 : Int32) := ⟨_, rfl⟩
    have hf := nm_o hf ex10
    refine lv_iinc (v := x10) (lv' := [(3, .int x10), (0, .ref b), (1, .ref (G.2.2.1 0)), (2, .ref (G.2.2.1 139))]) hx hb dL_law_1294 hl (k := 3) rfl (by rw [ex10]; rfl) (by decide) rfl (fun ls hl => ?_)
    refine lv_goto (tgt := 18) hx hb dL_law_1297 (by decide) ?_
    exact ih x10 M7 _ _ ls hW hS (lv_sub hl [1, 2, 3, 0] rfl) hf
  · have hf := i_f hf c9
    refine lv_iconst (v := (0 : Int32)) hx hb dL_law_514 (by decide) ?_
    exact absurd (show (0 : Int32) = 1 from s_1 hf) (by decide)
def f_law_c10 (xs : Nat → Int32) (L : Nat) (K : Int32 → Mem → Option (Int32 × Mem)) (i : Int32) (M : Mem) : Option (Int32 × Mem) := (gq (inB (i + (1 : Int32)) L) (bq2 (f_X8_hyphen (xs ((i + (1 : Int32)) : Int32).toNatClampNeg) M) (fun (x2 : Int32) (M3 : Mem) => gq (inB (i + (1 : Int32)) L) (bq2 (f_X9_hyphen (xs ((i + (1 : Int32)) : Int32).toNatClampNeg) M3) (fun (x6 : Int32) (M7 : Mem) => (if x2 = x6 then (nmq (i + (5 : Int32)) (fun (x10 : Int32) => (K x10 M7))) else some ((0 : Int32), M7)))))))
set_option maxHeartbeats 4000000 in
set_option maxRecDepth 100000 in
theorem law_c10 {p : Program} {l : Launch} {e : Env} {s : State} {m : MethodId} {args : Array Value} {below : List Frame} {meth : Method} {c : Code} {cells slots : Nat} {Q : State → Prop} {G : GG} {b L : Nat} {xs : Nat → Int32} {Mr : Mem} (hB : BX p s m args c cL_law 4 RL G) (hcs : cells ≤ room_1.cells ∧ slots ≤ room_1.slots) (hX : va_X b L xs s s.heap) (hbl : b < s.heap.size) (hbA : ¬ adA G b) {K : Int32 → Mem → Option (Int32 × Mem)} (ih : ∀ (i : Int32) (M : Mem) (H : Heap) (locs : List Loc) (ls : Array Slot), Wd G M H → va_S (adA G) s.heap H locs → lv_has ls 4 [(0, .ref b), (1, .ref (G.2.2.1 0)), (2, .ref (G.2.2.1 139)), (3, .int i)] → K i M = some ((1 : Int32), Mr) → W p l e room_1 s m args below meth c H locs cells slots Q (F0 m 18 ls [])) : ∀ (i : Int32) (M : Mem) (H : Heap) (locs : List Loc) (ls : Array Slot), Wd G M H → va_S (adA G) s.heap H locs → lv_has ls 4 [(0, .ref b), (1, .ref (G.2.2.1 0)), (2, .ref (G.2.2.1 139)), (3, .int i)] → f_law_c10 xs L K i M = some ((1 : Int32), Mr) → W p l e room_1 s m args below meth c H locs cells slots Q (F0 m 516 ls []) := by
  intro i M H locs ls hW hS hl hf
  have hx := hB.x
  have hb := hB.b
  unfold f_law_c10 at hf
  refine lv_aload_n hx hb dL_law_516 rfl (lv_at hl 1 rfl) ?_
  refine lv_aload_n hx hb dL_law_517 rfl (lv_at hl 0 rfl) ?_
  refine lv_iload_n hx hb dL_law_518 rfl (lv_at hl 3 rfl) ?_
  refine lv_iconst (v := (1 : Int32)) hx hb dL_law_519 (by decide) ?_
  refine lv_iadd hx hb dL_law_520 ?_
  obtain ⟨h1, hf⟩ := g_o hf
  refine va_sld hx hb hX hbl hbA hS h1 dL_law_521 ?_
  obtain ⟨x2, M3, hg4, hf⟩ := b_o2 hf
  refine x_ci hB (x_rv hB hW hS (As := [.int (xs ((i + (1 : Int32)) : Int32).toNatClampNeg)]) (rest := []) (ct_X8_hyphen l G hg4) (cl_RL_58 hB.2.2.2.2.1 ⟨Nat.le_of_ble_eq_true rfl, Nat.le_of_ble_eq_true rfl⟩) tl0 (by decide) rfl rfl hl.1 rfl (Nat.le_of_ble_eq_true rfl) dL_law_522 hcs) hS (fun H locs hW hS => ?_)
  refine lv_aload_n hx hb dL_law_525 rfl (lv_at hl 2 rfl) ?_
  refine lv_aload_n hx hb dL_law_526 rfl (lv_at hl 0 rfl) ?_
  refine lv_iload_n hx hb dL_law_527 rfl (lv_at hl 3 rfl) ?_
  refine lv_iconst (v := (1 : Int32)) hx hb dL_law_528 (by decide) ?_
  refine lv_iadd hx hb dL_law_529 ?_
  obtain ⟨h5, hf⟩ := g_o hf
  refine va_sld hx hb hX hbl hbA hS h5 dL_law_530 ?_
  obtain ⟨x6, M7, hg8, hf⟩ := b_o2 hf
  refine x_ci hB (x_rv hB hW hS (As := [.int (xs ((i + (1 : Int32)) : Int32).toNatClampNeg)]) (rest := [.int x2]) (ct_X9_hyphen l G hg8) (cl_RL_61 hB.2.2.2.2.1 ⟨Nat.le_of_ble_eq_true rfl, Nat.le_of_ble_eq_true rfl⟩) tl139 (by decide) rfl rfl hl.1 rfl (Nat.le_of_ble_eq_true rfl) dL_law_531 hcs) hS (fun H locs hW hS => ?_)
  refine lv_icmp_eq (tgt := 1294) hx hb dL_law_534 (by decide) (fun c9 => ?_) (fun c9 => ?_)
  · have hf := i_t hf c9
    obtain ⟨x10, ex10⟩ : ∃ y : Int32, y = i + (5 : Int32) := ⟨_, rfl⟩
    have hf := nm_o hf ex10
    refine lv_iinc (v := x10) (lv' := [(3, .int x10), (0, .ref b), (1, .ref (G.2.2.1 0)), (2, .ref (G.2.2.1 139))]) hx hb dL_law_1294 hl (k := 3) rfl (by rw [ex10]; rfl) (by decide) rfl (fun ls hl => ?_)
    refine lv_goto (tgt := 18) hx hb dL_law_1297 (by decide) ?_
    exact ih x10 M7 _ _ ls hW hS (lv_sub hl [1, 2, 3, 0] rfl) hf
  · have hf := i_f hf c9
    refine lv_iconst (v := (0 : Int32)) hx hb dL_law_537 (by decide) ?_
    exact absurd (show (0 : Int32) = 1 from s_1 hf) (by decide)
def f_law_c11 (xs : Nat → Int32) (L : Nat) (K : Int32 → Mem → Option (Int32 × Mem)) (i : Int32) (M : Mem) : Option (Int32 × Mem) := (gq (inB (i + (1 : Int32)) L) (bq2 (f_X8_widow (xs ((i + (1 : Int32)) : Int32).toNatClampNeg) M) (fun (x2 : Int32) (M3 : Mem) => gq (inB (i + (1 : Int32)) L) (bq2 (f_X9_widow (xs ((i + (1 : Int32)) : Int32).toNatClampNeg) M3) (fun (x6 : Int32) (M7 : Mem) => (if x2 = x6 then (nmq (i + (5 : Int32)) (fun (x10 : Int32) => (K x10 M7))) else some ((0 : Int32), M7)))))))
set_option maxHeartbeats 4000000 in
set_option maxRecDepth 100000 in
theorem law_c11 {p : Program} {l : Launch} {e : Env} {s : State} {m : MethodId} {args : Array Value} {below : List Frame} {meth : Method} {c : Code} {cells slots : Nat} {Q : State → Prop} {G : GG} {b L : Nat} {xs : Nat → Int32} {Mr : Mem} (hB : BX p s m args c cL_law 4 RL G) (hcs : cells ≤ room_1.cells ∧ slots ≤ room_1.slots) (hX : va_X b L xs s s.heap) (hbl : b < s.heap.size) (hbA : ¬ adA G b) {K : Int32 → Mem → Option (Int32 × Mem)} (ih : ∀ (i : Int32) (M : Mem) (H : Heap) (locs : List Loc) (ls : Array Slot), Wd G M H → va_S (adA G) s.heap H locs → lv_has ls 4 [(0, .ref b), (1, .ref (G.2.2.1 0)), (2, .ref (G.2.2.1 139)), (3, .int i)] → K i M = some ((1 : Int32), Mr) → W p l e room_1 s m args below meth c H locs cells slots Q (F0 m 18 ls [])) : ∀ (i : Int32) (M : Mem) (H : Heap) (locs : List Loc) (ls : Array Slot), Wd G M H → va_S (adA G) s.heap H locs → lv_has ls 4 [(0, .ref b), (1, .ref (G.2.2.1 0)), (2, .ref (G.2.2.1 139)), (3, .int i)] → f_law_c11 xs L K i M = some ((1 : Int32), Mr) → W p l e room_1 s m args below meth c H locs cells slots Q (F0 m 539 ls []) := by
  intro i M H locs ls hW hS hl hf
  have hx := hB.x
  have hb := hB.b
  unfold f_law_c11 at hf
  refine lv_aload_n hx hb dL_law_539 rfl (lv_at hl 1 rfl) ?_
  refine lv_aload_n hx hb dL_law_540 rfl (lv_at hl 0 rfl) ?_
  refine lv_iload_n hx hb dL_law_541 rfl (lv_at hl 3 rfl) ?_
  refine lv_iconst (v := (1 : Int32)) hx hb dL_law_542 (by decide) ?_
  refine lv_iadd hx hb dL_law_543 ?_
  obtain ⟨h1, hf⟩ := g_o hf
  refine va_sld hx hb hX hbl hbA hS h1 dL_law_544 ?_
  obtain ⟨x2, M3, hg4, hf⟩ := b_o2 hf
  refine x_ci hB (x_rv hB hW hS (As := [.int (xs ((i + (1 : Int32)) : Int32).toNatClampNeg)]) (rest := []) (ct_X8_widow l G hg4) (cl_RL_62 hB.2.2.2.2.1 ⟨Nat.le_of_ble_eq_true rfl, Nat.le_of_ble_eq_true rfl⟩) tl0 (by decide) rfl rfl hl.1 rfl (Nat.le_of_ble_eq_true rfl) dL_law_545 hcs) hS (fun H locs hW hS => ?_)
  refine lv_aload_n hx hb dL_law_548 rfl (lv_at hl 2 rfl) ?_
  refine lv_aload_n hx hb dL_law_549 rfl (lv_at hl 0 rfl) ?_
  refine lv_iload_n hx hb dL_law_550 rfl (lv_at hl 3 rfl) ?_
  refine lv_iconst (v := (1 : Int32)) hx hb dL_law_551 (by decide) ?_
  refine lv_iadd hx hb dL_law_552 ?_
  obtain ⟨h5, hf⟩ := g_o hf
  refine va_sld hx hb hX hbl hbA hS h5 dL_law_553 ?_
  obtain ⟨x6, M7, hg8, hf⟩ := b_o2 hf
  refine x_ci hB (x_rv hB hW hS (As := [.int (xs ((i + (1 : Int32)) : Int32).toNatClampNeg)]) (rest := [.int x2]) (ct_X9_widow l G hg8) (cl_RL_65 hB.2.2.2.2.1 ⟨Nat.le_of_ble_eq_true rfl, Nat.le_of_ble_eq_true rfl⟩) tl139 (by decide) rfl rfl hl.1 rfl (Nat.le_of_ble_eq_true rfl) dL_law_554 hcs) hS (fun H locs hW hS => ?_)
  refine lv_icmp_eq (tgt := 1294) hx hb dL_law_557 (by decide) (fun c9 => ?_) (fun c9 => ?_)
  · have hf := i_t hf c9
    obtain ⟨x10, ex10⟩ : ∃ y : Int32, y = i + (5 : Int32) := ⟨_, rfl⟩
    have hf := nm_o hf ex10
    refine lv_iinc (v := x10) (lv' := [(3, .int x10), (0, .ref b), (1, .ref (G.2.2.1 0)), (2, .ref (G.2.2.1 139))]) hx hb dL_law_1294 hl (k := 3) rfl (by rw [ex10]; rfl) (by decide) rfl (fun ls hl => ?_)
    refine lv_goto (tgt := 18) hx hb dL_law_1297 (by decide) ?_
    exact ih x10 M7 _ _ ls hW hS (lv_sub hl [1, 2, 3, 0] rfl) hf
  · have hf := i_f hf c9
    refine lv_iconst (v := (0 : Int32)) hx hb dL_law_560 (by decide) ?_
    exact absurd (show (0 : Int32) = 1 from s_1 hf) (by decide)
def f_law_c12 (xs : Nat → Int32) (L : Nat) (K : Int32 → Mem → Option (Int32 × Mem)) (i : Int32) (M : Mem) : Option (Int32 × Mem) := (gq (inB (i + (1 : Int32)) L) (bq2 (f_X8_manner (xs ((i + (1 : Int32)) : Int32).toNatClampNeg) M) (fun (x2 : Int32) (M3 : Mem) => gq (inB (i + (1 : Int32)) L) (bq2 (f_X9_manner (xs ((i + (1 : Int32)) : Int32).toNatClampNeg) M3) (fun (x6 : Int32) (M7 : Mem) => (if x2 = x6 then (nmq (i + (5 : Int32)) (fun (x10 : Int32) => (K x10 M7))) else some ((0 : Int32), M7)))))))
set_option maxHeartbeats 4000000 in
set_option maxRecDepth 100000 in
theorem law_c12 {p : Program} {l : Launch} {e : Env} {s : State} {m : MethodId} {args : Array Value} {below : List Frame} {meth : Method} {c : Code} {cells slots : Nat} {Q : State → Prop} {G : GG} {b L : Nat} {xs : Nat → Int32} {Mr : Mem} (hB : BX p s m args c cL_law 4 RL G) (hcs : cells ≤ room_1.cells ∧ slots ≤ room_1.slots) (hX : va_X b L xs s s.heap) (hbl : b < s.heap.size) (hbA : ¬ adA G b) {K : Int32 → Mem → Option (Int32 × Mem)} (ih : ∀ (i : Int32) (M : Mem) (H : Heap) (locs : List Loc) (ls : Array Slot), Wd G M H → va_S (adA G) s.heap H locs → lv_has ls 4 [(0, .ref b), (1, .ref (G.2.2.1 0)), (2, .ref (G.2.2.1 139)), (3, .int i)] → K i M = some ((1 : Int32), Mr) → W p l e room_1 s m args below meth c H locs cells slots Q (F0 m 18 ls [])) : ∀ (i : Int32) (M : Mem) (H : Heap) (locs : List Loc) (ls : Array Slot), Wd G M H → va_S (adA G) s.heap H locs → lv_has ls 4 [(0, .ref b), (1, .ref (G.2.2.1 0)), (2, .ref (G.2.2.1 139)), (3, .int i)] → f_law_c12 xs L K i M = some ((1 : Int32), Mr) → W p l e room_1 s m args below meth c H locs cells slots Q (F0 m 562 ls []) := by
  intro i M H locs ls hW hS hl hf
  have hx := hB.x
  have hb := hB.b
  unfold f_law_c12 at hf
  refine lv_aload_n hx hb dL_law_562 rfl (lv_at hl 1 rfl) ?_
  refine lv_aload_n hx hb dL_law_563 rfl (lv_at hl 0 rfl) ?_
  refine lv_iload_n hx hb dL_law_564 rfl (lv_at hl 3 rfl) ?_
  refine lv_iconst (v := (1 : Int32)) hx hb dL_law_565 (by decide) ?_
  refine lv_iadd hx hb dL_law_566 ?_
  obtain ⟨h1, hf⟩ := g_o hf
  refine va_sld hx hb hX hbl hbA hS h1 dL_law_567 ?_
  obtain ⟨x2, M3, hg4, hf⟩ := b_o2 hf
  refine x_ci hB (x_rv hB hW hS (As := [.int (xs ((i + (1 : Int32)) : Int32).toNatClampNeg)]) (rest := []) (ct_X8_manner l G hg4) (cl_RL_66 hB.2.2.2.2.1 ⟨Nat.le_of_ble_eq_true rfl, Nat.le_of_ble_eq_true rfl⟩) tl0 (by decide) rfl rfl hl.1 rfl (Nat.le_of_ble_eq_true rfl) dL_law_568 hcs) hS (fun H locs hW hS => ?_)
  refine lv_aload_n hx hb dL_law_571 rfl (lv_at hl 2 rfl) ?_
  refine lv_aload_n hx hb dL_law_572 rfl (lv_at hl 0 rfl) ?_
  refine lv_iload_n hx hb dL_law_573 rfl (lv_at hl 3 rfl) ?_
  refine lv_iconst (v := (1 : Int32)) hx hb dL_law_574 (by decide) ?_
  refine lv_iadd hx hb dL_law_575 ?_
  obtain ⟨h5, hf⟩ := g_o hf
  refine va_sld hx hb hX hbl hbA hS h5 dL_law_576 ?_
  obtain ⟨x6, M7, hg8, hf⟩ := b_o2 hf
  refine x_ci hB (x_rv hB hW hS (As := [.int (xs ((i + (1 : Int32)) : Int32).toNatClampNeg)]) (rest := [.int x2]) (ct_X9_manner l G hg8) (cl_RL_69 hB.2.2.2.2.1 ⟨Nat.le_of_ble_eq_true rfl, Nat.le_of_ble_eq_true rfl⟩) tl139 (by decide) rfl rfl hl.1 rfl (Nat.le_of_ble_eq_true rfl) dL_law_577 hcs) hS (fun H locs hW hS => ?_)
  refine lv_icmp_eq (tgt := 1294) hx hb dL_law_580 (by decide) (fun c9 => ?_) (fun c9 => ?_)
  · have hf := i_t hf c9
    obtain ⟨x10, ex10⟩ : ∃ y : Int32, y = i + (5 : Int32) := ⟨_, rfl⟩
    have hf := nm_o hf ex10
    refine lv_iinc (v := x10) (lv' := [(3, .int x10), (0, .ref b), (1, .ref (G.2.2.1 0)), (2, .ref (G.2.2.1 139))]) hx hb dL_law_1294 hl (k := 3) rfl (by rw [ex10]; rfl) (by decide) rfl (fun ls hl => ?_)
    refine lv_goto (tgt := 18) hx hb dL_law_1297 (by decide) ?_
    exact ih x10 M7 _ _ ls hW hS (lv_sub hl [1, 2, 3, 0] rfl) hf
  · have hf := i_f hf c9
    refine lv_iconst (v := (0 : Int32)) hx hb dL_law_583 (by decide) ?_
    exact absurd (show (0 : Int32) = 1 from s_1 hf) (by decide)
def f_law_c13 (xs : Nat → Int32) (L : Nat) (K : Int32 → Mem → Option (Int32 × Mem)) (i : Int32) (M : Mem) : Option (Int32 × Mem) := (gq (inB (i + (1 : Int32)) L) (gq (inB (i + (2 : Int32)) L) (bq2 (f_X8_kind (xs ((i + (1 : Int32)) : Int32).toNatClampNeg) (xs ((i + (2 : Int32)) : Int32).toNatClampNeg) M) (fun (x3 : Int32) (M4 : Mem) => gq (inB (i + (1 : Int32)) L) (gq (inB (i + (2 : Int32)) L) (bq2 (f_X9_kind (xs ((i + (1 : Int32)) : Int32).toNatClampNeg) (xs ((i + (2 : Int32)) : Int32).toNatClampNeg) M4) (fun (x8 : Int32) (M9 : Mem) => (if x3 = x8 then (nmq (i + (5 : Int32)) (fun (x12 : Int32) => (K x12 M9))) else some ((0 : Int32), M9)))))))))
set_option maxHeartbeats 4000000 in
set_option maxRecDepth 100000 in
theorem law_c13 {p : Program} {l : Launch} {e : Env} {s : State} {m : MethodId} {args : Array Value} {below : List Frame} {meth : Method} {c : Code} {cells slots : Nat} {Q : State → Prop} {G : GG} {b L : Nat} {xs : Nat → Int32} {Mr : Mem} (hB : BX p s m args c cL_law 4 RL G) (hcs : cells ≤ room_1.cells ∧ slots ≤ room_1.slots) (hX : va_X b L xs s s.heap) (hbl : b < s.heap.size) (hbA : ¬ adA G b) {K : Int32 → Mem → Option (Int32 × Mem)} (ih : ∀ (i : Int32) (M : Mem) (H : Heap) (locs : List Loc) (ls : Array Slot), Wd G M H → va_S (adA G) s.heap H locs → lv_has ls 4 [(0, .ref b), (1, .ref (G.2.2.1 0)), (2, .ref (G.2.2.1 139)), (3, .int i)] → K i M = some ((1 : Int32), Mr) → W p l e room_1 s m args below meth c H locs cells slots Q (F0 m 18 ls [])) : ∀ (i : Int32) (M : Mem) (H : Heap) (locs : List Loc) (ls : Array Slot), Wd G M H → va_S (adA G) s.heap H locs → lv_has ls 4 [(0, .ref b), (1, .ref (G.2.2.1 0)), (2, .ref (G.2.2.1 139)), (3, .int i)] → f_law_c13 xs L K i M = some ((1 : Int32), Mr) → W p l e room_1 s m args below meth c H locs cells slots Q (F0 m 585 ls []) := by
  intro i M H locs ls hW hS hl hf
  have hx := hB.x
  have hb := hB.b
  unfold f_law_c13 at hf
  refine lv_aload_n hx hb dL_law_585 rfl (lv_at hl 1 rfl) ?_
  refine lv_aload_n hx hb dL_law_586 rfl (lv_at hl 0 rfl) ?_
  refine lv_iload_n hx hb dL_law_587 rfl (lv_at hl 3 rfl) ?_
  refine lv_iconst (v := (1 : Int32)) hx hb dL_law_588 (by decide) ?_
  refine lv_iadd hx hb dL_law_589 ?_
  obtain ⟨h1, hf⟩ := g_o hf
  refine va_sld hx hb hX hbl hbA hS h1 dL_law_590 ?_
  refine lv_aload_n hx hb dL_law_591 rfl (lv_at hl 0 rfl) ?_
  refine lv_iload_n hx hb dL_law_592 rfl (lv_at hl 3 rfl) ?_
  refine lv_iconst (v := (2 : Int32)) hx hb dL_law_593 (by decide) ?_
  refine lv_iadd hx hb dL_law_594 ?_
  obtain ⟨h2, hf⟩ := g_o hf
  refine va_sld hx hb hX hbl hbA hS h2 dL_law_595 ?_
  obtain ⟨x3, M4, hg5, hf⟩ := b_o2 hf
  refine x_ci hB (x_rv hB hW hS (As := [.int (xs ((i + (1 : Int32)) : Int32).toNatClampNeg), .int (xs ((i + (2 : Int32)) : Int32).toNatClampNeg)]) (rest := []) (ct_X8_kind l G hg5) (cl_RL_70 hB.2.2.2.2.1 ⟨Nat.le_of_ble_eq_true rfl, Nat.le_of_ble_eq_true rfl⟩) tl0 (by decide) rfl rfl hl.1 rfl (Nat.le_of_ble_eq_true rfl) dL_law_596 hcs) hS (fun H locs hW hS => ?_)
  refine lv_aload_n hx hb dL_law_599 rfl (lv_at hl 2 rfl) ?_
  refine lv_aload_n hx hb dL_law_600 rfl (lv_at hl 0 rfl) ?_
  refine lv_iload_n hx hb dL_law_601 rfl (lv_at hl 3 rfl) ?_
  refine lv_iconst (v := (1 : Int32)) hx hb dL_law_602 (by decide) ?_
  refine lv_iadd hx hb dL_law_603 ?_
  obtain ⟨h6, hf⟩ := g_o hf
  refine va_sld hx hb hX hbl hbA hS h6 dL_law_604 ?_
  refine lv_aload_n hx hb dL_law_605 rfl (lv_at hl 0 rfl) ?_
  refine lv_iload_n hx hb dL_law_606 rfl (lv_at hl 3 rfl) ?_
  refine lv_iconst (v := (2 : Int32)) hx hb dL_law_607 (by decide) ?_
  refine lv_iadd hx hb dL_law_608 ?_
  obtain ⟨h7, hf⟩ := g_o hf
  refine va_sld hx hb hX hbl hbA hS h7 dL_law_609 ?_
  obtain ⟨x8, M9, hg10, hf⟩ := b_o2 hf
  refine x_ci hB (x_rv hB hW hS (As := [.int (xs ((i + (1 : Int32)) : Int32).toNatClampNeg), .int (xs ((i + (2 : Int32)) : Int32).toNatClampNeg)]) (rest := [.int x3]) (ct_X9_kind l G hg10) (cl_RL_73 hB.2.2.2.2.1 ⟨Nat.le_of_ble_eq_true rfl, Nat.le_of_ble_eq_true rfl⟩) tl139 (by decide) rfl rfl hl.1 rfl (Nat.le_of_ble_eq_true rfl) dL_law_610 hcs) hS (fun H locs hW hS => ?_)
  refine lv_icmp_eq (tgt := 1294) hx hb dL_law_613 (by decide) (fun c11 => ?_) (fun c11 => ?_)
  · have hf := i_t hf c11
    obtain ⟨x12, ex12⟩ : ∃ y : Int32, y = i + (5 : Int32) := ⟨_, rfl⟩
    have hf := nm_o hf ex12
    refine lv_iinc (v := x12) (lv' := [(3, .int x12), (0, .ref b), (1, .ref (G.2.2.1 0)), (2, .ref (G.2.2.1 139))]) hx hb dL_law_1294 hl (k := 3) rfl (by rw [ex12]; rfl) (by decide) rfl (fun ls hl => ?_)
    refine lv_goto (tgt := 18) hx hb dL_law_1297 (by decide) ?_
    exact ih x12 M9 _ _ ls hW hS (lv_sub hl [1, 2, 3, 0] rfl) hf
  · have hf := i_f hf c11
    refine lv_iconst (v := (0 : Int32)) hx hb dL_law_616 (by decide) ?_
    exact absurd (show (0 : Int32) = 1 from s_1 hf) (by decide)
def f_law_c14 (xs : Nat → Int32) (L : Nat) (K : Int32 → Mem → Option (Int32 × Mem)) (i : Int32) (M : Mem) : Option (Int32 × Mem) := (bq2 (f_X8_back M) (fun (x1 : Int32) (M2 : Mem) => bq2 (f_X9_back M2) (fun (x4 : Int32) (M5 : Mem) => (if x1 = x4 then (nmq (i + (5 : Int32)) (fun (x8 : Int32) => (K x8 M5))) else some ((0 : Int32), M5)))))
set_option maxHeartbeats 4000000 in
set_option maxRecDepth 100000 in
theorem law_c14 {p : Program} {l : Launch} {e : Env} {s : State} {m : MethodId} {args : Array Value} {below : List Frame} {meth : Method} {c : Code} {cells slots : Nat} {Q : State → Prop} {G : GG} {b L : Nat} {xs : Nat → Int32} {Mr : Mem} (hB : BX p s m args c cL_law 4 RL G) (hcs : cells ≤ room_1.cells ∧ slots ≤ room_1.slots) (hX : va_X b L xs s s.heap) (hbl : b < s.heap.size) (hbA : ¬ adA G b) {K : Int32 → Mem → Option (Int32 × Mem)} (ih : ∀ (i : Int32) (M : Mem) (H : Heap) (locs : List Loc) (ls : Array Slot), Wd G M H → va_S (adA G) s.heap H locs → lv_has ls 4 [(0, .ref b), (1, .ref (G.2.2.1 0)), (2, .ref (G.2.2.1 139)), (3, .int i)] → K i M = some ((1 : Int32), Mr) → W p l e room_1 s m args below meth c H locs cells slots Q (F0 m 18 ls [])) : ∀ (i : Int32) (M : Mem) (H : Heap) (locs : List Loc) (ls : Array Slot), Wd G M H → va_S (adA G) s.heap H locs → lv_has ls 4 [(0, .ref b), (1, .ref (G.2.2.1 0)), (2, .ref (G.2.2.1 139)), (3, .int i)] → f_law_c14 xs L K i M = some ((1 : Int32), Mr) → W p l e room_1 s m args below meth c H locs cells slots Q (F0 m 618 ls []) := by
  intro i M H locs ls hW hS hl hf
  have hx := hB.x
  have hb := hB.b
  unfold f_law_c14 at hf
  refine lv_aload_n hx hb dL_law_618 rfl (lv_at hl 1 rfl) ?_
  obtain ⟨x1, M2, hg3, hf⟩ := b_o2 hf
  refine x_ci hB (x_rv hB hW hS (As := []) (rest := []) (ct_X8_back l G hg3) (cl_RL_74 hB.2.2.2.2.1 ⟨Nat.le_of_ble_eq_true rfl, Nat.le_of_ble_eq_true rfl⟩) tl0 (by decide) rfl rfl hl.1 rfl (Nat.le_of_ble_eq_true rfl) dL_law_619 hcs) hS (fun H locs hW hS => ?_)
  refine lv_aload_n hx hb dL_law_622 rfl (lv_at hl 2 rfl) ?_
  obtain ⟨x4, M5, hg6, hf⟩ := b_o2 hf
  refine x_ci hB (x_rv hB hW hS (As := []) (rest := [.int x1]) (ct_X9_back l G hg6) (cl_RL_77 hB.2.2.2.2.1 ⟨Nat.le_of_ble_eq_true rfl, Nat.le_of_ble_eq_true rfl⟩) tl139 (by decide) rfl rfl hl.1 rfl (Nat.le_of_ble_eq_true rfl) dL_law_623 hcs) hS (fun H locs hW hS => ?_)
  refine lv_icmp_eq (tgt := 1294) hx hb dL_law_626 (by decide) (fun c7 => ?_) (fun c7 => ?_)
  · have hf := i_t hf c7
    obtain ⟨x8, ex8⟩ : ∃ y : Int32, y = i + (5 : Int32) := ⟨_, rfl⟩
    have hf := nm_o hf ex8
    refine lv_iinc (v := x8) (lv' := [(3, .int x8), (0, .ref b), (1, .ref (G.2.2.1 0)), (2, .ref (G.2.2.1 139))]) hx hb dL_law_1294 hl (k := 3) rfl (by rw [ex8]; rfl) (by decide) rfl (fun ls hl => ?_)
    refine lv_goto (tgt := 18) hx hb dL_law_1297 (by decide) ?_
    exact ih x8 M5 _ _ ls hW hS (lv_sub hl [1, 2, 3, 0] rfl) hf
  · have hf := i_f hf c7
    refine lv_iconst (v := (0 : Int32)) hx hb dL_law_629 (by decide) ?_
    exact absurd (show (0 : Int32) = 1 from s_1 hf) (by decide)
def f_law_c15 (xs : Nat → Int32) (L : Nat) (K : Int32 → Mem → Option (Int32 × Mem)) (i : Int32) (M : Mem) : Option (Int32 × Mem) := (gq (inB (i + (1 : Int32)) L) (gq (inB (i + (2 : Int32)) L) (bq2 (f_X8_word (xs ((i + (1 : Int32)) : Int32).toNatClampNeg) (xs ((i + (2 : Int32)) : Int32).toNatClampNeg) M) (fun (x3 : Int32) (M4 : Mem) => gq (inB (i + (1 : Int32)) L) (gq (inB (i + (2 : Int32)) L) (bq2 (f_X9_word (xs ((i + (1 : Int32)) : Int32).toNatClampNeg) (xs ((i + (2 : Int32)) : Int32).toNatClampNeg) M4) (fun (x8 : Int32) (M9 : Mem) => (if x3 = x8 then (nmq (i + (5 : Int32)) (fun (x12 : Int32) => (K x12 M9))) else some ((0 : Int32), M9)))))))))
set_option maxHeartbeats 4000000 in
set_option maxRecDepth 100000 in
theorem law_c15 {p : Program} {l : Launch} {e : Env} {s : State} {m : MethodId} {args : Array Value} {below : List Frame} {meth : Method} {c : Code} {cells slots : Nat} {Q : State → Prop} {G : GG} {b L : Nat} {xs : Nat → Int32} {Mr : Mem} (hB : BX p s m args c cL_law 4 RL G) (hcs : cells ≤ room_1.cells ∧ slots ≤ room_1.slots) (hX : va_X b L xs s s.heap) (hbl : b < s.heap.size) (hbA : ¬ adA G b) {K : Int32 → Mem → Option (Int32 × Mem)} (ih : ∀ (i : Int32) (M : Mem) (H : Heap) (locs : List Loc) (ls : Array Slot), Wd G M H → va_S (adA G) s.heap H locs → lv_has ls 4 [(0, .ref b), (1, .ref (G.2.2.1 0)), (2, .ref (G.2.2.1 139)), (3, .int i)] → K i M = some ((1 : Int32), Mr) → W p l e room_1 s m args below meth c H locs cells slots Q (F0 m 18 ls [])) : ∀ (i : Int32) (M : Mem) (H : Heap) (locs : List Loc) (ls : Array Slot), Wd G M H → va_S (adA G) s.heap H locs → lv_has ls 4 [(0, .ref b), (1, .ref (G.2.2.1 0)), (2, .ref (G.2.2.1 139)), (3, .int i)] → f_law_c15 xs L K i M = some ((1 : Int32), Mr) → W p l e room_1 s m args below meth c H locs cells slots Q (F0 m 631 ls []) := by
  intro i M H locs ls hW hS hl hf
  have hx := hB.x
  have hb := hB.b
  unfold f_law_c15 at hf
  refine lv_aload_n hx hb dL_law_631 rfl (lv_at hl 1 rfl) ?_
  refine lv_aload_n hx hb dL_law_632 rfl (lv_at hl 0 rfl) ?_
  refine lv_iload_n hx hb dL_law_633 rfl (lv_at hl 3 rfl) ?_
  refine lv_iconst (v := (1 : Int32)) hx hb dL_law_634 (by decide) ?_
  refine lv_iadd hx hb dL_law_635 ?_
  obtain ⟨h1, hf⟩ := g_o hf
  refine va_sld hx hb hX hbl hbA hS h1 dL_law_636 ?_
  refine lv_aload_n hx hb dL_law_637 rfl (lv_at hl 0 rfl) ?_
  refine lv_iload_n hx hb dL_law_638 rfl (lv_at hl 3 rfl) ?_
  refine lv_iconst (v := (2 : Int32)) hx hb dL_law_639 (by decide) ?_
  refine lv_iadd hx hb dL_law_640 ?_
  obtain ⟨h2, hf⟩ := g_o hf
  refine va_sld hx hb hX hbl hbA hS h2 dL_law_641 ?_
  obtain ⟨x3, M4, hg5, hf⟩ := b_o2 hf
  refine x_ci hB (x_rv hB hW hS (As := [.int (xs ((i + (1 : Int32)) : Int32).toNatClampNeg), .int (xs ((i + (2 : Int32)) : Int32).toNatClampNeg)]) (rest := []) (ct_X8_word l G hg5) (cl_RL_78 hB.2.2.2.2.1 ⟨Nat.le_of_ble_eq_true rfl, Nat.le_of_ble_eq_true rfl⟩) tl0 (by decide) rfl rfl hl.1 rfl (Nat.le_of_ble_eq_true rfl) dL_law_642 hcs) hS (fun H locs hW hS => ?_)
  refine lv_aload_n hx hb dL_law_645 rfl (lv_at hl 2 rfl) ?_
  refine lv_aload_n hx hb dL_law_646 rfl (lv_at hl 0 rfl) ?_
  refine lv_iload_n hx hb dL_law_647 rfl (lv_at hl 3 rfl) ?_
  refine lv_iconst (v := (1 : Int32)) hx hb dL_law_648 (by decide) ?_
  refine lv_iadd hx hb dL_law_649 ?_
  obtain ⟨h6, hf⟩ := g_o hf
  refine va_sld hx hb hX hbl hbA hS h6 dL_law_650 ?_
  refine lv_aload_n hx hb dL_law_651 rfl (lv_at hl 0 rfl) ?_
  refine lv_iload_n hx hb dL_law_652 rfl (lv_at hl 3 rfl) ?_
  refine lv_iconst (v := (2 : Int32)) hx hb dL_law_653 (by decide) ?_
  refine lv_iadd hx hb dL_law_654 ?_
  obtain ⟨h7, hf⟩ := g_o hf
  refine va_sld hx hb hX hbl hbA hS h7 dL_law_655 ?_
  obtain ⟨x8, M9, hg10, hf⟩ := b_o2 hf
  refine x_ci hB (x_rv hB hW hS (As := [.int (xs ((i + (1 : Int32)) : Int32).toNatClampNeg), .int (xs ((i + (2 : Int32)) : Int32).toNatClampNeg)]) (rest := [.int x3]) (ct_X9_word l G hg10) (cl_RL_81 hB.2.2.2.2.1 ⟨Nat.le_of_ble_eq_true rfl, Nat.le_of_ble_eq_true rfl⟩) tl139 (by decide) rfl rfl hl.1 rfl (Nat.le_of_ble_eq_true rfl) dL_law_656 hcs) hS (fun H locs hW hS => ?_)
  refine lv_icmp_eq (tgt := 1294) hx hb dL_law_659 (by decide) (fun c11 => ?_) (fun c11 => ?_)
  · have hf := i_t hf c11
    obtain ⟨x12, ex12⟩ : ∃ y : Int32, y = i + (5 : Int32) := ⟨_, rfl⟩
    have hf := nm_o hf ex12
    refine lv_iinc (v := x12) (lv' := [(3, .int x12), (0, .ref b), (1, .ref (G.2.2.1 0)), (2, .ref (G.2.2.1 139))]) hx hb dL_law_1294 hl (k := 3) rfl (by rw [ex12]; rfl) (by decide) rfl (fun ls hl => ?_)
    refine lv_goto (tgt := 18) hx hb dL_law_1297 (by decide) ?_
    exact ih x12 M9 _ _ ls hW hS (lv_sub hl [1, 2, 3, 0] rfl) hf
  · have hf := i_f hf c11
    refine lv_iconst (v := (0 : Int32)) hx hb dL_law_662 (by decide) ?_
    exact absurd (show (0 : Int32) = 1 from s_1 hf) (by decide)
def f_law_c16 (xs : Nat → Int32) (L : Nat) (K : Int32 → Mem → Option (Int32 × Mem)) (i : Int32) (M : Mem) : Option (Int32 × Mem) := (gq (inB (i + (1 : Int32)) L) (gq (inB (i + (2 : Int32)) L) (bq2 (f_X8_spelt (xs ((i + (1 : Int32)) : Int32).toNatClampNeg) (xs ((i + (2 : Int32)) : Int32).toNatClampNeg) M) (fun (x3 : Int32) (M4 : Mem) => gq (inB (i + (1 : Int32)) L) (gq (inB (i + (2 : Int32)) L) (bq2 (f_X9_spelt (xs ((i + (1 : Int32)) : Int32).toNatClampNeg) (xs ((i + (2 : Int32)) : Int32).toNatClampNeg) M4) (fun (x8 : Int32) (M9 : Mem) => (if x3 = x8 then (nmq (i + (5 : Int32)) (fun (x12 : Int32) => (K x12 M9))) else some ((0 : Int32), M9)))))))))
set_option maxHeartbeats 4000000 in
set_option maxRecDepth 100000 in
theorem law_c16 {p : Program} {l : Launch} {e : Env} {s : State} {m : MethodId} {args : Array Value} {below : List Frame} {meth : Method} {c : Code} {cells slots : Nat} {Q : State → Prop} {G : GG} {b L : Nat} {xs : Nat → Int32} {Mr : Mem} (hB : BX p s m args c cL_law 4 RL G) (hcs : cells ≤ room_1.cells ∧ slots ≤ room_1.slots) (hX : va_X b L xs s s.heap) (hbl : b < s.heap.size) (hbA : ¬ adA G b) {K : Int32 → Mem → Option (Int32 × Mem)} (ih : ∀ (i : Int32) (M : Mem) (H : Heap) (locs : List Loc) (ls : Array Slot), Wd G M H → va_S (adA G) s.heap H locs → lv_has ls 4 [(0, .ref b), (1, .ref (G.2.2.1 0)), (2, .ref (G.2.2.1 139)), (3, .int i)] → K i M = some ((1 : Int32), Mr) → W p l e room_1 s m args below meth c H locs cells slots Q (F0 m 18 ls [])) : ∀ (i : Int32) (M : Mem) (H : Heap) (locs : List Loc) (ls : Array Slot), Wd G M H → va_S (adA G) s.heap H locs → lv_has ls 4 [(0, .ref b), (1, .ref (G.2.2.1 0)), (2, .ref (G.2.2.1 139)), (3, .int i)] → f_law_c16 xs L K i M = some ((1 : Int32), Mr) → W p l e room_1 s m args below meth c H locs cells slots Q (F0 m 664 ls []) := by
  intro i M H locs ls hW hS hl hf
  have hx := hB.x
  have hb := hB.b
  unfold f_law_c16 at hf
  refine lv_aload_n hx hb dL_law_664 rfl (lv_at hl 1 rfl) ?_
  refine lv_aload_n hx hb dL_law_665 rfl (lv_at hl 0 rfl) ?_
  refine lv_iload_n hx hb dL_law_666 rfl (lv_at hl 3 rfl) ?_
  refine lv_iconst (v := (1 : Int32)) hx hb dL_law_667 (by decide) ?_
  refine lv_iadd hx hb dL_law_668 ?_
  obtain ⟨h1, hf⟩ := g_o hf
  refine va_sld hx hb hX hbl hbA hS h1 dL_law_669 ?_
  refine lv_aload_n hx hb dL_law_670 rfl (lv_at hl 0 rfl) ?_
  refine lv_iload_n hx hb dL_law_671 rfl (lv_at hl 3 rfl) ?_
  refine lv_iconst (v := (2 : Int32)) hx hb dL_law_672 (by decide) ?_
  refine lv_iadd hx hb dL_law_673 ?_
  obtain ⟨h2, hf⟩ := g_o hf
  refine va_sld hx hb hX hbl hbA hS h2 dL_law_674 ?_
  obtain ⟨x3, M4, hg5, hf⟩ := b_o2 hf
  refine x_ci hB (x_rv hB hW hS (As := [.int (xs ((i + (1 : Int32)) : Int32).toNatClampNeg), .int (xs ((i + (2 : Int32)) : Int32).toNatClampNeg)]) (rest := []) (ct_X8_spelt l G hg5) (cl_RL_82 hB.2.2.2.2.1 ⟨Nat.le_of_ble_eq_true rfl, Nat.le_of_ble_eq_true rfl⟩) tl0 (by decide) rfl rfl hl.1 rfl (Nat.le_of_ble_eq_true rfl) dL_law_675 hcs) hS (fun H locs hW hS => ?_)
  refine lv_aload_n hx hb dL_law_678 rfl (lv_at hl 2 rfl) ?_
  refine lv_aload_n hx hb dL_law_679 rfl (lv_at hl 0 rfl) ?_
  refine lv_iload_n hx hb dL_law_680 rfl (lv_at hl 3 rfl) ?_
  refine lv_iconst (v := (1 : Int32)) hx hb dL_law_681 (by decide) ?_
  refine lv_iadd hx hb dL_law_682 ?_
  obtain ⟨h6, hf⟩ := g_o hf
  refine va_sld hx hb hX hbl hbA hS h6 dL_law_683 ?_
  refine lv_aload_n hx hb dL_law_684 rfl (lv_at hl 0 rfl) ?_
  refine lv_iload_n hx hb dL_law_685 rfl (lv_at hl 3 rfl) ?_
  refine lv_iconst (v := (2 : Int32)) hx hb dL_law_686 (by decide) ?_
  refine lv_iadd hx hb dL_law_687 ?_
  obtain ⟨h7, hf⟩ := g_o hf
  refine va_sld hx hb hX hbl hbA hS h7 dL_law_688 ?_
  obtain ⟨x8, M9, hg10, hf⟩ := b_o2 hf
  refine x_ci hB (x_rv hB hW hS (As := [.int (xs ((i + (1 : Int32)) : Int32).toNatClampNeg), .int (xs ((i + (2 : Int32)) : Int32).toNatClampNeg)]) (rest := [.int x3]) (ct_X9_spelt l G hg10) (cl_RL_85 hB.2.2.2.2.1 ⟨Nat.le_of_ble_eq_true rfl, Nat.le_of_ble_eq_true rfl⟩) tl139 (by decide) rfl rfl hl.1 rfl (Nat.le_of_ble_eq_true rfl) dL_law_689 hcs) hS (fun H locs hW hS => ?_)
  refine lv_icmp_eq (tgt := 1294) hx hb dL_law_692 (by decide) (fun c11 => ?_) (fun c11 => ?_)
  · have hf := i_t hf c11
    obtain ⟨x12, ex12⟩ : ∃ y : Int32, y = i + (5 : Int32) := ⟨_, rfl⟩
    have hf := nm_o hf ex12
    refine lv_iinc (v := x12) (lv' := [(3, .int x12), (0, .ref b), (1, .ref (G.2.2.1 0)), (2, .ref (G.2.2.1 139))]) hx hb dL_law_1294 hl (k := 3) rfl (by rw [ex12]; rfl) (by decide) rfl (fun ls hl => ?_)
    refine lv_goto (tgt := 18) hx hb dL_law_1297 (by decide) ?_
    exact ih x12 M9 _ _ ls hW hS (lv_sub hl [1, 2, 3, 0] rfl) hf
  · have hf := i_f hf c11
    refine lv_iconst (v := (0 : Int32)) hx hb dL_law_695 (by decide) ?_
    exact absurd (show (0 : Int32) = 1 from s_1 hf) (by decide)
def f_law_c17 (xs : Nat → Int32) (L : Nat) (K : Int32 → Mem → Option (Int32 × Mem)) (i : Int32) (M : Mem) : Option (Int32 × Mem) := (gq (inB (i + (1 : Int32)) L) (gq (inB (i + (2 : Int32)) L) (bq2 (f_X8_values (xs ((i + (1 : Int32)) : Int32).toNatClampNeg) (xs ((i + (2 : Int32)) : Int32).toNatClampNeg) M) (fun (x3 : Int32) (M4 : Mem) => gq (inB (i + (1 : Int32)) L) (gq (inB (i + (2 : Int32)) L) (bq2 (f_X9_values (xs ((i + (1 : Int32)) : Int32).toNatClampNeg) (xs ((i + (2 : Int32)) : Int32).toNatClampNeg) M4) (fun (x8 : Int32) (M9 : Mem) => (if x3 = x8 then (nmq (i + (5 : Int32)) (fun (x12 : Int32) => (K x12 M9))) else some ((0 : Int32), M9)))))))))
set_option maxHeartbeats 4000000 in
set_option maxRecDepth 100000 in
theorem law_c17 {p : Program} {l : Launch} {e : Env} {s : State} {m : MethodId} {args : Array Value} {below : List Frame} {meth : Method} {c : Code} {cells slots : Nat} {Q : State → Prop} {G : GG} {b L : Nat} {xs : Nat → Int32} {Mr : Mem} (hB : BX p s m args c cL_law 4 RL G) (hcs : cells ≤ room_1.cells ∧ slots ≤ room_1.slots) (hX : va_X b L xs s s.heap) (hbl : b < s.heap.size) (hbA : ¬ adA G b) {K : Int32 → Mem → Option (Int32 × Mem)} (ih : ∀ (i : Int32) (M : Mem) (H : Heap) (locs : List Loc) (ls : Array Slot), Wd G M H → va_S (adA G) s.heap H locs → lv_has ls 4 [(0, .ref b), (1, .ref (G.2.2.1 0)), (2, .ref (G.2.2.1 139)), (3, .int i)] → K i M = some ((1 : Int32), Mr) → W p l e room_1 s m args below meth c H locs cells slots Q (F0 m 18 ls [])) : ∀ (i : Int32) (M : Mem) (H : Heap) (locs : List Loc) (ls : Array Slot), Wd G M H → va_S (adA G) s.heap H locs → lv_has ls 4 [(0, .ref b), (1, .ref (G.2.2.1 0)), (2, .ref (G.2.2.1 139)), (3, .int i)] → f_law_c17 xs L K i M = some ((1 : Int32), Mr) → W p l e room_1 s m args below meth c H locs cells slots Q (F0 m 697 ls []) := by
  intro i M H locs ls hW hS hl hf
  have hx := hB.x
  have hb := hB.b
  unfold f_law_c17 at hf
  refine lv_aload_n hx hb dL_law_697 rfl (lv_at hl 1 rfl) ?_
  refine lv_aload_n hx hb dL_law_698 rfl (lv_at hl 0 rfl) ?_
  refine lv_iload_n hx hb dL_law_699 rfl (lv_at hl 3 rfl) ?_
  refine lv_iconst (v := (1 : Int32)) hx hb dL_law_700 (by decide) ?_
  refine lv_iadd hx hb dL_law_701 ?_
  obtain ⟨h1, hf⟩ := g_o hf
  refine va_sld hx hb hX hbl hbA hS h1 dL_law_702 ?_
  refine lv_aload_n hx hb dL_law_703 rfl (lv_at hl 0 rfl) ?_
  refine lv_iload_n hx hb dL_law_704 rfl (lv_at hl 3 rfl) ?_
  refine lv_iconst (v := (2 : Int32)) hx hb dL_law_705 (by decide) ?_
  refine lv_iadd hx hb dL_law_706 ?_
  obtain ⟨h2, hf⟩ := g_o hf
  refine va_sld hx hb hX hbl hbA hS h2 dL_law_707 ?_
  obtain ⟨x3, M4, hg5, hf⟩ := b_o2 hf
  refine x_ci hB (x_rv hB hW hS (As := [.int (xs ((i + (1 : Int32)) : Int32).toNatClampNeg), .int (xs ((i + (2 : Int32)) : Int32).toNatClampNeg)]) (rest := []) (ct_X8_values l G hg5) (cl_RL_86 hB.2.2.2.2.1 ⟨Nat.le_of_ble_eq_true rfl, Nat.le_of_ble_eq_true rfl⟩) tl0 (by decide) rfl rfl hl.1 rfl (Nat.le_of_ble_eq_true rfl) dL_law_708 hcs) hS (fun H locs hW hS => ?_)
  refine lv_aload_n hx hb dL_law_711 rfl (lv_at hl 2 rfl) ?_
  refine lv_aload_n hx hb dL_law_712 rfl (lv_at hl 0 rfl) ?_
  refine lv_iload_n hx hb dL_law_713 rfl (lv_at hl 3 rfl) ?_
  refine lv_iconst (v := (1 : Int32)) hx hb dL_law_714 (by decide) ?_
  refine lv_iadd hx hb dL_law_715 ?_
  obtain ⟨h6, hf⟩ := g_o hf
  refine va_sld hx hb hX hbl hbA hS h6 dL_law_716 ?_
  refine lv_aload_n hx hb dL_law_717 rfl (lv_at hl 0 rfl) ?_
  refine lv_iload_n hx hb dL_law_718 rfl (lv_at hl 3 rfl) ?_
  refine lv_iconst (v := (2 : Int32)) hx hb dL_law_719 (by decide) ?_
  refine lv_iadd hx hb dL_law_720 ?_
  obtain ⟨h7, hf⟩ := g_o hf
  refine va_sld hx hb hX hbl hbA hS h7 dL_law_721 ?_
  obtain ⟨x8, M9, hg10, hf⟩ := b_o2 hf
  refine x_ci hB (x_rv hB hW hS (As := [.int (xs ((i + (1 : Int32)) : Int32).toNatClampNeg), .int (xs ((i + (2 : Int32)) : Int32).toNatClampNeg)]) (rest := [.int x3]) (ct_X9_values l G hg10) (cl_RL_89 hB.2.2.2.2.1 ⟨Nat.le_of_ble_eq_true rfl, Nat.le_of_ble_eq_true rfl⟩) tl139 (by decide) rfl rfl hl.1 rfl (Nat.le_of_ble_eq_true rfl) dL_law_722 hcs) hS (fun H locs hW hS => ?_)
  refine lv_icmp_eq (tgt := 1294) hx hb dL_law_725 (by decide) (fun c11 => ?_) (fun c11 => ?_)
  · have hf := i_t hf c11
    obtain ⟨x12, ex12⟩ : ∃ y : Int32, y = i + (5 : Int32) := ⟨_, rfl⟩
    have hf := nm_o hf ex12
    refine lv_iinc (v := x12) (lv' := [(3, .int x12), (0, .ref b), (1, .ref (G.2.2.1 0)), (2, .ref (G.2.2.1 139))]) hx hb dL_law_1294 hl (k := 3) rfl (by rw [ex12]; rfl) (by decide) rfl (fun ls hl => ?_)
    refine lv_goto (tgt := 18) hx hb dL_law_1297 (by decide) ?_
    exact ih x12 M9 _ _ ls hW hS (lv_sub hl [1, 2, 3, 0] rfl) hf
  · have hf := i_f hf c11
    refine lv_iconst (v := (0 : Int32)) hx hb dL_law_728 (by decide) ?_
    exact absurd (show (0 : Int32) = 1 from s_1 hf) (by decide)
def f_law_c18 (xs : Nat → Int32) (L : Nat) (K : Int32 → Mem → Option (Int32 × Mem)) (i : Int32) (M : Mem) : Option (Int32 × Mem) := (gq (inB (i + (1 : Int32)) L) (gq (inB (i + (2 : Int32)) L) (bq2 (f_X8_pattern (xs ((i + (1 : Int32)) : Int32).toNatClampNeg) (xs ((i + (2 : Int32)) : Int32).toNatClampNeg) M) (fun (x3 : Int32) (M4 : Mem) => gq (inB (i + (1 : Int32)) L) (gq (inB (i + (2 : Int32)) L) (bq2 (f_X9_pattern (xs ((i + (1 : Int32)) : Int32).toNatClampNeg) (xs ((i + (2 : Int32)) : Int32).toNatClampNeg) M4) (fun (x8 : Int32) (M9 : Mem) => (if x3 = x8 then (nmq (i + (5 : Int32)) (fun (x12 : Int32) => (K x12 M9))) else some ((0 : Int32), M9)))))))))
set_option maxHeartbeats 4000000 in
set_option maxRecDepth 100000 in
theorem law_c18 {p : Program} {l : Launch} {e : Env} {s : State} {m : MethodId} {args : Array Value} {below : List Frame} {meth : Method} {c : Code} {cells slots : Nat} {Q : State → Prop} {G : GG} {b L : Nat} {xs : Nat → Int32} {Mr : Mem} (hB : BX p s m args c cL_law 4 RL G) (hcs : cells ≤ room_1.cells ∧ slots ≤ room_1.slots) (hX : va_X b L xs s s.heap) (hbl : b < s.heap.size) (hbA : ¬ adA G b) {K : Int32 → Mem → Option (Int32 × Mem)} (ih : ∀ (i : Int32) (M : Mem) (H : Heap) (locs : List Loc) (ls : Array Slot), Wd G M H → va_S (adA G) s.heap H locs → lv_has ls 4 [(0, .ref b), (1, .ref (G.2.2.1 0)), (2, .ref (G.2.2.1 139)), (3, .int i)] → K i M = some ((1 : Int32), Mr) → W p l e room_1 s m args below meth c H locs cells slots Q (F0 m 18 ls [])) : ∀ (i : Int32) (M : Mem) (H : Heap) (locs : List Loc) (ls : Array Slot), Wd G M H → va_S (adA G) s.heap H locs → lv_has ls 4 [(0, .ref b), (1, .ref (G.2.2.1 0)), (2, .ref (G.2.2.1 139)), (3, .int i)] → f_law_c18 xs L K i M = some ((1 : Int32), Mr) → W p l e room_1 s m args below meth c H locs cells slots Q (F0 m 730 ls []) := by
  intro i M H locs ls hW hS hl hf
  have hx := hB.x
  have hb := hB.b
  unfold f_law_c18 at hf
  refine lv_aload_n hx hb dL_law_730 rfl (lv_at hl 1 rfl) ?_
  refine lv_aload_n hx hb dL_law_731 rfl (lv_at hl 0 rfl) ?_
  refine lv_iload_n hx hb dL_law_732 rfl (lv_at hl 3 rfl) ?_
  refine lv_iconst (v := (1 : Int32)) hx hb dL_law_733 (by decide) ?_
  refine lv_iadd hx hb dL_law_734 ?_
  obtain ⟨h1, hf⟩ := g_o hf
  refine va_sld hx hb hX hbl hbA hS h1 dL_law_735 ?_
  refine lv_aload_n hx hb dL_law_736 rfl (lv_at hl 0 rfl) ?_
  refine lv_iload_n hx hb dL_law_737 rfl (lv_at hl 3 rfl) ?_
  refine lv_iconst (v := (2 : Int32)) hx hb dL_law_738 (by decide) ?_
  refine lv_iadd hx hb dL_law_739 ?_
  obtain ⟨h2, hf⟩ := g_o hf
  refine va_sld hx hb hX hbl hbA hS h2 dL_law_740 ?_
  obtain ⟨x3, M4, hg5, hf⟩ := b_o2 hf
  refine x_ci hB (x_rv hB hW hS (As := [.int (xs ((i + (1 : Int32)) : Int32).toNatClampNeg), .int (xs ((i + (2 : Int32)) : Int32).toNatClampNeg)]) (rest := []) (ct_X8_pattern l G hg5) (cl_RL_90 hB.2.2.2.2.1 ⟨Nat.le_of_ble_eq_true rfl, Nat.le_of_ble_eq_true rfl⟩) tl0 (by decide) rfl rfl hl.1 rfl (Nat.le_of_ble_eq_true rfl) dL_law_741 hcs) hS (fun H locs hW hS => ?_)
  refine lv_aload_n hx hb dL_law_744 rfl (lv_at hl 2 rfl) ?_
  refine lv_aload_n hx hb dL_law_745 rfl (lv_at hl 0 rfl) ?_
  refine lv_iload_n hx hb dL_law_746 rfl (lv_at hl 3 rfl) ?_
  refine lv_iconst (v := (1 : Int32)) hx hb dL_law_747 (by decide) ?_
  refine lv_iadd hx hb dL_law_748 ?_
  obtain ⟨h6, hf⟩ := g_o hf
  refine va_sld hx hb hX hbl hbA hS h6 dL_law_749 ?_
  refine lv_aload_n hx hb dL_law_750 rfl (lv_at hl 0 rfl) ?_
  refine lv_iload_n hx hb dL_law_751 rfl (lv_at hl 3 rfl) ?_
  refine lv_iconst (v := (2 : Int32)) hx hb dL_law_752 (by decide) ?_
  refine lv_iadd hx hb dL_law_753 ?_
  obtain ⟨h7, hf⟩ := g_o hf
  refine va_sld hx hb hX hbl hbA hS h7 dL_law_754 ?_
  obtain ⟨x8, M9, hg10, hf⟩ := b_o2 hf
  refine x_ci hB (x_rv hB hW hS (As := [.int (xs ((i + (1 : Int32)) : Int32).toNatClampNeg), .int (xs ((i + (2 : Int32)) : Int32).toNatClampNeg)]) (rest := [.int x3]) (ct_X9_pattern l G hg10) (cl_RL_93 hB.2.2.2.2.1 ⟨Nat.le_of_ble_eq_true rfl, Nat.le_of_ble_eq_true rfl⟩) tl139 (by decide) rfl rfl hl.1 rfl (Nat.le_of_ble_eq_true rfl) dL_law_755 hcs) hS (fun H locs hW hS => ?_)
  refine lv_icmp_eq (tgt := 1294) hx hb dL_law_758 (by decide) (fun c11 => ?_) (fun c11 => ?_)
  · have hf := i_t hf c11
    obtain ⟨x12, ex12⟩ : ∃ y : Int32, y = i + (5 : Int32) := ⟨_, rfl⟩
    have hf := nm_o hf ex12
    refine lv_iinc (v := x12) (lv' := [(3, .int x12), (0, .ref b), (1, .ref (G.2.2.1 0)), (2, .ref (G.2.2.1 139))]) hx hb dL_law_1294 hl (k := 3) rfl (by rw [ex12]; rfl) (by decide) rfl (fun ls hl => ?_)
    refine lv_goto (tgt := 18) hx hb dL_law_1297 (by decide) ?_
    exact ih x12 M9 _ _ ls hW hS (lv_sub hl [1, 2, 3, 0] rfl) hf
  · have hf := i_f hf c11
    refine lv_iconst (v := (0 : Int32)) hx hb dL_law_761 (by decide) ?_
    exact absurd (show (0 : Int32) = 1 from s_1 hf) (by decide)
def f_law_c19 (xs : Nat → Int32) (L : Nat) (K : Int32 → Mem → Option (Int32 × Mem)) (i : Int32) (M : Mem) : Option (Int32 × Mem) := (gq (inB (i + (1 : Int32)) L) (bq2 (f_X8_lines (xs ((i + (1 : Int32)) : Int32).toNatClampNeg) M) (fun (x2 : Int32) (M3 : Mem) => gq (inB (i + (1 : Int32)) L) (bq2 (f_X9_lines (xs ((i + (1 : Int32)) : Int32).toNatClampNeg) M3) (fun (x6 : Int32) (M7 : Mem) => (if x2 = x6 then (nmq (i + (5 : Int32)) (fun (x10 : Int32) => (K x10 M7))) else some ((0 : Int32), M7)))))))
set_option maxHeartbeats 4000000 in
set_option maxRecDepth 100000 in
theorem law_c19 {p : Program} {l : Launch} {e : Env} {s : State} {m : MethodId} {args : Array Value} {below : List Frame} {meth : Method} {c : Code} {cells slots : Nat} {Q : State → Prop} {G : GG} {b L : Nat} {xs : Nat → Int32} {Mr : Mem} (hB : BX p s m args c cL_law 4 RL G) (hcs : cells ≤ room_1.cells ∧ slots ≤ room_1.slots) (hX : va_X b L xs s s.heap) (hbl : b < s.heap.size) (hbA : ¬ adA G b) {K : Int32 → Mem → Option (Int32 × Mem)} (ih : ∀ (i : Int32) (M : Mem) (H : Heap) (locs : List Loc) (ls : Array Slot), Wd G M H → va_S (adA G) s.heap H locs → lv_has ls 4 [(0, .ref b), (1, .ref (G.2.2.1 0)), (2, .ref (G.2.2.1 139)), (3, .int i)] → K i M = some ((1 : Int32), Mr) → W p l e room_1 s m args below meth c H locs cells slots Q (F0 m 18 ls [])) : ∀ (i : Int32) (M : Mem) (H : Heap) (locs : List Loc) (ls : Array Slot), Wd G M H → va_S (adA G) s.heap H locs → lv_has ls 4 [(0, .ref b), (1, .ref (G.2.2.1 0)), (2, .ref (G.2.2.1 139)), (3, .int i)] → f_law_c19 xs L K i M = some ((1 : Int32), Mr) → W p l e room_1 s m args below meth c H locs cells slots Q (F0 m 763 ls []) := by
  intro i M H locs ls hW hS hl hf
  have hx := hB.x
  have hb := hB.b
  unfold f_law_c19 at hf
  refine lv_aload_n hx hb dL_law_763 rfl (lv_at hl 1 rfl) ?_
  refine lv_aload_n hx hb dL_law_764 rfl (lv_at hl 0 rfl) ?_
  refine lv_iload_n hx hb dL_law_765 rfl (lv_at hl 3 rfl) ?_
  refine lv_iconst (v := (1 : Int32)) hx hb dL_law_766 (by decide) ?_
  refine lv_iadd hx hb dL_law_767 ?_
  obtain ⟨h1, hf⟩ := g_o hf
  refine va_sld hx hb hX hbl hbA hS h1 dL_law_768 ?_
  obtain ⟨x2, M3, hg4, hf⟩ := b_o2 hf
  refine x_ci hB (x_rv hB hW hS (As := [.int (xs ((i + (1 : Int32)) : Int32).toNatClampNeg)]) (rest := []) (ct_X8_lines l G hg4) (cl_RL_94 hB.2.2.2.2.1 ⟨Nat.le_of_ble_eq_true rfl, Nat.le_of_ble_eq_true rfl⟩) tl0 (by decide) rfl rfl hl.1 rfl (Nat.le_of_ble_eq_true rfl) dL_law_769 hcs) hS (fun H locs hW hS => ?_)
  refine lv_aload_n hx hb dL_law_772 rfl (lv_at hl 2 rfl) ?_
  refine lv_aload_n hx hb dL_law_773 rfl (lv_at hl 0 rfl) ?_
  refine lv_iload_n hx hb dL_law_774 rfl (lv_at hl 3 rfl) ?_
  refine lv_iconst (v := (1 : Int32)) hx hb dL_law_775 (by decide) ?_
  refine lv_iadd hx hb dL_law_776 ?_
  obtain ⟨h5, hf⟩ := g_o hf
  refine va_sld hx hb hX hbl hbA hS h5 dL_law_777 ?_
  obtain ⟨x6, M7, hg8, hf⟩ := b_o2 hf
  refine x_ci hB (x_rv hB hW hS (As := [.int (xs ((i + (1 : Int32)) : Int32).toNatClampNeg)]) (rest := [.int x2]) (ct_X9_lines l G hg8) (cl_RL_97 hB.2.2.2.2.1 ⟨Nat.le_of_ble_eq_true rfl, Nat.le_of_ble_eq_true rfl⟩) tl139 (by decide) rfl rfl hl.1 rfl (Nat.le_of_ble_eq_true rfl) dL_law_778 hcs) hS (fun H locs hW hS => ?_)
  refine lv_icmp_eq (tgt := 1294) hx hb dL_law_781 (by decide) (fun c9 => ?_) (fun c9 => ?_)
  · have hf := i_t hf c9
    obtain ⟨x10, ex10⟩ : ∃ y : Int32, y = i + (5 : Int32) := ⟨_, rfl⟩
    have hf := nm_o hf ex10
    refine lv_iinc (v := x10) (lv' := [(3, .int x10), (0, .ref b), (1, .ref (G.2.2.1 0)), (2, .ref (G.2.2.1 139))]) hx hb dL_law_1294 hl (k := 3) rfl (by rw [ex10]; rfl) (by decide) rfl (fun ls hl => ?_)
    refine lv_goto (tgt := 18) hx hb dL_law_1297 (by decide) ?_
    exact ih x10 M7 _ _ ls hW hS (lv_sub hl [1, 2, 3, 0] rfl) hf
  · have hf := i_f hf c9
    refine lv_iconst (v := (0 : Int32)) hx hb dL_law_784 (by decide) ?_
    exact absurd (show (0 : Int32) = 1 from s_1 hf) (by decide)
def f_law_c20 (xs : Nat → Int32) (L : Nat) (K : Int32 → Mem → Option (Int32 × Mem)) (i : Int32) (M : Mem) : Option (Int32 × Mem) := (gq (inB (i + (1 : Int32)) L) (gq (inB (i + (2 : Int32)) L) (bq2 (f_X8_lineOf (xs ((i + (1 : Int32)) : Int32).toNatClampNeg) (xs ((i + (2 : Int32)) : Int32).toNatClampNeg) M) (fun (x3 : Int32) (M4 : Mem) => gq (inB (i + (1 : Int32)) L) (gq (inB (i + (2 : Int32)) L) (bq2 (f_X9_lineOf (xs ((i + (1 : Int32)) : Int32).toNatClampNeg) (xs ((i + (2 : Int32)) : Int32).toNatClampNeg) M4) (fun (x8 : Int32) (M9 : Mem) => (if x3 = x8 then (nmq (i + (5 : Int32)) (fun (x12 : Int32) => (K x12 M9))) else some ((0 : Int32), M9)))))))))
set_option maxHeartbeats 4000000 in
set_option maxRecDepth 100000 in
theorem law_c20 {p : Program} {l : Launch} {e : Env} {s : State} {m : MethodId} {args : Array Value} {below : List Frame} {meth : Method} {c : Code} {cells slots : Nat} {Q : State → Prop} {G : GG} {b L : Nat} {xs : Nat → Int32} {Mr : Mem} (hB : BX p s m args c cL_law 4 RL G) (hcs : cells ≤ room_1.cells ∧ slots ≤ room_1.slots) (hX : va_X b L xs s s.heap) (hbl : b < s.heap.size) (hbA : ¬ adA G b) {K : Int32 → Mem → Option (Int32 × Mem)} (ih : ∀ (i : Int32) (M : Mem) (H : Heap) (locs : List Loc) (ls : Array Slot), Wd G M H → va_S (adA G) s.heap H locs → lv_has ls 4 [(0, .ref b), (1, .ref (G.2.2.1 0)), (2, .ref (G.2.2.1 139)), (3, .int i)] → K i M = some ((1 : Int32), Mr) → W p l e room_1 s m args below meth c H locs cells slots Q (F0 m 18 ls [])) : ∀ (i : Int32) (M : Mem) (H : Heap) (locs : List Loc) (ls : Array Slot), Wd G M H → va_S (adA G) s.heap H locs → lv_has ls 4 [(0, .ref b), (1, .ref (G.2.2.1 0)), (2, .ref (G.2.2.1 139)), (3, .int i)] → f_law_c20 xs L K i M = some ((1 : Int32), Mr) → W p l e room_1 s m args below meth c H locs cells slots Q (F0 m 786 ls []) := by
  intro i M H locs ls hW hS hl hf
  have hx := hB.x
  have hb := hB.b
  unfold f_law_c20 at hf
  refine lv_aload_n hx hb dL_law_786 rfl (lv_at hl 1 rfl) ?_
  refine lv_aload_n hx hb dL_law_787 rfl (lv_at hl 0 rfl) ?_
  refine lv_iload_n hx hb dL_law_788 rfl (lv_at hl 3 rfl) ?_
  refine lv_iconst (v := (1 : Int32)) hx hb dL_law_789 (by decide) ?_
  refine lv_iadd hx hb dL_law_790 ?_
  obtain ⟨h1, hf⟩ := g_o hf
  refine va_sld hx hb hX hbl hbA hS h1 dL_law_791 ?_
  refine lv_aload_n hx hb dL_law_792 rfl (lv_at hl 0 rfl) ?_
  refine lv_iload_n hx hb dL_law_793 rfl (lv_at hl 3 rfl) ?_
  refine lv_iconst (v := (2 : Int32)) hx hb dL_law_794 (by decide) ?_
  refine lv_iadd hx hb dL_law_795 ?_
  obtain ⟨h2, hf⟩ := g_o hf
  refine va_sld hx hb hX hbl hbA hS h2 dL_law_796 ?_
  obtain ⟨x3, M4, hg5, hf⟩ := b_o2 hf
  refine x_ci hB (x_rv hB hW hS (As := [.int (xs ((i + (1 : Int32)) : Int32).toNatClampNeg), .int (xs ((i + (2 : Int32)) : Int32).toNatClampNeg)]) (rest := []) (ct_X8_lineOf l G hg5) (cl_RL_98 hB.2.2.2.2.1 ⟨Nat.le_of_ble_eq_true rfl, Nat.le_of_ble_eq_true rfl⟩) tl0 (by decide) rfl rfl hl.1 rfl (Nat.le_of_ble_eq_true rfl) dL_law_797 hcs) hS (fun H locs hW hS => ?_)
  refine lv_aload_n hx hb dL_law_800 rfl (lv_at hl 2 rfl) ?_
  refine lv_aload_n hx hb dL_law_801 rfl (lv_at hl 0 rfl) ?_
  refine lv_iload_n hx hb dL_law_802 rfl (lv_at hl 3 rfl) ?_
  refine lv_iconst (v := (1 : Int32)) hx hb dL_law_803 (by decide) ?_
  refine lv_iadd hx hb dL_law_804 ?_
  obtain ⟨h6, hf⟩ := g_o hf
  refine va_sld hx hb hX hbl hbA hS h6 dL_law_805 ?_
  refine lv_aload_n hx hb dL_law_806 rfl (lv_at hl 0 rfl) ?_
  refine lv_iload_n hx hb dL_law_807 rfl (lv_at hl 3 rfl) ?_
  refine lv_iconst (v := (2 : Int32)) hx hb dL_law_808 (by decide) ?_
  refine lv_iadd hx hb dL_law_809 ?_
  obtain ⟨h7, hf⟩ := g_o hf
  refine va_sld hx hb hX hbl hbA hS h7 dL_law_810 ?_
  obtain ⟨x8, M9, hg10, hf⟩ := b_o2 hf
  refine x_ci hB (x_rv hB hW hS (As := [.int (xs ((i + (1 : Int32)) : Int32).toNatClampNeg), .int (xs ((i + (2 : Int32)) : Int32).toNatClampNeg)]) (rest := [.int x3]) (ct_X9_lineOf l G hg10) (cl_RL_101 hB.2.2.2.2.1 ⟨Nat.le_of_ble_eq_true rfl, Nat.le_of_ble_eq_true rfl⟩) tl139 (by decide) rfl rfl hl.1 rfl (Nat.le_of_ble_eq_true rfl) dL_law_811 hcs) hS (fun H locs hW hS => ?_)
  refine lv_icmp_eq (tgt := 1294) hx hb dL_law_814 (by decide) (fun c11 => ?_) (fun c11 => ?_)
  · have hf := i_t hf c11
    obtain ⟨x12, ex12⟩ : ∃ y : Int32, y = i + (5 : Int32) := ⟨_, rfl⟩
    have hf := nm_o hf ex12
    refine lv_iinc (v := x12) (lv' := [(3, .int x12), (0, .ref b), (1, .ref (G.2.2.1 0)), (2, .ref (G.2.2.1 139))]) hx hb dL_law_1294 hl (k := 3) rfl (by rw [ex12]; rfl) (by decide) rfl (fun ls hl => ?_)
    refine lv_goto (tgt := 18) hx hb dL_law_1297 (by decide) ?_
    exact ih x12 M9 _ _ ls hW hS (lv_sub hl [1, 2, 3, 0] rfl) hf
  · have hf := i_f hf c11
    refine lv_iconst (v := (0 : Int32)) hx hb dL_law_817 (by decide) ?_
    exact absurd (show (0 : Int32) = 1 from s_1 hf) (by decide)
def f_law_c21 (xs : Nat → Int32) (L : Nat) (K : Int32 → Mem → Option (Int32 × Mem)) (i : Int32) (M : Mem) : Option (Int32 × Mem) := (gq (inB (i + (1 : Int32)) L) (bq2 (f_X8_ratio (xs ((i + (1 : Int32)) : Int32).toNatClampNeg) M) (fun (x2 : Int32) (M3 : Mem) => gq (inB (i + (1 : Int32)) L) (bq2 (f_X9_ratio (xs ((i + (1 : Int32)) : Int32).toNatClampNeg) M3) (fun (x6 : Int32) (M7 : Mem) => (if x2 = x6 then (nmq (i + (5 : Int32)) (fun (x10 : Int32) => (K x10 M7))) else some ((0 : Int32), M7)))))))
set_option maxHeartbeats 4000000 in
set_option maxRecDepth 100000 in
theorem law_c21 {p : Program} {l : Launch} {e : Env} {s : State} {m : MethodId} {args : Array Value} {below : List Frame} {meth : Method} {c : Code} {cells slots : Nat} {Q : State → Prop} {G : GG} {b L : Nat} {xs : Nat → Int32} {Mr : Mem} (hB : BX p s m args c cL_law 4 RL G) (hcs : cells ≤ room_1.cells ∧ slots ≤ room_1.slots) (hX : va_X b L xs s s.heap) (hbl : b < s.heap.size) (hbA : ¬ adA G b) {K : Int32 → Mem → Option (Int32 × Mem)} (ih : ∀ (i : Int32) (M : Mem) (H : Heap) (locs : List Loc) (ls : Array Slot), Wd G M H → va_S (adA G) s.heap H locs → lv_has ls 4 [(0, .ref b), (1, .ref (G.2.2.1 0)), (2, .ref (G.2.2.1 139)), (3, .int i)] → K i M = some ((1 : Int32), Mr) → W p l e room_1 s m args below meth c H locs cells slots Q (F0 m 18 ls [])) : ∀ (i : Int32) (M : Mem) (H : Heap) (locs : List Loc) (ls : Array Slot), Wd G M H → va_S (adA G) s.heap H locs → lv_has ls 4 [(0, .ref b), (1, .ref (G.2.2.1 0)), (2, .ref (G.2.2.1 139)), (3, .int i)] → f_law_c21 xs L K i M = some ((1 : Int32), Mr) → W p l e room_1 s m args below meth c H locs cells slots Q (F0 m 819 ls []) := by
  intro i M H locs ls hW hS hl hf
  have hx := hB.x
  have hb := hB.b
  unfold f_law_c21 at hf
  refine lv_aload_n hx hb dL_law_819 rfl (lv_at hl 1 rfl) ?_
  refine lv_aload_n hx hb dL_law_820 rfl (lv_at hl 0 rfl) ?_
  refine lv_iload_n hx hb dL_law_821 rfl (lv_at hl 3 rfl) ?_
  refine lv_iconst (v := (1 : Int32)) hx hb dL_law_822 (by decide) ?_
  refine lv_iadd hx hb dL_law_823 ?_
  obtain ⟨h1, hf⟩ := g_o hf
  refine va_sld hx hb hX hbl hbA hS h1 dL_law_824 ?_
  obtain ⟨x2, M3, hg4, hf⟩ := b_o2 hf
  refine x_ci hB (x_rv hB hW hS (As := [.int (xs ((i + (1 : Int32)) : Int32).toNatClampNeg)]) (rest := []) (ct_X8_ratio l G hg4) (cl_RL_102 hB.2.2.2.2.1 ⟨Nat.le_of_ble_eq_true rfl, Nat.le_of_ble_eq_true rfl⟩) tl0 (by decide) rfl rfl hl.1 rfl (Nat.le_of_ble_eq_true rfl) dL_law_825 hcs) hS (fun H locs hW hS => ?_)
  refine lv_aload_n hx hb dL_law_828 rfl (lv_at hl 2 rfl) ?_
  refine lv_aload_n hx hb dL_law_829 rfl (lv_at hl 0 rfl) ?_
  refine lv_iload_n hx hb dL_law_830 rfl (lv_at hl 3 rfl) ?_
  refine lv_iconst (v := (1 : Int32)) hx hb dL_law_831 (by decide) ?_
  refine lv_iadd hx hb dL_law_832 ?_
  obtain ⟨h5, hf⟩ := g_o hf
  refine va_sld hx hb hX hbl hbA hS h5 dL_law_833 ?_
  obtain ⟨x6, M7, hg8, hf⟩ := b_o2 hf
  refine x_ci hB (x_rv hB hW hS (As := [.int (xs ((i + (1 : Int32)) : Int32).toNatClampNeg)]) (rest := [.int x2]) (ct_X9_ratio l G hg8) (cl_RL_105 hB.2.2.2.2.1 ⟨Nat.le_of_ble_eq_true rfl, Nat.le_of_ble_eq_true rfl⟩) tl139 (by decide) rfl rfl hl.1 rfl (Nat.le_of_ble_eq_true rfl) dL_law_834 hcs) hS (fun H locs hW hS => ?_)
  refine lv_icmp_eq (tgt := 1294) hx hb dL_law_837 (by decide) (fun c9 => ?_) (fun c9 => ?_)
  · have hf := i_t hf c9
    obtain ⟨x10, ex10⟩ : ∃ y : Int32, y = i + (5 : Int32) := ⟨_, rfl⟩
    have hf := nm_o hf ex10
    refine lv_iinc (v := x10) (lv' := [(3, .int x10), (0, .ref b), (1, .ref (G.2.2.1 0)), (2, .ref (G.2.2.1 139))]) hx hb dL_law_1294 hl (k := 3) rfl (by rw [ex10]; rfl) (by decide) rfl (fun ls hl => ?_)
    refine lv_goto (tgt := 18) hx hb dL_law_1297 (by decide) ?_
    exact ih x10 M7 _ _ ls hW hS (lv_sub hl [1, 2, 3, 0] rfl) hf
  · have hf := i_f hf c9
    refine lv_iconst (v := (0 : Int32)) hx hb dL_law_840 (by decide) ?_
    exact absurd (show (0 : Int32) = 1 from s_1 hf) (by decide)
def f_law_c22 (xs : Nat → Int32) (L : Nat) (K : Int32 → Mem → Option (Int32 × Mem)) (i : Int32) (M : Mem) : Option (Int32 × Mem) := (gq (inB (i + (1 : Int32)) L) (bq2 (f_X8_badness (xs ((i + (1 : Int32)) : Int32).toNatClampNeg) M) (fun (x2 : Int32) (M3 : Mem) => gq (inB (i + (1 : Int32)) L) (bq2 (f_X9_badness (xs ((i + (1 : Int32)) : Int32).toNatClampNeg) M3) (fun (x6 : Int32) (M7 : Mem) => (if x2 = x6 then (nmq (i + (5 : Int32)) (fun (x10 : Int32) => (K x10 M7))) else some ((0 : Int32), M7)))))))
set_option maxHeartbeats 4000000 in
set_option maxRecDepth 100000 in
theorem law_c22 {p : Program} {l : Launch} {e : Env} {s : State} {m : MethodId} {args : Array Value} {below : List Frame} {meth : Method} {c : Code} {cells slots : Nat} {Q : State → Prop} {G : GG} {b L : Nat} {xs : Nat → Int32} {Mr : Mem} (hB : BX p s m args c cL_law 4 RL G) (hcs : cells ≤ room_1.cells ∧ slots ≤ room_1.slots) (hX : va_X b L xs s s.heap) (hbl : b < s.heap.size) (hbA : ¬ adA G b) {K : Int32 → Mem → Option (Int32 × Mem)} (ih : ∀ (i : Int32) (M : Mem) (H : Heap) (locs : List Loc) (ls : Array Slot), Wd G M H → va_S (adA G) s.heap H locs → lv_has ls 4 [(0, .ref b), (1, .ref (G.2.2.1 0)), (2, .ref (G.2.2.1 139)), (3, .int i)] → K i M = some ((1 : Int32), Mr) → W p l e room_1 s m args below meth c H locs cells slots Q (F0 m 18 ls [])) : ∀ (i : Int32) (M : Mem) (H : Heap) (locs : List Loc) (ls : Array Slot), Wd G M H → va_S (adA G) s.heap H locs → lv_has ls 4 [(0, .ref b), (1, .ref (G.2.2.1 0)), (2, .ref (G.2.2.1 139)), (3, .int i)] → f_law_c22 xs L K i M = some ((1 : Int32), Mr) → W p l e room_1 s m args below meth c H locs cells slots Q (F0 m 842 ls []) := by
  intro i M H locs ls hW hS hl hf
  have hx := hB.x
  have hb := hB.b
  unfold f_law_c22 at hf
  refine lv_aload_n hx hb dL_law_842 rfl (lv_at hl 1 rfl) ?_
  refine lv_aload_n hx hb dL_law_843 rfl (lv_at hl 0 rfl) ?_
  refine lv_iload_n hx hb dL_law_844 rfl (lv_at hl 3 rfl) ?_
  refine lv_iconst (v := (1 : Int32)) hx hb dL_law_845 (by decide) ?_
  refine lv_iadd hx hb dL_law_846 ?_
  obtain ⟨h1, hf⟩ := g_o hf
  refine va_sld hx hb hX hbl hbA hS h1 dL_law_847 ?_
  obtain ⟨x2, M3, hg4, hf⟩ := b_o2 hf
  refine x_ci hB (x_rv hB hW hS (As := [.int (xs ((i + (1 : Int32)) : Int32).toNatClampNeg)]) (rest := []) (ct_X8_badness l G hg4) (cl_RL_106 hB.2.2.2.2.1 ⟨Nat.le_of_ble_eq_true rfl, Nat.le_of_ble_eq_true rfl⟩) tl0 (by decide) rfl rfl hl.1 rfl (Nat.le_of_ble_eq_true rfl) dL_law_848 hcs) hS (fun H locs hW hS => ?_)
  refine lv_aload_n hx hb dL_law_851 rfl (lv_at hl 2 rfl) ?_
  refine lv_aload_n hx hb dL_law_852 rfl (lv_at hl 0 rfl) ?_
  refine lv_iload_n hx hb dL_law_853 rfl (lv_at hl 3 rfl) ?_
  refine lv_iconst (v := (1 : Int32)) hx hb dL_law_854 (by decide) ?_
  refine lv_iadd hx hb dL_law_855 ?_
  obtain ⟨h5, hf⟩ := g_o hf
  refine va_sld hx hb hX hbl hbA hS h5 dL_law_856 ?_
  obtain ⟨x6, M7, hg8, hf⟩ := b_o2 hf
  refine x_ci hB (x_rv hB hW hS (As := [.int (xs ((i + (1 : Int32)) : Int32).toNatClampNeg)]) (rest := [.int x2]) (ct_X9_badness l G hg8) (cl_RL_109 hB.2.2.2.2.1 ⟨Nat.le_of_ble_eq_true rfl, Nat.le_of_ble_eq_true rfl⟩) tl139 (by decide) rfl rfl hl.1 rfl (Nat.le_of_ble_eq_true rfl) dL_law_857 hcs) hS (fun H locs hW hS => ?_)
  refine lv_icmp_eq (tgt := 1294) hx hb dL_law_860 (by decide) (fun c9 => ?_) (fun c9 => ?_)
  · have hf := i_t hf c9
    obtain ⟨x10, ex10⟩ : ∃ y : Int32, y = i + (5 : Int32) := ⟨_, rfl⟩
    have hf := nm_o hf ex10
    refine lv_iinc (v := x10) (lv' := [(3, .int x10), (0, .ref b), (1, .ref (G.2.2.1 0)), (2, .ref (G.2.2.1 139))]) hx hb dL_law_1294 hl (k := 3) rfl (by rw [ex10]; rfl) (by decide) rfl (fun ls hl => ?_)
    refine lv_goto (tgt := 18) hx hb dL_law_1297 (by decide) ?_
    exact ih x10 M7 _ _ ls hW hS (lv_sub hl [1, 2, 3, 0] rfl) hf
  · have hf := i_f hf c9
    refine lv_iconst (v := (0 : Int32)) hx hb dL_law_863 (by decide) ?_
    exact absurd (show (0 : Int32) = 1 from s_1 hf) (by decide)
def f_law_c23 (xs : Nat → Int32) (L : Nat) (K : Int32 → Mem → Option (Int32 × Mem)) (i : Int32) (M : Mem) : Option (Int32 × Mem) := (gq (inB (i + (1 : Int32)) L) (bq2 (f_X8_demerits (xs ((i + (1 : Int32)) : Int32).toNatClampNeg) M) (fun (x2 : Int32) (M3 : Mem) => gq (inB (i + (1 : Int32)) L) (bq2 (f_X9_demerits (xs ((i + (1 : Int32)) : Int32).toNatClampNeg) M3) (fun (x6 : Int32) (M7 : Mem) => (if x2 = x6 then (nmq (i + (5 : Int32)) (fun (x10 : Int32) => (K x10 M7))) else some ((0 : Int32), M7)))))))
set_option maxHeartbeats 4000000 in
set_option maxRecDepth 100000 in
theorem law_c23 {p : Program} {l : Launch} {e : Env} {s : State} {m : MethodId} {args : Array Value} {below : List Frame} {meth : Method} {c : Code} {cells slots : Nat} {Q : State → Prop} {G : GG} {b L : Nat} {xs : Nat → Int32} {Mr : Mem} (hB : BX p s m args c cL_law 4 RL G) (hcs : cells ≤ room_1.cells ∧ slots ≤ room_1.slots) (hX : va_X b L xs s s.heap) (hbl : b < s.heap.size) (hbA : ¬ adA G b) {K : Int32 → Mem → Option (Int32 × Mem)} (ih : ∀ (i : Int32) (M : Mem) (H : Heap) (locs : List Loc) (ls : Array Slot), Wd G M H → va_S (adA G) s.heap H locs → lv_has ls 4 [(0, .ref b), (1, .ref (G.2.2.1 0)), (2, .ref (G.2.2.1 139)), (3, .int i)] → K i M = some ((1 : Int32), Mr) → W p l e room_1 s m args below meth c H locs cells slots Q (F0 m 18 ls [])) : ∀ (i : Int32) (M : Mem) (H : Heap) (locs : List Loc) (ls : Array Slot), Wd G M H → va_S (adA G) s.heap H locs → lv_has ls 4 [(0, .ref b), (1, .ref (G.2.2.1 0)), (2, .ref (G.2.2.1 139)), (3, .int i)] → f_law_c23 xs L K i M = some ((1 : Int32), Mr) → W p l e room_1 s m args below meth c H locs cells slots Q (F0 m 865 ls []) := by
  intro i M H locs ls hW hS hl hf
  have hx := hB.x
  have hb := hB.b
  unfold f_law_c23 at hf
  refine lv_aload_n hx hb dL_law_865 rfl (lv_at hl 1 rfl) ?_
  refine lv_aload_n hx hb dL_law_866 rfl (lv_at hl 0 rfl) ?_
  refine lv_iload_n hx hb dL_law_867 rfl (lv_at hl 3 rfl) ?_
  refine lv_iconst (v := (1 : Int32)) hx hb dL_law_868 (by decide) ?_
  refine lv_iadd hx hb dL_law_869 ?_
  obtain ⟨h1, hf⟩ := g_o hf
  refine va_sld hx hb hX hbl hbA hS h1 dL_law_870 ?_
  obtain ⟨x2, M3, hg4, hf⟩ := b_o2 hf
  refine x_ci hB (x_rv hB hW hS (As := [.int (xs ((i + (1 : Int32)) : Int32).toNatClampNeg)]) (rest := []) (ct_X8_demerits l G hg4) (cl_RL_110 hB.2.2.2.2.1 ⟨Nat.le_of_ble_eq_true rfl, Nat.le_of_ble_eq_true rfl⟩) tl0 (by decide) rfl rfl hl.1 rfl (Nat.le_of_ble_eq_true rfl) dL_law_871 hcs) hS (fun H locs hW hS => ?_)
  refine lv_aload_n hx hb dL_law_874 rfl (lv_at hl 2 rfl) ?_
  refine lv_aload_n hx hb dL_law_875 rfl (lv_at hl 0 rfl) ?_
  refine lv_iload_n hx hb dL_law_876 rfl (lv_at hl 3 rfl) ?_
  refine lv_iconst (v := (1 : Int32)) hx hb dL_law_877 (by decide) ?_
  refine lv_iadd hx hb dL_law_878 ?_
  obtain ⟨h5, hf⟩ := g_o hf
  refine va_sld hx hb hX hbl hbA hS h5 dL_law_879 ?_
  obtain ⟨x6, M7, hg8, hf⟩ := b_o2 hf
  refine x_ci hB (x_rv hB hW hS (As := [.int (xs ((i + (1 : Int32)) : Int32).toNatClampNeg)]) (rest := [.int x2]) (ct_X9_demerits l G hg8) (cl_RL_113 hB.2.2.2.2.1 ⟨Nat.le_of_ble_eq_true rfl, Nat.le_of_ble_eq_true rfl⟩) tl139 (by decide) rfl rfl hl.1 rfl (Nat.le_of_ble_eq_true rfl) dL_law_880 hcs) hS (fun H locs hW hS => ?_)
  refine lv_icmp_eq (tgt := 1294) hx hb dL_law_883 (by decide) (fun c9 => ?_) (fun c9 => ?_)
  · have hf := i_t hf c9
    obtain ⟨x10, ex10⟩ : ∃ y : Int32, y = i + (5 : Int32) := ⟨_, rfl⟩
    have hf := nm_o hf ex10
    refine lv_iinc (v := x10) (lv' := [(3, .int x10), (0, .ref b), (1, .ref (G.2.2.1 0)), (2, .ref (G.2.2.1 139))]) hx hb dL_law_1294 hl (k := 3) rfl (by rw [ex10]; rfl) (by decide) rfl (fun ls hl => ?_)
    refine lv_goto (tgt := 18) hx hb dL_law_1297 (by decide) ?_
    exact ih x10 M7 _ _ ls hW hS (lv_sub hl [1, 2, 3, 0] rfl) hf
  · have hf := i_f hf c9
    refine lv_iconst (v := (0 : Int32)) hx hb dL_law_886 (by decide) ?_
    exact absurd (show (0 : Int32) = 1 from s_1 hf) (by decide)
def f_law_c24 (xs : Nat → Int32) (L : Nat) (K : Int32 → Mem → Option (Int32 × Mem)) (i : Int32) (M : Mem) : Option (Int32 × Mem) := (gq (inB (i + (1 : Int32)) L) (bq2 (f_X8_total (xs ((i + (1 : Int32)) : Int32).toNatClampNeg) M) (fun (x2 : Int32) (M3 : Mem) => gq (inB (i + (1 : Int32)) L) (bq2 (f_X9_total (xs ((i + (1 : Int32)) : Int32).toNatClampNeg) M3) (fun (x6 : Int32) (M7 : Mem) => (if x2 = x6 then (nmq (i + (5 : Int32)) (fun (x10 : Int32) => (K x10 M7))) else some ((0 : Int32), M7)))))))
set_option maxHeartbeats 4000000 in
set_option maxRecDepth 100000 in
theorem law_c24 {p : Program} {l : Launch} {e : Env} {s : State} {m : MethodId} {args : Array Value} {below : List Frame} {meth : Method} {c : Code} {cells slots : Nat} {Q : State → Prop} {G : GG} {b L : Nat} {xs : Nat → Int32} {Mr : Mem} (hB : BX p s m args c cL_law 4 RL G) (hcs : cells ≤ room_1.cells ∧ slots ≤ room_1.slots) (hX : va_X b L xs s s.heap) (hbl : b < s.heap.size) (hbA : ¬ adA G b) {K : Int32 → Mem → Option (Int32 × Mem)} (ih : ∀ (i : Int32) (M : Mem) (H : Heap) (locs : List Loc) (ls : Array Slot), Wd G M H → va_S (adA G) s.heap H locs → lv_has ls 4 [(0, .ref b), (1, .ref (G.2.2.1 0)), (2, .ref (G.2.2.1 139)), (3, .int i)] → K i M = some ((1 : Int32), Mr) → W p l e room_1 s m args below meth c H locs cells slots Q (F0 m 18 ls [])) : ∀ (i : Int32) (M : Mem) (H : Heap) (locs : List Loc) (ls : Array Slot), Wd G M H → va_S (adA G) s.heap H locs → lv_has ls 4 [(0, .ref b), (1, .ref (G.2.2.1 0)), (2, .ref (G.2.2.1 139)), (3, .int i)] → f_law_c24 xs L K i M = some ((1 : Int32), Mr) → W p l e room_1 s m args below meth c H locs cells slots Q (F0 m 888 ls []) := by
  intro i M H locs ls hW hS hl hf
  have hx := hB.x
  have hb := hB.b
  unfold f_law_c24 at hf
  refine lv_aload_n hx hb dL_law_888 rfl (lv_at hl 1 rfl) ?_
  refine lv_aload_n hx hb dL_law_889 rfl (lv_at hl 0 rfl) ?_
  refine lv_iload_n hx hb dL_law_890 rfl (lv_at hl 3 rfl) ?_
  refine lv_iconst (v := (1 : Int32)) hx hb dL_law_891 (by decide) ?_
  refine lv_iadd hx hb dL_law_892 ?_
  obtain ⟨h1, hf⟩ := g_o hf
  refine va_sld hx hb hX hbl hbA hS h1 dL_law_893 ?_
  obtain ⟨x2, M3, hg4, hf⟩ := b_o2 hf
  refine x_ci hB (x_rv hB hW hS (As := [.int (xs ((i + (1 : Int32)) : Int32).toNatClampNeg)]) (rest := []) (ct_X8_total l G hg4) (cl_RL_114 hB.2.2.2.2.1 ⟨Nat.le_of_ble_eq_true rfl, Nat.le_of_ble_eq_true rfl⟩) tl0 (by decide) rfl rfl hl.1 rfl (Nat.le_of_ble_eq_true rfl) dL_law_894 hcs) hS (fun H locs hW hS => ?_)
  refine lv_aload_n hx hb dL_law_897 rfl (lv_at hl 2 rfl) ?_
  refine lv_aload_n hx hb dL_law_898 rfl (lv_at hl 0 rfl) ?_
  refine lv_iload_n hx hb dL_law_899 rfl (lv_at hl 3 rfl) ?_
  refine lv_iconst (v := (1 : Int32)) hx hb dL_law_900 (by decide) ?_
  refine lv_iadd hx hb dL_law_901 ?_
  obtain ⟨h5, hf⟩ := g_o hf
  refine va_sld hx hb hX hbl hbA hS h5 dL_law_902 ?_
  obtain ⟨x6, M7, hg8, hf⟩ := b_o2 hf
  refine x_ci hB (x_rv hB hW hS (As := [.int (xs ((i + (1 : Int32)) : Int32).toNatClampNeg)]) (rest := [.int x2]) (ct_X9_total l G hg8) (cl_RL_117 hB.2.2.2.2.1 ⟨Nat.le_of_ble_eq_true rfl, Nat.le_of_ble_eq_true rfl⟩) tl139 (by decide) rfl rfl hl.1 rfl (Nat.le_of_ble_eq_true rfl) dL_law_903 hcs) hS (fun H locs hW hS => ?_)
  refine lv_icmp_eq (tgt := 1294) hx hb dL_law_906 (by decide) (fun c9 => ?_) (fun c9 => ?_)
  · have hf := i_t hf c9
    obtain ⟨x10, ex10⟩ : ∃ y : Int32, y = i + (5 : Int32) := ⟨_, rfl⟩
    have hf := nm_o hf ex10
    refine lv_iinc (v := x10) (lv' := [(3, .int x10), (0, .ref b), (1, .ref (G.2.2.1 0)), (2, .ref (G.2.2.1 139))]) hx hb dL_law_1294 hl (k := 3) rfl (by rw [ex10]; rfl) (by decide) rfl (fun ls hl => ?_)
    refine lv_goto (tgt := 18) hx hb dL_law_1297 (by decide) ?_
    exact ih x10 M7 _ _ ls hW hS (lv_sub hl [1, 2, 3, 0] rfl) hf
  · have hf := i_f hf c9
    refine lv_iconst (v := (0 : Int32)) hx hb dL_law_909 (by decide) ?_
    exact absurd (show (0 : Int32) = 1 from s_1 hf) (by decide)
def f_law_c25 (xs : Nat → Int32) (L : Nat) (K : Int32 → Mem → Option (Int32 × Mem)) (i : Int32) (M : Mem) : Option (Int32 × Mem) := (bq2 (f_X8_firstFit M) (fun (x1 : Int32) (M2 : Mem) => bq2 (f_X9_firstFit M2) (fun (x4 : Int32) (M5 : Mem) => (if x1 = x4 then (nmq (i + (5 : Int32)) (fun (x8 : Int32) => (K x8 M5))) else some ((0 : Int32), M5)))))
set_option maxHeartbeats 4000000 in
set_option maxRecDepth 100000 in
theorem law_c25 {p : Program} {l : Launch} {e : Env} {s : State} {m : MethodId} {args : Array Value} {below : List Frame} {meth : Method} {c : Code} {cells slots : Nat} {Q : State → Prop} {G : GG} {b L : Nat} {xs : Nat → Int32} {Mr : Mem} (hB : BX p s m args c cL_law 4 RL G) (hcs : cells ≤ room_1.cells ∧ slots ≤ room_1.slots) (hX : va_X b L xs s s.heap) (hbl : b < s.heap.size) (hbA : ¬ adA G b) {K : Int32 → Mem → Option (Int32 × Mem)} (ih : ∀ (i : Int32) (M : Mem) (H : Heap) (locs : List Loc) (ls : Array Slot), Wd G M H → va_S (adA G) s.heap H locs → lv_has ls 4 [(0, .ref b), (1, .ref (G.2.2.1 0)), (2, .ref (G.2.2.1 139)), (3, .int i)] → K i M = some ((1 : Int32), Mr) → W p l e room_1 s m args below meth c H locs cells slots Q (F0 m 18 ls [])) : ∀ (i : Int32) (M : Mem) (H : Heap) (locs : List Loc) (ls : Array Slot), Wd G M H → va_S (adA G) s.heap H locs → lv_has ls 4 [(0, .ref b), (1, .ref (G.2.2.1 0)), (2, .ref (G.2.2.1 139)), (3, .int i)] → f_law_c25 xs L K i M = some ((1 : Int32), Mr) → W p l e room_1 s m args below meth c H locs cells slots Q (F0 m 911 ls []) := by
  intro i M H locs ls hW hS hl hf
  have hx := hB.x
  have hb := hB.b
  unfold f_law_c25 at hf
  refine lv_aload_n hx hb dL_law_911 rfl (lv_at hl 1 rfl) ?_
  obtain ⟨x1, M2, hg3, hf⟩ := b_o2 hf
  refine x_ci hB (x_rv hB hW hS (As := []) (rest := []) (ct_X8_firstFit l G hg3) (cl_RL_118 hB.2.2.2.2.1 ⟨Nat.le_of_ble_eq_true rfl, Nat.le_of_ble_eq_true rfl⟩) tl0 (by decide) rfl rfl hl.1 rfl (Nat.le_of_ble_eq_true rfl) dL_law_912 hcs) hS (fun H locs hW hS => ?_)
  refine lv_aload_n hx hb dL_law_915 rfl (lv_at hl 2 rfl) ?_
  obtain ⟨x4, M5, hg6, hf⟩ := b_o2 hf
  refine x_ci hB (x_rv hB hW hS (As := []) (rest := [.int x1]) (ct_X9_firstFit l G hg6) (cl_RL_121 hB.2.2.2.2.1 ⟨Nat.le_of_ble_eq_true rfl, Nat.le_of_ble_eq_true rfl⟩) tl139 (by decide) rfl rfl hl.1 rfl (Nat.le_of_ble_eq_true rfl) dL_law_916 hcs) hS (fun H locs hW hS => ?_)
  refine lv_icmp_eq (tgt := 1294) hx hb dL_law_919 (by decide) (fun c7 => ?_) (fun c7 => ?_)
  · have hf := i_t hf c7
    obtain ⟨x8, ex8⟩ : ∃ y : Int32, y = i + (5 : Int32) := ⟨_, rfl⟩
    have hf := nm_o hf ex8
    refine lv_iinc (v := x8) (lv' := [(3, .int x8), (0, .ref b), (1, .ref (G.2.2.1 0)), (2, .ref (G.2.2.1 139))]) hx hb dL_law_1294 hl (k := 3) rfl (by rw [ex8]; rfl) (by decide) rfl (fun ls hl => ?_)
    refine lv_goto (tgt := 18) hx hb dL_law_1297 (by decide) ?_
    exact ih x8 M5 _ _ ls hW hS (lv_sub hl [1, 2, 3, 0] rfl) hf
  · have hf := i_f hf c7
    refine lv_iconst (v := (0 : Int32)) hx hb dL_law_922 (by decide) ?_
    exact absurd (show (0 : Int32) = 1 from s_1 hf) (by decide)
def f_law_c26 (xs : Nat → Int32) (L : Nat) (K : Int32 → Mem → Option (Int32 × Mem)) (i : Int32) (M : Mem) : Option (Int32 × Mem) := (gq (inB (i + (1 : Int32)) L) (bq2 (f_X8_with (xs ((i + (1 : Int32)) : Int32).toNatClampNeg) M) (fun (x2 : Int32) (M3 : Mem) => gq (inB (i + (1 : Int32)) L) (bq2 (f_X9_with (xs ((i + (1 : Int32)) : Int32).toNatClampNeg) M3) (fun (x6 : Int32) (M7 : Mem) => (if x2 = x6 then (nmq (i + (5 : Int32)) (fun (x10 : Int32) => (K x10 M7))) else some ((0 : Int32), M7)))))))
set_option maxHeartbeats 4000000 in
set_option maxRecDepth 100000 in
theorem law_c26 {p : Program} {l : Launch} {e : Env} {s : State} {m : MethodId} {args : Array Value} {below : List Frame} {meth : Method} {c : Code} {cells slots : Nat} {Q : State → Prop} {G : GG} {b L : Nat} {xs : Nat → Int32} {Mr : Mem} (hB : BX p s m args c cL_law 4 RL G) (hcs : cells ≤ room_1.cells ∧ slots ≤ room_1.slots) (hX : va_X b L xs s s.heap) (hbl : b < s.heap.size) (hbA : ¬ adA G b) {K : Int32 → Mem → Option (Int32 × Mem)} (ih : ∀ (i : Int32) (M : Mem) (H : Heap) (locs : List Loc) (ls : Array Slot), Wd G M H → va_S (adA G) s.heap H locs → lv_has ls 4 [(0, .ref b), (1, .ref (G.2.2.1 0)), (2, .ref (G.2.2.1 139)), (3, .int i)] → K i M = some ((1 : Int32), Mr) → W p l e room_1 s m args below meth c H locs cells slots Q (F0 m 18 ls [])) : ∀ (i : Int32) (M : Mem) (H : Heap) (locs : List Loc) (ls : Array Slot), Wd G M H → va_S (adA G) s.heap H locs → lv_has ls 4 [(0, .ref b), (1, .ref (G.2.2.1 0)), (2, .ref (G.2.2.1 139)), (3, .int i)] → f_law_c26 xs L K i M = some ((1 : Int32), Mr) → W p l e room_1 s m args below meth c H locs cells slots Q (F0 m 924 ls []) := by
  intro i M H locs ls hW hS hl hf
  have hx := hB.x
  have hb := hB.b
  unfold f_law_c26 at hf
  refine lv_aload_n hx hb dL_law_924 rfl (lv_at hl 1 rfl) ?_
  refine lv_aload_n hx hb dL_law_925 rfl (lv_at hl 0 rfl) ?_
  refine lv_iload_n hx hb dL_law_926 rfl (lv_at hl 3 rfl) ?_
  refine lv_iconst (v := (1 : Int32)) hx hb dL_law_927 (by decide) ?_
  refine lv_iadd hx hb dL_law_928 ?_
  obtain ⟨h1, hf⟩ := g_o hf
  refine va_sld hx hb hX hbl hbA hS h1 dL_law_929 ?_
  obtain ⟨x2, M3, hg4, hf⟩ := b_o2 hf
  refine x_ci hB (x_rv hB hW hS (As := [.int (xs ((i + (1 : Int32)) : Int32).toNatClampNeg)]) (rest := []) (ct_X8_with l G hg4) (cl_RL_122 hB.2.2.2.2.1 ⟨Nat.le_of_ble_eq_true rfl, Nat.le_of_ble_eq_true rfl⟩) tl0 (by decide) rfl rfl hl.1 rfl (Nat.le_of_ble_eq_true rfl) dL_law_930 hcs) hS (fun H locs hW hS => ?_)
  refine lv_aload_n hx hb dL_law_933 rfl (lv_at hl 2 rfl) ?_
  refine lv_aload_n hx hb dL_law_934 rfl (lv_at hl 0 rfl) ?_
  refine lv_iload_n hx hb dL_law_935 rfl (lv_at hl 3 rfl) ?_
  refine lv_iconst (v := (1 : Int32)) hx hb dL_law_936 (by decide) ?_
  refine lv_iadd hx hb dL_law_937 ?_
  obtain ⟨h5, hf⟩ := g_o hf
  refine va_sld hx hb hX hbl hbA hS h5 dL_law_938 ?_
  obtain ⟨x6, M7, hg8, hf⟩ := b_o2 hf
  refine x_ci hB (x_rv hB hW hS (As := [.int (xs ((i + (1 : Int32)) : Int32).toNatClampNeg)]) (rest := [.int x2]) (ct_X9_with l G hg8) (cl_RL_125 hB.2.2.2.2.1 ⟨Nat.le_of_ble_eq_true rfl, Nat.le_of_ble_eq_true rfl⟩) tl139 (by decide) rfl rfl hl.1 rfl (Nat.le_of_ble_eq_true rfl) dL_law_939 hcs) hS (fun H locs hW hS => ?_)
  refine lv_icmp_eq (tgt := 1294) hx hb dL_law_942 (by decide) (fun c9 => ?_) (fun c9 => ?_)
  · have hf := i_t hf c9
    obtain ⟨x10, ex10⟩ : ∃ y : Int32, y = i + (5 : Int32) := ⟨_, rfl⟩
    have hf := nm_o hf ex10
    refine lv_iinc (v := x10) (lv' := [(3, .int x10), (0, .ref b), (1, .ref (G.2.2.1 0)), (2, .ref (G.2.2.1 139))]) hx hb dL_law_1294 hl (k := 3) rfl (by rw [ex10]; rfl) (by decide) rfl (fun ls hl => ?_)
    refine lv_goto (tgt := 18) hx hb dL_law_1297 (by decide) ?_
    exact ih x10 M7 _ _ ls hW hS (lv_sub hl [1, 2, 3, 0] rfl) hf
  · have hf := i_f hf c9
    refine lv_iconst (v := (0 : Int32)) hx hb dL_law_945 (by decide) ?_
    exact absurd (show (0 : Int32) = 1 from s_1 hf) (by decide)
def f_law_c27 (xs : Nat → Int32) (L : Nat) (K : Int32 → Mem → Option (Int32 × Mem)) (i : Int32) (M : Mem) : Option (Int32 × Mem) := (gq (inB (i + (1 : Int32)) L) (bq2 (f_X8_narrowest (xs ((i + (1 : Int32)) : Int32).toNatClampNeg) M) (fun (x2 : Int32) (M3 : Mem) => gq (inB (i + (1 : Int32)) L) (bq2 (f_X9_narrowest (xs ((i + (1 : Int32)) : Int32).toNatClampNeg) M3) (fun (x6 : Int32) (M7 : Mem) => (if x2 = x6 then (nmq (i + (5 : Int32)) (fun (x10 : Int32) => (K x10 M7))) else some ((0 : Int32), M7)))))))
set_option maxHeartbeats 4000000 in
set_option maxRecDepth 100000 in
theorem law_c27 {p : Program} {l : Launch} {e : Env} {s : State} {m : MethodId} {args : Array Value} {below : List Frame} {meth : Method} {c : Code} {cells slots : Nat} {Q : State → Prop} {G : GG} {b L : Nat} {xs : Nat → Int32} {Mr : Mem} (hB : BX p s m args c cL_law 4 RL G) (hcs : cells ≤ room_1.cells ∧ slots ≤ room_1.slots) (hX : va_X b L xs s s.heap) (hbl : b < s.heap.size) (hbA : ¬ adA G b) {K : Int32 → Mem → Option (Int32 × Mem)} (ih : ∀ (i : Int32) (M : Mem) (H : Heap) (locs : List Loc) (ls : Array Slot), Wd G M H → va_S (adA G) s.heap H locs → lv_has ls 4 [(0, .ref b), (1, .ref (G.2.2.1 0)), (2, .ref (G.2.2.1 139)), (3, .int i)] → K i M = some ((1 : Int32), Mr) → W p l e room_1 s m args below meth c H locs cells slots Q (F0 m 18 ls [])) : ∀ (i : Int32) (M : Mem) (H : Heap) (locs : List Loc) (ls : Array Slot), Wd G M H → va_S (adA G) s.heap H locs → lv_has ls 4 [(0, .ref b), (1, .ref (G.2.2.1 0)), (2, .ref (G.2.2.1 139)), (3, .int i)] → f_law_c27 xs L K i M = some ((1 : Int32), Mr) → W p l e room_1 s m args below meth c H locs cells slots Q (F0 m 947 ls []) := by
  intro i M H locs ls hW hS hl hf
  have hx := hB.x
  have hb := hB.b
  unfold f_law_c27 at hf
  refine lv_aload_n hx hb dL_law_947 rfl (lv_at hl 1 rfl) ?_
  refine lv_aload_n hx hb dL_law_948 rfl (lv_at hl 0 rfl) ?_
  refine lv_iload_n hx hb dL_law_949 rfl (lv_at hl 3 rfl) ?_
  refine lv_iconst (v := (1 : Int32)) hx hb dL_law_950 (by decide) ?_
  refine lv_iadd hx hb dL_law_951 ?_
  obtain ⟨h1, hf⟩ := g_o hf
  refine va_sld hx hb hX hbl hbA hS h1 dL_law_952 ?_
  obtain ⟨x2, M3, hg4, hf⟩ := b_o2 hf
  refine x_ci hB (x_rv hB hW hS (As := [.int (xs ((i + (1 : Int32)) : Int32).toNatClampNeg)]) (rest := []) (ct_X8_narrowest l G hg4) (cl_RL_126 hB.2.2.2.2.1 ⟨Nat.le_of_ble_eq_true rfl, Nat.le_of_ble_eq_true rfl⟩) tl0 (by decide) rfl rfl hl.1 rfl (Nat.le_of_ble_eq_true rfl) dL_law_953 hcs) hS (fun H locs hW hS => ?_)
  refine lv_aload_n hx hb dL_law_956 rfl (lv_at hl 2 rfl) ?_
  refine lv_aload_n hx hb dL_law_957 rfl (lv_at hl 0 rfl) ?_
  refine lv_iload_n hx hb dL_law_958 rfl (lv_at hl 3 rfl) ?_
  refine lv_iconst (v := (1 : Int32)) hx hb dL_law_959 (by decide) ?_
  refine lv_iadd hx hb dL_law_960 ?_
  obtain ⟨h5, hf⟩ := g_o hf
  refine va_sld hx hb hX hbl hbA hS h5 dL_law_961 ?_
  obtain ⟨x6, M7, hg8, hf⟩ := b_o2 hf
  refine x_ci hB (x_rv hB hW hS (As := [.int (xs ((i + (1 : Int32)) : Int32).toNatClampNeg)]) (rest := [.int x2]) (ct_X9_narrowest l G hg8) (cl_RL_129 hB.2.2.2.2.1 ⟨Nat.le_of_ble_eq_true rfl, Nat.le_of_ble_eq_true rfl⟩) tl139 (by decide) rfl rfl hl.1 rfl (Nat.le_of_ble_eq_true rfl) dL_law_962 hcs) hS (fun H locs hW hS => ?_)
  refine lv_icmp_eq (tgt := 1294) hx hb dL_law_965 (by decide) (fun c9 => ?_) (fun c9 => ?_)
  · have hf := i_t hf c9
    obtain ⟨x10, ex10⟩ : ∃ y : Int32, y = i + (5 : Int32) := ⟨_, rfl⟩
    have hf := nm_o hf ex10
    refine lv_iinc (v := x10) (lv' := [(3, .int x10), (0, .ref b), (1, .ref (G.2.2.1 0)), (2, .ref (G.2.2.1 139))]) hx hb dL_law_1294 hl (k := 3) rfl (by rw [ex10]; rfl) (by decide) rfl (fun ls hl => ?_)
    refine lv_goto (tgt := 18) hx hb dL_law_1297 (by decide) ?_
    exact ih x10 M7 _ _ ls hW hS (lv_sub hl [1, 2, 3, 0] rfl) hf
  · have hf := i_f hf c9
    refine lv_iconst (v := (0 : Int32)) hx hb dL_law_968 (by decide) ?_
    exact absurd (show (0 : Int32) = 1 from s_1 hf) (by decide)
def f_law_c28 (xs : Nat → Int32) (L : Nat) (K : Int32 → Mem → Option (Int32 × Mem)) (i : Int32) (M : Mem) : Option (Int32 × Mem) := (gq (inB (i + (1 : Int32)) L) (gq (inB (i + (2 : Int32)) L) (bq2 (f_X8_without (xs ((i + (1 : Int32)) : Int32).toNatClampNeg) (xs ((i + (2 : Int32)) : Int32).toNatClampNeg) M) (fun (x3 : Int32) (M4 : Mem) => gq (inB (i + (1 : Int32)) L) (gq (inB (i + (2 : Int32)) L) (bq2 (f_X9_without (xs ((i + (1 : Int32)) : Int32).toNatClampNeg) (xs ((i + (2 : Int32)) : Int32).toNatClampNeg) M4) (fun (x8 : Int32) (M9 : Mem) => (if x3 = x8 then (nmq (i + (5 : Int32)) (fun (x12 : Int32) => (K x12 M9))) else some ((0 : Int32), M9)))))))))
set_option maxHeartbeats 4000000 in
set_option maxRecDepth 100000 in
theorem law_c28 {p : Program} {l : Launch} {e : Env} {s : State} {m : MethodId} {args : Array Value} {below : List Frame} {meth : Method} {c : Code} {cells slots : Nat} {Q : State → Prop} {G : GG} {b L : Nat} {xs : Nat → Int32} {Mr : Mem} (hB : BX p s m args c cL_law 4 RL G) (hcs : cells ≤ room_1.cells ∧ slots ≤ room_1.slots) (hX : va_X b L xs s s.heap) (hbl : b < s.heap.size) (hbA : ¬ adA G b) {K : Int32 → Mem → Option (Int32 × Mem)} (ih : ∀ (i : Int32) (M : Mem) (H : Heap) (locs : List Loc) (ls : Array Slot), Wd G M H → va_S (adA G) s.heap H locs → lv_has ls 4 [(0, .ref b), (1, .ref (G.2.2.1 0)), (2, .ref (G.2.2.1 139)), (3, .int i)] → K i M = some ((1 : Int32), Mr) → W p l e room_1 s m args below meth c H locs cells slots Q (F0 m 18 ls [])) : ∀ (i : Int32) (M : Mem) (H : Heap) (locs : List Loc) (ls : Array Slot), Wd G M H → va_S (adA G) s.heap H locs → lv_has ls 4 [(0, .ref b), (1, .ref (G.2.2.1 0)), (2, .ref (G.2.2.1 139)), (3, .int i)] → f_law_c28 xs L K i M = some ((1 : Int32), Mr) → W p l e room_1 s m args below meth c H locs cells slots Q (F0 m 970 ls []) := by
  intro i M H locs ls hW hS hl hf
  have hx := hB.x
  have hb := hB.b
  unfold f_law_c28 at hf
  refine lv_aload_n hx hb dL_law_970 rfl (lv_at hl 1 rfl) ?_
  refine lv_aload_n hx hb dL_law_971 rfl (lv_at hl 0 rfl) ?_
  refine lv_iload_n hx hb dL_law_972 rfl (lv_at hl 3 rfl) ?_
  refine lv_iconst (v := (1 : Int32)) hx hb dL_law_973 (by decide) ?_
  refine lv_iadd hx hb dL_law_974 ?_
  obtain ⟨h1, hf⟩ := g_o hf
  refine va_sld hx hb hX hbl hbA hS h1 dL_law_975 ?_
  refine lv_aload_n hx hb dL_law_976 rfl (lv_at hl 0 rfl) ?_
  refine lv_iload_n hx hb dL_law_977 rfl (lv_at hl 3 rfl) ?_
  refine lv_iconst (v := (2 : Int32)) hx hb dL_law_978 (by decide) ?_
  refine lv_iadd hx hb dL_law_979 ?_
  obtain ⟨h2, hf⟩ := g_o hf
  refine va_sld hx hb hX hbl hbA hS h2 dL_law_980 ?_
  obtain ⟨x3, M4, hg5, hf⟩ := b_o2 hf
  refine x_ci hB (x_rv hB hW hS (As := [.int (xs ((i + (1 : Int32)) : Int32).toNatClampNeg), .int (xs ((i + (2 : Int32)) : Int32).toNatClampNeg)]) (rest := []) (ct_X8_without l G hg5) (cl_RL_130 hB.2.2.2.2.1 ⟨Nat.le_of_ble_eq_true rfl, Nat.le_of_ble_eq_true rfl⟩) tl0 (by decide) rfl rfl hl.1 rfl (Nat.le_of_ble_eq_true rfl) dL_law_981 hcs) hS (fun H locs hW hS => ?_)
  refine lv_aload_n hx hb dL_law_984 rfl (lv_at hl 2 rfl) ?_
  refine lv_aload_n hx hb dL_law_985 rfl (lv_at hl 0 rfl) ?_
  refine lv_iload_n hx hb dL_law_986 rfl (lv_at hl 3 rfl) ?_
  refine lv_iconst (v := (1 : Int32)) hx hb dL_law_987 (by decide) ?_
  refine lv_iadd hx hb dL_law_988 ?_
  obtain ⟨h6, hf⟩ := g_o hf
  refine va_sld hx hb hX hbl hbA hS h6 dL_law_989 ?_
  refine lv_aload_n hx hb dL_law_990 rfl (lv_at hl 0 rfl) ?_
  refine lv_iload_n hx hb dL_law_991 rfl (lv_at hl 3 rfl) ?_
  refine lv_iconst (v := (2 : Int32)) hx hb dL_law_992 (by decide) ?_
  refine lv_iadd hx hb dL_law_993 ?_
  obtain ⟨h7, hf⟩ := g_o hf
  refine va_sld hx hb hX hbl hbA hS h7 dL_law_994 ?_
  obtain ⟨x8, M9, hg10, hf⟩ := b_o2 hf
  refine x_ci hB (x_rv hB hW hS (As := [.int (xs ((i + (1 : Int32)) : Int32).toNatClampNeg), .int (xs ((i + (2 : Int32)) : Int32).toNatClampNeg)]) (rest := [.int x3]) (ct_X9_without l G hg10) (cl_RL_133 hB.2.2.2.2.1 ⟨Nat.le_of_ble_eq_true rfl, Nat.le_of_ble_eq_true rfl⟩) tl139 (by decide) rfl rfl hl.1 rfl (Nat.le_of_ble_eq_true rfl) dL_law_995 hcs) hS (fun H locs hW hS => ?_)
  refine lv_icmp_eq (tgt := 1294) hx hb dL_law_998 (by decide) (fun c11 => ?_) (fun c11 => ?_)
  · have hf := i_t hf c11
    obtain ⟨x12, ex12⟩ : ∃ y : Int32, y = i + (5 : Int32) := ⟨_, rfl⟩
    have hf := nm_o hf ex12
    refine lv_iinc (v := x12) (lv' := [(3, .int x12), (0, .ref b), (1, .ref (G.2.2.1 0)), (2, .ref (G.2.2.1 139))]) hx hb dL_law_1294 hl (k := 3) rfl (by rw [ex12]; rfl) (by decide) rfl (fun ls hl => ?_)
    refine lv_goto (tgt := 18) hx hb dL_law_1297 (by decide) ?_
    exact ih x12 M9 _ _ ls hW hS (lv_sub hl [1, 2, 3, 0] rfl) hf
  · have hf := i_f hf c11
    refine lv_iconst (v := (0 : Int32)) hx hb dL_law_1001 (by decide) ?_
    exact absurd (show (0 : Int32) = 1 from s_1 hf) (by decide)
def f_law_c29 (xs : Nat → Int32) (L : Nat) (K : Int32 → Mem → Option (Int32 × Mem)) (i : Int32) (M : Mem) : Option (Int32 × Mem) := (bq2 (f_X8_worst M) (fun (x1 : Int32) (M2 : Mem) => bq2 (f_X9_worst M2) (fun (x4 : Int32) (M5 : Mem) => (if x1 = x4 then (nmq (i + (5 : Int32)) (fun (x8 : Int32) => (K x8 M5))) else some ((0 : Int32), M5)))))
set_option maxHeartbeats 4000000 in
set_option maxRecDepth 100000 in
theorem law_c29 {p : Program} {l : Launch} {e : Env} {s : State} {m : MethodId} {args : Array Value} {below : List Frame} {meth : Method} {c : Code} {cells slots : Nat} {Q : State → Prop} {G : GG} {b L : Nat} {xs : Nat → Int32} {Mr : Mem} (hB : BX p s m args c cL_law 4 RL G) (hcs : cells ≤ room_1.cells ∧ slots ≤ room_1.slots) (hX : va_X b L xs s s.heap) (hbl : b < s.heap.size) (hbA : ¬ adA G b) {K : Int32 → Mem → Option (Int32 × Mem)} (ih : ∀ (i : Int32) (M : Mem) (H : Heap) (locs : List Loc) (ls : Array Slot), Wd G M H → va_S (adA G) s.heap H locs → lv_has ls 4 [(0, .ref b), (1, .ref (G.2.2.1 0)), (2, .ref (G.2.2.1 139)), (3, .int i)] → K i M = some ((1 : Int32), Mr) → W p l e room_1 s m args below meth c H locs cells slots Q (F0 m 18 ls [])) : ∀ (i : Int32) (M : Mem) (H : Heap) (locs : List Loc) (ls : Array Slot), Wd G M H → va_S (adA G) s.heap H locs → lv_has ls 4 [(0, .ref b), (1, .ref (G.2.2.1 0)), (2, .ref (G.2.2.1 139)), (3, .int i)] → f_law_c29 xs L K i M = some ((1 : Int32), Mr) → W p l e room_1 s m args below meth c H locs cells slots Q (F0 m 1003 ls []) := by
  intro i M H locs ls hW hS hl hf
  have hx := hB.x
  have hb := hB.b
  unfold f_law_c29 at hf
  refine lv_aload_n hx hb dL_law_1003 rfl (lv_at hl 1 rfl) ?_
  obtain ⟨x1, M2, hg3, hf⟩ := b_o2 hf
  refine x_ci hB (x_rv hB hW hS (As := []) (rest := []) (ct_X8_worst l G hg3) (cl_RL_134 hB.2.2.2.2.1 ⟨Nat.le_of_ble_eq_true rfl, Nat.le_of_ble_eq_true rfl⟩) tl0 (by decide) rfl rfl hl.1 rfl (Nat.le_of_ble_eq_true rfl) dL_law_1004 hcs) hS (fun H locs hW hS => ?_)
  refine lv_aload_n hx hb dL_law_1007 rfl (lv_at hl 2 rfl) ?_
  obtain ⟨x4, M5, hg6, hf⟩ := b_o2 hf
  refine x_ci hB (x_rv hB hW hS (As := []) (rest := [.int x1]) (ct_X9_worst l G hg6) (cl_RL_137 hB.2.2.2.2.1 ⟨Nat.le_of_ble_eq_true rfl, Nat.le_of_ble_eq_true rfl⟩) tl139 (by decide) rfl rfl hl.1 rfl (Nat.le_of_ble_eq_true rfl) dL_law_1008 hcs) hS (fun H locs hW hS => ?_)
  refine lv_icmp_eq (tgt := 1294) hx hb dL_law_1011 (by decide) (fun c7 => ?_) (fun c7 => ?_)
  · have hf := i_t hf c7
    obtain ⟨x8, ex8⟩ : ∃ y : Int32, y = i + (5 : Int32) := ⟨_, rfl⟩
    have hf := nm_o hf ex8
    refine lv_iinc (v := x8) (lv' := [(3, .int x8), (0, .ref b), (1, .ref (G.2.2.1 0)), (2, .ref (G.2.2.1 139))]) hx hb dL_law_1294 hl (k := 3) rfl (by rw [ex8]; rfl) (by decide) rfl (fun ls hl => ?_)
    refine lv_goto (tgt := 18) hx hb dL_law_1297 (by decide) ?_
    exact ih x8 M5 _ _ ls hW hS (lv_sub hl [1, 2, 3, 0] rfl) hf
  · have hf := i_f hf c7
    refine lv_iconst (v := (0 : Int32)) hx hb dL_law_1014 (by decide) ?_
    exact absurd (show (0 : Int32) = 1 from s_1 hf) (by decide)
def f_law_c30 (xs : Nat → Int32) (L : Nat) (K : Int32 → Mem → Option (Int32 × Mem)) (i : Int32) (M : Mem) : Option (Int32 × Mem) := (bq2 (f_X8_manners M) (fun (x1 : Int32) (M2 : Mem) => bq2 (f_X9_manners M2) (fun (x4 : Int32) (M5 : Mem) => (if x1 = x4 then (nmq (i + (5 : Int32)) (fun (x8 : Int32) => (K x8 M5))) else some ((0 : Int32), M5)))))
set_option maxHeartbeats 4000000 in
set_option maxRecDepth 100000 in
theorem law_c30 {p : Program} {l : Launch} {e : Env} {s : State} {m : MethodId} {args : Array Value} {below : List Frame} {meth : Method} {c : Code} {cells slots : Nat} {Q : State → Prop} {G : GG} {b L : Nat} {xs : Nat → Int32} {Mr : Mem} (hB : BX p s m args c cL_law 4 RL G) (hcs : cells ≤ room_1.cells ∧ slots ≤ room_1.slots) (hX : va_X b L xs s s.heap) (hbl : b < s.heap.size) (hbA : ¬ adA G b) {K : Int32 → Mem → Option (Int32 × Mem)} (ih : ∀ (i : Int32) (M : Mem) (H : Heap) (locs : List Loc) (ls : Array Slot), Wd G M H → va_S (adA G) s.heap H locs → lv_has ls 4 [(0, .ref b), (1, .ref (G.2.2.1 0)), (2, .ref (G.2.2.1 139)), (3, .int i)] → K i M = some ((1 : Int32), Mr) → W p l e room_1 s m args below meth c H locs cells slots Q (F0 m 18 ls [])) : ∀ (i : Int32) (M : Mem) (H : Heap) (locs : List Loc) (ls : Array Slot), Wd G M H → va_S (adA G) s.heap H locs → lv_has ls 4 [(0, .ref b), (1, .ref (G.2.2.1 0)), (2, .ref (G.2.2.1 139)), (3, .int i)] → f_law_c30 xs L K i M = some ((1 : Int32), Mr) → W p l e room_1 s m args below meth c H locs cells slots Q (F0 m 1016 ls []) := by
  intro i M H locs ls hW hS hl hf
  have hx := hB.x
  have hb := hB.b
  unfold f_law_c30 at hf
  refine lv_aload_n hx hb dL_law_1016 rfl (lv_at hl 1 rfl) ?_
  obtain ⟨x1, M2, hg3, hf⟩ := b_o2 hf
  refine x_ci hB (x_rv hB hW hS (As := []) (rest := []) (ct_X8_manners l G hg3) (cl_RL_138 hB.2.2.2.2.1 ⟨Nat.le_of_ble_eq_true rfl, Nat.le_of_ble_eq_true rfl⟩) tl0 (by decide) rfl rfl hl.1 rfl (Nat.le_of_ble_eq_true rfl) dL_law_1017 hcs) hS (fun H locs hW hS => ?_)
  refine lv_aload_n hx hb dL_law_1020 rfl (lv_at hl 2 rfl) ?_
  obtain ⟨x4, M5, hg6, hf⟩ := b_o2 hf
  refine x_ci hB (x_rv hB hW hS (As := []) (rest := [.int x1]) (ct_X9_manners l G hg6) (cl_RL_141 hB.2.2.2.2.1 ⟨Nat.le_of_ble_eq_true rfl, Nat.le_of_ble_eq_true rfl⟩) tl139 (by decide) rfl rfl hl.1 rfl (Nat.le_of_ble_eq_true rfl) dL_law_1021 hcs) hS (fun H locs hW hS => ?_)
  refine lv_icmp_eq (tgt := 1294) hx hb dL_law_1024 (by decide) (fun c7 => ?_) (fun c7 => ?_)
  · have hf := i_t hf c7
    obtain ⟨x8, ex8⟩ : ∃ y : Int32, y = i + (5 : Int32) := ⟨_, rfl⟩
    have hf := nm_o hf ex8
    refine lv_iinc (v := x8) (lv' := [(3, .int x8), (0, .ref b), (1, .ref (G.2.2.1 0)), (2, .ref (G.2.2.1 139))]) hx hb dL_law_1294 hl (k := 3) rfl (by rw [ex8]; rfl) (by decide) rfl (fun ls hl => ?_)
    refine lv_goto (tgt := 18) hx hb dL_law_1297 (by decide) ?_
    exact ih x8 M5 _ _ ls hW hS (lv_sub hl [1, 2, 3, 0] rfl) hf
  · have hf := i_f hf c7
    refine lv_iconst (v := (0 : Int32)) hx hb dL_law_1027 (by decide) ?_
    exact absurd (show (0 : Int32) = 1 from s_1 hf) (by decide)
def f_law_c31 (xs : Nat → Int32) (L : Nat) (K : Int32 → Mem → Option (Int32 × Mem)) (i : Int32) (M : Mem) : Option (Int32 × Mem) := (gq (inB (i + (1 : Int32)) L) (gq (inB (i + (2 : Int32)) L) (bq2 (f_X8_two (xs ((i + (1 : Int32)) : Int32).toNatClampNeg) (xs ((i + (2 : Int32)) : Int32).toNatClampNeg) M) (fun (x3 : Int32) (M4 : Mem) => gq (inB (i + (1 : Int32)) L) (gq (inB (i + (2 : Int32)) L) (bq2 (f_X9_two (xs ((i + (1 : Int32)) : Int32).toNatClampNeg) (xs ((i + (2 : Int32)) : Int32).toNatClampNeg) M4) (fun (x8 : Int32) (M9 : Mem) => (if x3 = x8 then (nmq (i + (5 : Int32)) (fun (x12 : Int32) => (K x12 M9))) else some ((0 : Int32), M9)))))))))
set_option maxHeartbeats 4000000 in
set_option maxRecDepth 100000 in
theorem law_c31 {p : Program} {l : Launch} {e : Env} {s : State} {m : MethodId} {args : Array Value} {below : List Frame} {meth : Method} {c : Code} {cells slots : Nat} {Q : State → Prop} {G : GG} {b L : Nat} {xs : Nat → Int32} {Mr : Mem} (hB : BX p s m args c cL_law 4 RL G) (hcs : cells ≤ room_1.cells ∧ slots ≤ room_1.slots) (hX : va_X b L xs s s.heap) (hbl : b < s.heap.size) (hbA : ¬ adA G b) {K : Int32 → Mem → Option (Int32 × Mem)} (ih : ∀ (i : Int32) (M : Mem) (H : Heap) (locs : List Loc) (ls : Array Slot), Wd G M H → va_S (adA G) s.heap H locs → lv_has ls 4 [(0, .ref b), (1, .ref (G.2.2.1 0)), (2, .ref (G.2.2.1 139)), (3, .int i)] → K i M = some ((1 : Int32), Mr) → W p l e room_1 s m args below meth c H locs cells slots Q (F0 m 18 ls [])) : ∀ (i : Int32) (M : Mem) (H : Heap) (locs : List Loc) (ls : Array Slot), Wd G M H → va_S (adA G) s.heap H locs → lv_has ls 4 [(0, .ref b), (1, .ref (G.2.2.1 0)), (2, .ref (G.2.2.1 139)), (3, .int i)] → f_law_c31 xs L K i M = some ((1 : Int32), Mr) → W p l e room_1 s m args below meth c H locs cells slots Q (F0 m 1029 ls []) := by
  intro i M H locs ls hW hS hl hf
  have hx := hB.x
  have hb := hB.b
  unfold f_law_c31 at hf
  refine lv_aload_n hx hb dL_law_1029 rfl (lv_at hl 1 rfl) ?_
  refine lv_aload_n hx hb dL_law_1030 rfl (lv_at hl 0 rfl) ?_
  refine lv_iload_n hx hb dL_law_1031 rfl (lv_at hl 3 rfl) ?_
  refine lv_iconst (v := (1 : Int32)) hx hb dL_law_1032 (by decide) ?_
  refine lv_iadd hx hb dL_law_1033 ?_
  obtain ⟨h1, hf⟩ := g_o hf
  refine va_sld hx hb hX hbl hbA hS h1 dL_law_1034 ?_
  refine lv_aload_n hx hb dL_law_1035 rfl (lv_at hl 0 rfl) ?_
  refine lv_iload_n hx hb dL_law_1036 rfl (lv_at hl 3 rfl) ?_
  refine lv_iconst (v := (2 : Int32)) hx hb dL_law_1037 (by decide) ?_
  refine lv_iadd hx hb dL_law_1038 ?_
  obtain ⟨h2, hf⟩ := g_o hf
  refine va_sld hx hb hX hbl hbA hS h2 dL_law_1039 ?_
  obtain ⟨x3, M4, hg5, hf⟩ := b_o2 hf
  refine x_ci hB (x_rv hB hW hS (As := [.int (xs ((i + (1 : Int32)) : Int32).toNatClampNeg), .int (xs ((i + (2 : Int32)) : Int32).toNatClampNeg)]) (rest := []) (ct_X8_two l G hg5) (cl_RL_142 hB.2.2.2.2.1 ⟨Nat.le_of_ble_eq_true rfl, Nat.le_of_ble_eq_true rfl⟩) tl0 (by decide) rfl rfl hl.1 rfl (Nat.le_of_ble_eq_true rfl) dL_law_1040 hcs) hS (fun H locs hW hS => ?_)
  refine lv_aload_n hx hb dL_law_1043 rfl (lv_at hl 2 rfl) ?_
  refine lv_aload_n hx hb dL_law_1044 rfl (lv_at hl 0 rfl) ?_
  refine lv_iload_n hx hb dL_law_1045 rfl (lv_at hl 3 rfl) ?_
  refine lv_iconst (v := (1 : Int32)) hx hb dL_law_1046 (by decide) ?_
  refine lv_iadd hx hb dL_law_1047 ?_
  obtain ⟨h6, hf⟩ := g_o hf
  refine va_sld hx hb hX hbl hbA hS h6 dL_law_1048 ?_
  refine lv_aload_n hx hb dL_law_1049 rfl (lv_at hl 0 rfl) ?_
  refine lv_iload_n hx hb dL_law_1050 rfl (lv_at hl 3 rfl) ?_
  refine lv_iconst (v := (2 : Int32)) hx hb dL_law_1051 (by decide) ?_
  refine lv_iadd hx hb dL_law_1052 ?_
  obtain ⟨h7, hf⟩ := g_o hf
  refine va_sld hx hb hX hbl hbA hS h7 dL_law_1053 ?_
  obtain ⟨x8, M9, hg10, hf⟩ := b_o2 hf
  refine x_ci hB (x_rv hB hW hS (As := [.int (xs ((i + (1 : Int32)) : Int32).toNatClampNeg), .int (xs ((i + (2 : Int32)) : Int32).toNatClampNeg)]) (rest := [.int x3]) (ct_X9_two l G hg10) (cl_RL_145 hB.2.2.2.2.1 ⟨Nat.le_of_ble_eq_true rfl, Nat.le_of_ble_eq_true rfl⟩) tl139 (by decide) rfl rfl hl.1 rfl (Nat.le_of_ble_eq_true rfl) dL_law_1054 hcs) hS (fun H locs hW hS => ?_)
  refine lv_icmp_eq (tgt := 1294) hx hb dL_law_1057 (by decide) (fun c11 => ?_) (fun c11 => ?_)
  · have hf := i_t hf c11
    obtain ⟨x12, ex12⟩ : ∃ y : Int32, y = i + (5 : Int32) := ⟨_, rfl⟩
    have hf := nm_o hf ex12
    refine lv_iinc (v := x12) (lv' := [(3, .int x12), (0, .ref b), (1, .ref (G.2.2.1 0)), (2, .ref (G.2.2.1 139))]) hx hb dL_law_1294 hl (k := 3) rfl (by rw [ex12]; rfl) (by decide) rfl (fun ls hl => ?_)
    refine lv_goto (tgt := 18) hx hb dL_law_1297 (by decide) ?_
    exact ih x12 M9 _ _ ls hW hS (lv_sub hl [1, 2, 3, 0] rfl) hf
  · have hf := i_f hf c11
    refine lv_iconst (v := (0 : Int32)) hx hb dL_law_1060 (by decide) ?_
    exact absurd (show (0 : Int32) = 1 from s_1 hf) (by decide)
def f_law_c32 (xs : Nat → Int32) (L : Nat) (K : Int32 → Mem → Option (Int32 × Mem)) (i : Int32) (M : Mem) : Option (Int32 × Mem) := (gq (inB (i + (1 : Int32)) L) (gq (inB (i + (2 : Int32)) L) (gq (inB (i + (3 : Int32)) L) (bq2 (f_X8_lost (xs ((i + (1 : Int32)) : Int32).toNatClampNeg) (xs ((i + (2 : Int32)) : Int32).toNatClampNeg) (xs ((i + (3 : Int32)) : Int32).toNatClampNeg) M) (fun (x4 : Int64) (M5 : Mem) => gq (inB (i + (1 : Int32)) L) (gq (inB (i + (2 : Int32)) L) (gq (inB (i + (3 : Int32)) L) (bq2 (f_X9_lost (xs ((i + (1 : Int32)) : Int32).toNatClampNeg) (xs ((i + (2 : Int32)) : Int32).toNatClampNeg) (xs ((i + (3 : Int32)) : Int32).toNatClampNeg) M5) (fun (x10 : Int64) (M11 : Mem) => (if (lcm x4 x10) = 0 then (nmq (i + (5 : Int32)) (fun (x14 : Int32) => (K x14 M11))) else some ((0 : Int32), M11)))))))))))
set_option maxHeartbeats 4000000 in
set_option maxRecDepth 100000 in
theorem law_c32 {p : Program} {l : Launch} {e : Env} {s : State} {m : MethodId} {args : Array Value} {below : List Frame} {meth : Method} {c : Code} {cells slots : Nat} {Q : State → Prop} {G : GG} {b L : Nat} {xs : Nat → Int32} {Mr : Mem} (hB : BX p s m args c cL_law 4 RL G) (hcs : cells ≤ room_1.cells ∧ slots ≤ room_1.slots) (hX : va_X b L xs s s.heap) (hbl : b < s.heap.size) (hbA : ¬ adA G b) {K : Int32 → Mem → Option (Int32 × Mem)} (ih : ∀ (i : Int32) (M : Mem) (H : Heap) (locs : List Loc) (ls : Array Slot), Wd G M H → va_S (adA G) s.heap H locs → lv_has ls 4 [(0, .ref b), (1, .ref (G.2.2.1 0)), (2, .ref (G.2.2.1 139)), (3, .int i)] → K i M = some ((1 : Int32), Mr) → W p l e room_1 s m args below meth c H locs cells slots Q (F0 m 18 ls [])) : ∀ (i : Int32) (M : Mem) (H : Heap) (locs : List Loc) (ls : Array Slot), Wd G M H → va_S (adA G) s.heap H locs → lv_has ls 4 [(0, .ref b), (1, .ref (G.2.2.1 0)), (2, .ref (G.2.2.1 139)), (3, .int i)] → f_law_c32 xs L K i M = some ((1 : Int32), Mr) → W p l e room_1 s m args below meth c H locs cells slots Q (F0 m 1062 ls []) := by
  intro i M H locs ls hW hS hl hf
  have hx := hB.x
  have hb := hB.b
  unfold f_law_c32 at hf
  refine lv_aload_n hx hb dL_law_1062 rfl (lv_at hl 1 rfl) ?_
  refine lv_aload_n hx hb dL_law_1063 rfl (lv_at hl 0 rfl) ?_
  refine lv_iload_n hx hb dL_law_1064 rfl (lv_at hl 3 rfl) ?_
  refine lv_iconst (v := (1 : Int32)) hx hb dL_law_1065 (by decide) ?_
  refine lv_iadd hx hb dL_law_1066 ?_
  obtain ⟨h1, hf⟩ := g_o hf
  refine va_sld hx hb hX hbl hbA hS h1 dL_law_1067 ?_
  refine lv_aload_n hx hb dL_law_1068 rfl (lv_at hl 0 rfl) ?_
  refine lv_iload_n hx hb dL_law_1069 rfl (lv_at hl 3 rfl) ?_
  refine lv_iconst (v := (2 : Int32)) hx hb dL_law_1070 (by decide) ?_
  refine lv_iadd hx hb dL_law_1071 ?_
  obtain ⟨h2, hf⟩ := g_o hf
  refine va_sld hx hb hX hbl hbA hS h2 dL_law_1072 ?_
  refine lv_aload_n hx hb dL_law_1073 rfl (lv_at hl 0 rfl) ?_
  refine lv_iload_n hx hb dL_law_1074 rfl (lv_at hl 3 rfl) ?_
  refine lv_iconst (v := (3 : Int32)) hx hb dL_law_1075 (by decide) ?_
  refine lv_iadd hx hb dL_law_1076 ?_
  obtain ⟨h3, hf⟩ := g_o hf
  refine va_sld hx hb hX hbl hbA hS h3 dL_law_1077 ?_
  obtain ⟨x4, M5, hg6, hf⟩ := b_o2 hf
  refine x_cl hB (x_rv hB hW hS (As := [.int (xs ((i + (1 : Int32)) : Int32).toNatClampNeg), .int (xs ((i + (2 : Int32)) : Int32).toNatClampNeg), .int (xs ((i + (3 : Int32)) : Int32).toNatClampNeg)]) (rest := []) (ct_X8_lost l G hg6) (cl_RL_146 hB.2.2.2.2.1 ⟨Nat.le_of_ble_eq_true rfl, Nat.le_of_ble_eq_true rfl⟩) tl0 (by decide) rfl rfl hl.1 rfl (Nat.le_of_ble_eq_true rfl) dL_law_1078 hcs) hS (fun H locs hW hS => ?_)
  refine lv_aload_n hx hb dL_law_1081 rfl (lv_at hl 2 rfl) ?_
  refine lv_aload_n hx hb dL_law_1082 rfl (lv_at hl 0 rfl) ?_
  refine lv_iload_n hx hb dL_law_1083 rfl (lv_at hl 3 rfl) ?_
  refine lv_iconst (v := (1 : Int32)) hx hb dL_law_1084 (by decide) ?_
  refine lv_iadd hx hb dL_law_1085 ?_
  obtain ⟨h7, hf⟩ := g_o hf
  refine va_sld hx hb hX hbl hbA hS h7 dL_law_1086 ?_
  refine lv_aload_n hx hb dL_law_1087 rfl (lv_at hl 0 rfl) ?_
  refine lv_iload_n hx hb dL_law_1088 rfl (lv_at hl 3 rfl) ?_
  refine lv_iconst (v := (2 : Int32)) hx hb dL_law_1089 (by decide) ?_
  refine lv_iadd hx hb dL_law_1090 ?_
  obtain ⟨h8, hf⟩ := g_o hf
  refine va_sld hx hb hX hbl hbA hS h8 dL_law_1091 ?_
  refine lv_aload_n hx hb dL_law_1092 rfl (lv_at hl 0 rfl) ?_
  refine lv_iload_n hx hb dL_law_1093 rfl (lv_at hl 3 rfl) ?_
  refine lv_iconst (v := (3 : Int32)) hx hb dL_law_1094 (by decide) ?_
  refine lv_iadd hx hb dL_law_1095 ?_
  obtain ⟨h9, hf⟩ := g_o hf
  refine va_sld hx hb hX hbl hbA hS h9 dL_law_1096 ?_
  obtain ⟨x10, M11, hg12, hf⟩ := b_o2 hf
  refine x_cl hB (x_rv hB hW hS (As := [.int (xs ((i + (1 : Int32)) : Int32).toNatClampNeg), .int (xs ((i + (2 : Int32)) : Int32).toNatClampNeg), .int (xs ((i + (3 : Int32)) : Int32).toNatClampNeg)]) (rest := [.long x4]) (ct_X9_lost l G hg12) (cl_RL_150 hB.2.2.2.2.1 ⟨Nat.le_of_ble_eq_true rfl, Nat.le_of_ble_eq_true rfl⟩) tl139 (by decide) rfl rfl hl.1 rfl (Nat.le_of_ble_eq_true rfl) dL_law_1097 hcs) hS (fun H locs hW hS => ?_)
  refine W.lcmp hx hb dL_law_1100 ?_
  refine lv_if_eq (tgt := 1294) hx hb dL_law_1101 (by decide) (fun c13 => ?_) (fun c13 => ?_)
  · have hf := i_t hf c13
    obtain ⟨x14, ex14⟩ : ∃ y : Int32, y = i + (5 : Int32) := ⟨_, rfl⟩
    have hf := nm_o hf ex14
    refine lv_iinc (v := x14) (lv' := [(3, .int x14), (0, .ref b), (1, .ref (G.2.2.1 0)), (2, .ref (G.2.2.1 139))]) hx hb dL_law_1294 hl (k := 3) rfl (by rw [ex14]; rfl) (by decide) rfl (fun ls hl => ?_)
    refine lv_goto (tgt := 18) hx hb dL_law_1297 (by decide) ?_
    exact ih x14 M11 _ _ ls hW hS (lv_sub hl [1, 2, 3, 0] rfl) hf
  · have hf := i_f hf c13
    refine lv_iconst (v := (0 : Int32)) hx hb dL_law_1104 (by decide) ?_
    exact absurd (show (0 : Int32) = 1 from s_1 hf) (by decide)
def f_law_c33 (xs : Nat → Int32) (L : Nat) (K : Int32 → Mem → Option (Int32 × Mem)) (i : Int32) (M : Mem) : Option (Int32 × Mem) := (gq (inB (i + (1 : Int32)) L) (bq2 (f_X8_mean (xs ((i + (1 : Int32)) : Int32).toNatClampNeg) M) (fun (x2 : Int64) (M3 : Mem) => gq (inB (i + (1 : Int32)) L) (bq2 (f_X9_mean (xs ((i + (1 : Int32)) : Int32).toNatClampNeg) M3) (fun (x6 : Int64) (M7 : Mem) => (if (lcm x2 x6) = 0 then (nmq (i + (5 : Int32)) (fun (x10 : Int32) => (K x10 M7))) else some ((0 : Int32), M7)))))))
set_option maxHeartbeats 4000000 in
set_option maxRecDepth 100000 in
theorem law_c33 {p : Program} {l : Launch} {e : Env} {s : State} {m : MethodId} {args : Array Value} {below : List Frame} {meth : Method} {c : Code} {cells slots : Nat} {Q : State → Prop} {G : GG} {b L : Nat} {xs : Nat → Int32} {Mr : Mem} (hB : BX p s m args c cL_law 4 RL G) (hcs : cells ≤ room_1.cells ∧ slots ≤ room_1.slots) (hX : va_X b L xs s s.heap) (hbl : b < s.heap.size) (hbA : ¬ adA G b) {K : Int32 → Mem → Option (Int32 × Mem)} (ih : ∀ (i : Int32) (M : Mem) (H : Heap) (locs : List Loc) (ls : Array Slot), Wd G M H → va_S (adA G) s.heap H locs → lv_has ls 4 [(0, .ref b), (1, .ref (G.2.2.1 0)), (2, .ref (G.2.2.1 139)), (3, .int i)] → K i M = some ((1 : Int32), Mr) → W p l e room_1 s m args below meth c H locs cells slots Q (F0 m 18 ls [])) : ∀ (i : Int32) (M : Mem) (H : Heap) (locs : List Loc) (ls : Array Slot), Wd G M H → va_S (adA G) s.heap H locs → lv_has ls 4 [(0, .ref b), (1, .ref (G.2.2.1 0)), (2, .ref (G.2.2.1 139)), (3, .int i)] → f_law_c33 xs L K i M = some ((1 : Int32), Mr) → W p l e room_1 s m args below meth c H locs cells slots Q (F0 m 1106 ls []) := by
  intro i M H locs ls hW hS hl hf
  have hx := hB.x
  have hb := hB.b
  unfold f_law_c33 at hf
  refine lv_aload_n hx hb dL_law_1106 rfl (lv_at hl 1 rfl) ?_
  refine lv_aload_n hx hb dL_law_1107 rfl (lv_at hl 0 rfl) ?_
  refine lv_iload_n hx hb dL_law_1108 rfl (lv_at hl 3 rfl) ?_
  refine lv_iconst (v := (1 : Int32)) hx hb dL_law_1109 (by decide) ?_
  refine lv_iadd hx hb dL_law_1110 ?_
  obtain ⟨h1, hf⟩ := g_o hf
  refine va_sld hx hb hX hbl hbA hS h1 dL_law_1111 ?_
  obtain ⟨x2, M3, hg4, hf⟩ := b_o2 hf
  refine x_cl hB (x_rv hB hW hS (As := [.int (xs ((i + (1 : Int32)) : Int32).toNatClampNeg)]) (rest := []) (ct_X8_mean l G hg4) (cl_RL_151 hB.2.2.2.2.1 ⟨Nat.le_of_ble_eq_true rfl, Nat.le_of_ble_eq_true rfl⟩) tl0 (by decide) rfl rfl hl.1 rfl (Nat.le_of_ble_eq_true rfl) dL_law_1112 hcs) hS (fun H locs hW hS => ?_)
  refine lv_aload_n hx hb dL_law_1115 rfl (lv_at hl 2 rfl) ?_
  refine lv_aload_n hx hb dL_law_1116 rfl (lv_at hl 0 rfl) ?_
  refine lv_iload_n hx hb dL_law_1117 rfl (lv_at hl 3 rfl) ?_
  refine lv_iconst (v := (1 : Int32)) hx hb dL_law_1118 (by decide) ?_
  refine lv_iadd hx hb dL_law_1119 ?_
  obtain ⟨h5, hf⟩ := g_o hf
  refine va_sld hx hb hX hbl hbA hS h5 dL_law_1120 ?_
  obtain ⟨x6, M7, hg8, hf⟩ := b_o2 hf
  refine x_cl hB (x_rv hB hW hS (As := [.int (xs ((i + (1 : Int32)) : Int32).toNatClampNeg)]) (rest := [.long x2]) (ct_X9_mean l G hg8) (cl_RL_155 hB.2.2.2.2.1 ⟨Nat.le_of_ble_eq_true rfl, Nat.le_of_ble_eq_true rfl⟩) tl139 (by decide) rfl rfl hl.1 rfl (Nat.le_of_ble_eq_true rfl) dL_law_1121 hcs) hS (fun H locs hW hS => ?_)
  refine W.lcmp hx hb dL_law_1124 ?_
  refine lv_if_eq (tgt := 1294) hx hb dL_law_1125 (by decide) (fun c9 => ?_) (fun c9 => ?_)
  · have hf := i_t hf c9
    obtain ⟨x10, ex10⟩ : ∃ y : Int32, y = i + (5 : Int32) := ⟨_, rfl⟩
    have hf := nm_o hf ex10
    refine lv_iinc (v := x10) (lv' := [(3, .int x10), (0, .ref b), (1, .ref (G.2.2.1 0)), (2, .ref (G.2.2.1 139))]) hx hb dL_law_1294 hl (k := 3) rfl (by rw [ex10]; rfl) (by decide) rfl (fun ls hl => ?_)
    refine lv_goto (tgt := 18) hx hb dL_law_1297 (by decide) ?_
    exact ih x10 M7 _ _ ls hW hS (lv_sub hl [1, 2, 3, 0] rfl) hf
  · have hf := i_f hf c9
    refine lv_iconst (v := (0 : Int32)) hx hb dL_law_1128 (by decide) ?_
    exact absurd (show (0 : Int32) = 1 from s_1 hf) (by decide)
def f_law_c34 (xs : Nat → Int32) (L : Nat) (K : Int32 → Mem → Option (Int32 × Mem)) (i : Int32) (M : Mem) : Option (Int32 × Mem) := (gq (inB (i + (1 : Int32)) L) (bq2 (f_X8_whatIs (xs ((i + (1 : Int32)) : Int32).toNatClampNeg) M) (fun (x2 : Int32) (M3 : Mem) => gq (inB (i + (1 : Int32)) L) (bq2 (f_X9_whatIs (xs ((i + (1 : Int32)) : Int32).toNatClampNeg) M3) (fun (x6 : Int32) (M7 : Mem) => (if x2 = x6 then (nmq (i + (5 : Int32)) (fun (x10 : Int32) => (K x10 M7))) else some ((0 : Int32), M7)))))))
set_option maxHeartbeats 4000000 in
set_option maxRecDepth 100000 in
theorem law_c34 {p : Program} {l : Launch} {e : Env} {s : State} {m : MethodId} {args : Array Value} {below : List Frame} {meth : Method} {c : Code} {cells slots : Nat} {Q : State → Prop} {G : GG} {b L : Nat} {xs : Nat → Int32} {Mr : Mem} (hB : BX p s m args c cL_law 4 RL G) (hcs : cells ≤ room_1.cells ∧ slots ≤ room_1.slots) (hX : va_X b L xs s s.heap) (hbl : b < s.heap.size) (hbA : ¬ adA G b) {K : Int32 → Mem → Option (Int32 × Mem)} (ih : ∀ (i : Int32) (M : Mem) (H : Heap) (locs : List Loc) (ls : Array Slot), Wd G M H → va_S (adA G) s.heap H locs → lv_has ls 4 [(0, .ref b), (1, .ref (G.2.2.1 0)), (2, .ref (G.2.2.1 139)), (3, .int i)] → K i M = some ((1 : Int32), Mr) → W p l e room_1 s m args below meth c H locs cells slots Q (F0 m 18 ls [])) : ∀ (i : Int32) (M : Mem) (H : Heap) (locs : List Loc) (ls : Array Slot), Wd G M H → va_S (adA G) s.heap H locs → lv_has ls 4 [(0, .ref b), (1, .ref (G.2.2.1 0)), (2, .ref (G.2.2.1 139)), (3, .int i)] → f_law_c34 xs L K i M = some ((1 : Int32), Mr) → W p l e room_1 s m args below meth c H locs cells slots Q (F0 m 1130 ls []) := by
  intro i M H locs ls hW hS hl hf
  have hx := hB.x
  have hb := hB.b
  unfold f_law_c34 at hf
  refine lv_aload_n hx hb dL_law_1130 rfl (lv_at hl 1 rfl) ?_
  refine lv_aload_n hx hb dL_law_1131 rfl (lv_at hl 0 rfl) ?_
  refine lv_iload_n hx hb dL_law_1132 rfl (lv_at hl 3 rfl) ?_
  refine lv_iconst (v := (1 : Int32)) hx hb dL_law_1133 (by decide) ?_
  refine lv_iadd hx hb dL_law_1134 ?_
  obtain ⟨h1, hf⟩ := g_o hf
  refine va_sld hx hb hX hbl hbA hS h1 dL_law_1135 ?_
  obtain ⟨x2, M3, hg4, hf⟩ := b_o2 hf
  refine x_ci hB (x_rv hB hW hS (As := [.int (xs ((i + (1 : Int32)) : Int32).toNatClampNeg)]) (rest := []) (ct_X8_whatIs l G hg4) (cl_RL_156 hB.2.2.2.2.1 ⟨Nat.le_of_ble_eq_true rfl, Nat.le_of_ble_eq_true rfl⟩) tl0 (by decide) rfl rfl hl.1 rfl (Nat.le_of_ble_eq_true rfl) dL_law_1136 hcs) hS (fun H locs hW hS => ?_)
  refine lv_aload_n hx hb dL_law_1139 rfl (lv_at hl 2 rfl) ?_
  refine lv_aload_n hx hb dL_law_1140 rfl (lv_at hl 0 rfl) ?_
  refine lv_iload_n hx hb dL_law_1141 rfl (lv_at hl 3 rfl) ?_
  refine lv_iconst (v := (1 : Int32)) hx hb dL_law_1142 (by decide) ?_
  refine lv_iadd hx hb dL_law_1143 ?_
  obtain ⟨h5, hf⟩ := g_o hf
  refine va_sld hx hb hX hbl hbA hS h5 dL_law_1144 ?_
  obtain ⟨x6, M7, hg8, hf⟩ := b_o2 hf
  refine x_ci hB (x_rv hB hW hS (As := [.int (xs ((i + (1 : Int32)) : Int32).toNatClampNeg)]) (rest := [.int x2]) (ct_X9_whatIs l G hg8) (cl_RL_159 hB.2.2.2.2.1 ⟨Nat.le_of_ble_eq_true rfl, Nat.le_of_ble_eq_true rfl⟩) tl139 (by decide) rfl rfl hl.1 rfl (Nat.le_of_ble_eq_true rfl) dL_law_1145 hcs) hS (fun H locs hW hS => ?_)
  refine lv_icmp_eq (tgt := 1294) hx hb dL_law_1148 (by decide) (fun c9 => ?_) (fun c9 => ?_)
  · have hf := i_t hf c9
    obtain ⟨x10, ex10⟩ : ∃ y : Int32, y = i + (5 : Int32) := ⟨_, rfl⟩
    have hf := nm_o hf ex10
    refine lv_iinc (v := x10) (lv' := [(3, .int x10), (0, .ref b), (1, .ref (G.2.2.1 0)), (2, .ref (G.2.2.1 139))]) hx hb dL_law_1294 hl (k := 3) rfl (by rw [ex10]; rfl) (by decide) rfl (fun ls hl => ?_)
    refine lv_goto (tgt := 18) hx hb dL_law_1297 (by decide) ?_
    exact ih x10 M7 _ _ ls hW hS (lv_sub hl [1, 2, 3, 0] rfl) hf
  · have hf := i_f hf c9
    refine lv_iconst (v := (0 : Int32)) hx hb dL_law_1151 (by decide) ?_
    exact absurd (show (0 : Int32) = 1 from s_1 hf) (by decide)
def f_law_c35 (xs : Nat → Int32) (L : Nat) (K : Int32 → Mem → Option (Int32 × Mem)) (i : Int32) (M : Mem) : Option (Int32 × Mem) := (gq (inB (i + (1 : Int32)) L) (bq2 (f_X8_row (xs ((i + (1 : Int32)) : Int32).toNatClampNeg) M) (fun (x2 : Int32) (M3 : Mem) => gq (inB (i + (1 : Int32)) L) (bq2 (f_X9_row (xs ((i + (1 : Int32)) : Int32).toNatClampNeg) M3) (fun (x6 : Int32) (M7 : Mem) => (if x2 = x6 then (nmq (i + (5 : Int32)) (fun (x10 : Int32) => (K x10 M7))) else some ((0 : Int32), M7)))))))
set_option maxHeartbeats 4000000 in
set_option maxRecDepth 100000 in
theorem law_c35 {p : Program} {l : Launch} {e : Env} {s : State} {m : MethodId} {args : Array Value} {below : List Frame} {meth : Method} {c : Code} {cells slots : Nat} {Q : State → Prop} {G : GG} {b L : Nat} {xs : Nat → Int32} {Mr : Mem} (hB : BX p s m args c cL_law 4 RL G) (hcs : cells ≤ room_1.cells ∧ slots ≤ room_1.slots) (hX : va_X b L xs s s.heap) (hbl : b < s.heap.size) (hbA : ¬ adA G b) {K : Int32 → Mem → Option (Int32 × Mem)} (ih : ∀ (i : Int32) (M : Mem) (H : Heap) (locs : List Loc) (ls : Array Slot), Wd G M H → va_S (adA G) s.heap H locs → lv_has ls 4 [(0, .ref b), (1, .ref (G.2.2.1 0)), (2, .ref (G.2.2.1 139)), (3, .int i)] → K i M = some ((1 : Int32), Mr) → W p l e room_1 s m args below meth c H locs cells slots Q (F0 m 18 ls [])) : ∀ (i : Int32) (M : Mem) (H : Heap) (locs : List Loc) (ls : Array Slot), Wd G M H → va_S (adA G) s.heap H locs → lv_has ls 4 [(0, .ref b), (1, .ref (G.2.2.1 0)), (2, .ref (G.2.2.1 139)), (3, .int i)] → f_law_c35 xs L K i M = some ((1 : Int32), Mr) → W p l e room_1 s m args below meth c H locs cells slots Q (F0 m 1153 ls []) := by
  intro i M H locs ls hW hS hl hf
  have hx := hB.x
  have hb := hB.b
  unfold f_law_c35 at hf
  refine lv_aload_n hx hb dL_law_1153 rfl (lv_at hl 1 rfl) ?_
  refine lv_aload_n hx hb dL_law_1154 rfl (lv_at hl 0 rfl) ?_
  refine lv_iload_n hx hb dL_law_1155 rfl (lv_at hl 3 rfl) ?_
  refine lv_iconst (v := (1 : Int32)) hx hb dL_law_1156 (by decide) ?_
  refine lv_iadd hx hb dL_law_1157 ?_
  obtain ⟨h1, hf⟩ := g_o hf
  refine va_sld hx hb hX hbl hbA hS h1 dL_law_1158 ?_
  obtain ⟨x2, M3, hg4, hf⟩ := b_o2 hf
  refine x_ci hB (x_rv hB hW hS (As := [.int (xs ((i + (1 : Int32)) : Int32).toNatClampNeg)]) (rest := []) (ct_X8_row l G hg4) (cl_RL_160 hB.2.2.2.2.1 ⟨Nat.le_of_ble_eq_true rfl, Nat.le_of_ble_eq_true rfl⟩) tl0 (by decide) rfl rfl hl.1 rfl (Nat.le_of_ble_eq_true rfl) dL_law_1159 hcs) hS (fun H locs hW hS => ?_)
  refine lv_aload_n hx hb dL_law_1162 rfl (lv_at hl 2 rfl) ?_
  refine lv_aload_n hx hb dL_law_1163 rfl (lv_at hl 0 rfl) ?_
  refine lv_iload_n hx hb dL_law_1164 rfl (lv_at hl 3 rfl) ?_
  refine lv_iconst (v := (1 : Int32)) hx hb dL_law_1165 (by decide) ?_
  refine lv_iadd hx hb dL_law_1166 ?_
  obtain ⟨h5, hf⟩ := g_o hf
  refine va_sld hx hb hX hbl hbA hS h5 dL_law_1167 ?_
  obtain ⟨x6, M7, hg8, hf⟩ := b_o2 hf
  refine x_ci hB (x_rv hB hW hS (As := [.int (xs ((i + (1 : Int32)) : Int32).toNatClampNeg)]) (rest := [.int x2]) (ct_X9_row l G hg8) (cl_RL_163 hB.2.2.2.2.1 ⟨Nat.le_of_ble_eq_true rfl, Nat.le_of_ble_eq_true rfl⟩) tl139 (by decide) rfl rfl hl.1 rfl (Nat.le_of_ble_eq_true rfl) dL_law_1168 hcs) hS (fun H locs hW hS => ?_)
  refine lv_icmp_eq (tgt := 1294) hx hb dL_law_1171 (by decide) (fun c9 => ?_) (fun c9 => ?_)
  · have hf := i_t hf c9
    obtain ⟨x10, ex10⟩ : ∃ y : Int32, y = i + (5 : Int32) := ⟨_, rfl⟩
    have hf := nm_o hf ex10
    refine lv_iinc (v := x10) (lv' := [(3, .int x10), (0, .ref b), (1, .ref (G.2.2.1 0)), (2, .ref (G.2.2.1 139))]) hx hb dL_law_1294 hl (k := 3) rfl (by rw [ex10]; rfl) (by decide) rfl (fun ls hl => ?_)
    refine lv_goto (tgt := 18) hx hb dL_law_1297 (by decide) ?_
    exact ih x10 M7 _ _ ls hW hS (lv_sub hl [1, 2, 3, 0] rfl) hf
  · have hf := i_f hf c9
    refine lv_iconst (v := (0 : Int32)) hx hb dL_law_1174 (by decide) ?_
    exact absurd (show (0 : Int32) = 1 from s_1 hf) (by decide)
def f_law_c36 (xs : Nat → Int32) (L : Nat) (K : Int32 → Mem → Option (Int32 × Mem)) (i : Int32) (M : Mem) : Option (Int32 × Mem) := (bq2 (f_X8_judge M) (fun (x1 : Int32) (M2 : Mem) => bq2 (f_X9_judge M2) (fun (x4 : Int32) (M5 : Mem) => (if x1 = x4 then (nmq (i + (5 : Int32)) (fun (x8 : Int32) => (K x8 M5))) else some ((0 : Int32), M5)))))
set_option maxHeartbeats 4000000 in
set_option maxRecDepth 100000 in
theorem law_c36 {p : Program} {l : Launch} {e : Env} {s : State} {m : MethodId} {args : Array Value} {below : List Frame} {meth : Method} {c : Code} {cells slots : Nat} {Q : State → Prop} {G : GG} {b L : Nat} {xs : Nat → Int32} {Mr : Mem} (hB : BX p s m args c cL_law 4 RL G) (hcs : cells ≤ room_1.cells ∧ slots ≤ room_1.slots) (hX : va_X b L xs s s.heap) (hbl : b < s.heap.size) (hbA : ¬ adA G b) {K : Int32 → Mem → Option (Int32 × Mem)} (ih : ∀ (i : Int32) (M : Mem) (H : Heap) (locs : List Loc) (ls : Array Slot), Wd G M H → va_S (adA G) s.heap H locs → lv_has ls 4 [(0, .ref b), (1, .ref (G.2.2.1 0)), (2, .ref (G.2.2.1 139)), (3, .int i)] → K i M = some ((1 : Int32), Mr) → W p l e room_1 s m args below meth c H locs cells slots Q (F0 m 18 ls [])) : ∀ (i : Int32) (M : Mem) (H : Heap) (locs : List Loc) (ls : Array Slot), Wd G M H → va_S (adA G) s.heap H locs → lv_has ls 4 [(0, .ref b), (1, .ref (G.2.2.1 0)), (2, .ref (G.2.2.1 139)), (3, .int i)] → f_law_c36 xs L K i M = some ((1 : Int32), Mr) → W p l e room_1 s m args below meth c H locs cells slots Q (F0 m 1176 ls []) := by
  intro i M H locs ls hW hS hl hf
  have hx := hB.x
  have hb := hB.b
  unfold f_law_c36 at hf
  refine lv_aload_n hx hb dL_law_1176 rfl (lv_at hl 1 rfl) ?_
  obtain ⟨x1, M2, hg3, hf⟩ := b_o2 hf
  refine x_ci hB (x_rv hB hW hS (As := []) (rest := []) (ct_X8_judge l G hg3) (cl_RL_164 hB.2.2.2.2.1 ⟨Nat.le_of_ble_eq_true rfl, Nat.le_of_ble_eq_true rfl⟩) tl0 (by decide) rfl rfl hl.1 rfl (Nat.le_of_ble_eq_true rfl) dL_law_1177 hcs) hS (fun H locs hW hS => ?_)
  refine lv_aload_n hx hb dL_law_1180 rfl (lv_at hl 2 rfl) ?_
  obtain ⟨x4, M5, hg6, hf⟩ := b_o2 hf
  refine x_ci hB (x_rv hB hW hS (As := []) (rest := [.int x1]) (ct_X9_judge l G hg6) (cl_RL_167 hB.2.2.2.2.1 ⟨Nat.le_of_ble_eq_true rfl, Nat.le_of_ble_eq_true rfl⟩) tl139 (by decide) rfl rfl hl.1 rfl (Nat.le_of_ble_eq_true rfl) dL_law_1181 hcs) hS (fun H locs hW hS => ?_)
  refine lv_icmp_eq (tgt := 1294) hx hb dL_law_1184 (by decide) (fun c7 => ?_) (fun c7 => ?_)
  · have hf := i_t hf c7
    obtain ⟨x8, ex8⟩ : ∃ y : Int32, y = i + (5 : Int32) := ⟨_, rfl⟩
    have hf := nm_o hf ex8
    refine lv_iinc (v := x8) (lv' := [(3, .int x8), (0, .ref b), (1, .ref (G.2.2.1 0)), (2, .ref (G.2.2.1 139))]) hx hb dL_law_1294 hl (k := 3) rfl (by rw [ex8]; rfl) (by decide) rfl (fun ls hl => ?_)
    refine lv_goto (tgt := 18) hx hb dL_law_1297 (by decide) ?_
    exact ih x8 M5 _ _ ls hW hS (lv_sub hl [1, 2, 3, 0] rfl) hf
  · have hf := i_f hf c7
    refine lv_iconst (v := (0 : Int32)) hx hb dL_law_1187 (by decide) ?_
    exact absurd (show (0 : Int32) = 1 from s_1 hf) (by decide)
def f_law_c37 (xs : Nat → Int32) (L : Nat) (K : Int32 → Mem → Option (Int32 × Mem)) (i : Int32) (M : Mem) : Option (Int32 × Mem) := (bq2 (f_X8_clear M) (fun (x1 : Int32) (M2 : Mem) => bq2 (f_X9_clear M2) (fun (x4 : Int32) (M5 : Mem) => (if x1 = x4 then (nmq (i + (5 : Int32)) (fun (x8 : Int32) => (K x8 M5))) else some ((0 : Int32), M5)))))
set_option maxHeartbeats 4000000 in
set_option maxRecDepth 100000 in
theorem law_c37 {p : Program} {l : Launch} {e : Env} {s : State} {m : MethodId} {args : Array Value} {below : List Frame} {meth : Method} {c : Code} {cells slots : Nat} {Q : State → Prop} {G : GG} {b L : Nat} {xs : Nat → Int32} {Mr : Mem} (hB : BX p s m args c cL_law 4 RL G) (hcs : cells ≤ room_1.cells ∧ slots ≤ room_1.slots) (hX : va_X b L xs s s.heap) (hbl : b < s.heap.size) (hbA : ¬ adA G b) {K : Int32 → Mem → Option (Int32 × Mem)} (ih : ∀ (i : Int32) (M : Mem) (H : Heap) (locs : List Loc) (ls : Array Slot), Wd G M H → va_S (adA G) s.heap H locs → lv_has ls 4 [(0, .ref b), (1, .ref (G.2.2.1 0)), (2, .ref (G.2.2.1 139)), (3, .int i)] → K i M = some ((1 : Int32), Mr) → W p l e room_1 s m args below meth c H locs cells slots Q (F0 m 18 ls [])) : ∀ (i : Int32) (M : Mem) (H : Heap) (locs : List Loc) (ls : Array Slot), Wd G M H → va_S (adA G) s.heap H locs → lv_has ls 4 [(0, .ref b), (1, .ref (G.2.2.1 0)), (2, .ref (G.2.2.1 139)), (3, .int i)] → f_law_c37 xs L K i M = some ((1 : Int32), Mr) → W p l e room_1 s m args below meth c H locs cells slots Q (F0 m 1189 ls []) := by
  intro i M H locs ls hW hS hl hf
  have hx := hB.x
  have hb := hB.b
  unfold f_law_c37 at hf
  refine lv_aload_n hx hb dL_law_1189 rfl (lv_at hl 1 rfl) ?_
  obtain ⟨x1, M2, hg3, hf⟩ := b_o2 hf
  refine x_ci hB (x_rv hB hW hS (As := []) (rest := []) (ct_X8_clear l G hg3) (cl_RL_168 hB.2.2.2.2.1 ⟨Nat.le_of_ble_eq_true rfl, Nat.le_of_ble_eq_true rfl⟩) tl0 (by decide) rfl rfl hl.1 rfl (Nat.le_of_ble_eq_true rfl) dL_law_1190 hcs) hS (fun H locs hW hS => ?_)
  refine lv_aload_n hx hb dL_law_1193 rfl (lv_at hl 2 rfl) ?_
  obtain ⟨x4, M5, hg6, hf⟩ := b_o2 hf
  refine x_ci hB (x_rv hB hW hS (As := []) (rest := [.int x1]) (ct_X9_clear l G hg6) (cl_RL_171 hB.2.2.2.2.1 ⟨Nat.le_of_ble_eq_true rfl, Nat.le_of_ble_eq_true rfl⟩) tl139 (by decide) rfl rfl hl.1 rfl (Nat.le_of_ble_eq_true rfl) dL_law_1194 hcs) hS (fun H locs hW hS => ?_)
  refine lv_icmp_eq (tgt := 1294) hx hb dL_law_1197 (by decide) (fun c7 => ?_) (fun c7 => ?_)
  · have hf := i_t hf c7
    obtain ⟨x8, ex8⟩ : ∃ y : Int32, y = i + (5 : Int32) := ⟨_, rfl⟩
    have hf := nm_o hf ex8
    refine lv_iinc (v := x8) (lv' := [(3, .int x8), (0, .ref b), (1, .ref (G.2.2.1 0)), (2, .ref (G.2.2.1 139))]) hx hb dL_law_1294 hl (k := 3) rfl (by rw [ex8]; rfl) (by decide) rfl (fun ls hl => ?_)
    refine lv_goto (tgt := 18) hx hb dL_law_1297 (by decide) ?_
    exact ih x8 M5 _ _ ls hW hS (lv_sub hl [1, 2, 3, 0] rfl) hf
  · have hf := i_f hf c7
    refine lv_iconst (v := (0 : Int32)) hx hb dL_law_1200 (by decide) ?_
    exact absurd (show (0 : Int32) = 1 from s_1 hf) (by decide)
def f_law_c38 (xs : Nat → Int32) (L : Nat) (K : Int32 → Mem → Option (Int32 × Mem)) (i : Int32) (M : Mem) : Option (Int32 × Mem) := (gq (inB (i + (1 : Int32)) L) (gq (inB (i + (2 : Int32)) L) (gq (inB (i + (3 : Int32)) L) (bq2 (f_X8_lots (xs ((i + (1 : Int32)) : Int32).toNatClampNeg) (xs ((i + (2 : Int32)) : Int32).toNatClampNeg) (xs ((i + (3 : Int32)) : Int32).toNatClampNeg) M) (fun (x4 : Int32) (M5 : Mem) => gq (inB (i + (1 : Int32)) L) (gq (inB (i + (2 : Int32)) L) (gq (inB (i + (3 : Int32)) L) (bq2 (f_X9_lots (xs ((i + (1 : Int32)) : Int32).toNatClampNeg) (xs ((i + (2 : Int32)) : Int32).toNatClampNeg) (xs ((i + (3 : Int32)) : Int32).toNatClampNeg) M5) (fun (x10 : Int32) (M11 : Mem) => (if x4 = x10 then (nmq (i + (5 : Int32)) (fun (x14 : Int32) => (K x14 M11))) else some ((0 : Int32), M11)))))))))))
set_option maxHeartbeats 4000000 in
set_option maxRecDepth 100000 in
theorem law_c38 {p : Program} {l : Launch} {e : Env} {s : State} {m : MethodId} {args : Array Value} {below : List Frame} {meth : Method} {c : Code} {cells slots : Nat} {Q : State → Prop} {G : GG} {b L : Nat} {xs : Nat → Int32} {Mr : Mem} (hB : BX p s m args c cL_law 4 RL G) (hcs : cells ≤ room_1.cells ∧ slots ≤ room_1.slots) (hX : va_X b L xs s s.heap) (hbl : b < s.heap.size) (hbA : ¬ adA G b) {K : Int32 → Mem → Option (Int32 × Mem)} (ih : ∀ (i : Int32) (M : Mem) (H : Heap) (locs : List Loc) (ls : Array Slot), Wd G M H → va_S (adA G) s.heap H locs → lv_has ls 4 [(0, .ref b), (1, .ref (G.2.2.1 0)), (2, .ref (G.2.2.1 139)), (3, .int i)] → K i M = some ((1 : Int32), Mr) → W p l e room_1 s m args below meth c H locs cells slots Q (F0 m 18 ls [])) : ∀ (i : Int32) (M : Mem) (H : Heap) (locs : List Loc) (ls : Array Slot), Wd G M H → va_S (adA G) s.heap H locs → lv_has ls 4 [(0, .ref b), (1, .ref (G.2.2.1 0)), (2, .ref (G.2.2.1 139)), (3, .int i)] → f_law_c38 xs L K i M = some ((1 : Int32), Mr) → W p l e room_1 s m args below meth c H locs cells slots Q (F0 m 1202 ls []) := by
  intro i M H locs ls hW hS hl hf
  have hx := hB.x
  have hb := hB.b
  unfold f_law_c38 at hf
  refine lv_aload_n hx hb dL_law_1202 rfl (lv_at hl 1 rfl) ?_
  refine lv_aload_n hx hb dL_law_1203 rfl (lv_at hl 0 rfl) ?_
  refine lv_iload_n hx hb dL_law_1204 rfl (lv_at hl 3 rfl) ?_
  refine lv_iconst (v := (1 : Int32)) hx hb dL_law_1205 (by decide) ?_
  refine lv_iadd hx hb dL_law_1206 ?_
  obtain ⟨h1, hf⟩ := g_o hf
  refine va_sld hx hb hX hbl hbA hS h1 dL_law_1207 ?_
  refine lv_aload_n hx hb dL_law_1208 rfl (lv_at hl 0 rfl) ?_
  refine lv_iload_n hx hb dL_law_1209 rfl (lv_at hl 3 rfl) ?_
  refine lv_iconst (v := (2 : Int32)) hx hb dL_law_1210 (by decide) ?_
  refine lv_iadd hx hb dL_law_1211 ?_
  obtain ⟨h2, hf⟩ := g_o hf
  refine va_sld hx hb hX hbl hbA hS h2 dL_law_1212 ?_
  refine lv_aload_n hx hb dL_law_1213 rfl (lv_at hl 0 rfl) ?_
  refine lv_iload_n hx hb dL_law_1214 rfl (lv_at hl 3 rfl) ?_
  refine lv_iconst (v := (3 : Int32)) hx hb dL_law_1215 (by decide) ?_
  refine lv_iadd hx hb dL_law_1216 ?_
  obtain ⟨h3, hf⟩ := g_o hf
  refine va_sld hx hb hX hbl hbA hS h3 dL_law_1217 ?_
  obtain ⟨x4, M5, hg6, hf⟩ := b_o2 hf
  refine x_ci hB (x_rv hB hW hS (As := [.int (xs ((i + (1 : Int32)) : Int32).toNatClampNeg), .int (xs ((i + (2 : Int32)) : Int32).toNatClampNeg), .int (xs ((i + (3 : Int32)) : Int32).toNatClampNeg)]) (rest := []) (ct_X8_lots l G hg6) (cl_RL_172 hB.2.2.2.2.1 ⟨Nat.le_of_ble_eq_true rfl, Nat.le_of_ble_eq_true rfl⟩) tl0 (by decide) rfl rfl hl.1 rfl (Nat.le_of_ble_eq_true rfl) dL_law_1218 hcs) hS (fun H locs hW hS => ?_)
  refine lv_aload_n hx hb dL_law_1221 rfl (lv_at hl 2 rfl) ?_
  refine lv_aload_n hx hb dL_law_1222 rfl (lv_at hl 0 rfl) ?_
  refine lv_iload_n hx hb dL_law_1223 rfl (lv_at hl 3 rfl) ?_
  refine lv_iconst (v := (1 : Int32)) hx hb dL_law_1224 (by decide) ?_
  refine lv_iadd hx hb dL_law_1225 ?_
  obtain ⟨h7, hf⟩ := g_o hf
  refine va_sld hx hb hX hbl hbA hS h7 dL_law_1226 ?_
  refine lv_aload_n hx hb dL_law_1227 rfl (lv_at hl 0 rfl) ?_
  refine lv_iload_n hx hb dL_law_1228 rfl (lv_at hl 3 rfl) ?_
  refine lv_iconst (v := (2 : Int32)) hx hb dL_law_1229 (by decide) ?_
  refine lv_iadd hx hb dL_law_1230 ?_
  obtain ⟨h8, hf⟩ := g_o hf
  refine va_sld hx hb hX hbl hbA hS h8 dL_law_1231 ?_
  refine lv_aload_n hx hb dL_law_1232 rfl (lv_at hl 0 rfl) ?_
  refine lv_iload_n hx hb dL_law_1233 rfl (lv_at hl 3 rfl) ?_
  refine lv_iconst (v := (3 : Int32)) hx hb dL_law_1234 (by decide) ?_
  refine lv_iadd hx hb dL_law_1235 ?_
  obtain ⟨h9, hf⟩ := g_o hf
  refine va_sld hx hb hX hbl hbA hS h9 dL_law_1236 ?_
  obtain ⟨x10, M11, hg12, hf⟩ := b_o2 hf
  refine x_ci hB (x_rv hB hW hS (As := [.int (xs ((i + (1 : Int32)) : Int32).toNatClampNeg), .int (xs ((i + (2 : Int32)) : Int32).toNatClampNeg), .int (xs ((i + (3 : Int32)) : Int32).toNatClampNeg)]) (rest := [.int x4]) (ct_X9_lots l G hg12) (cl_RL_175 hB.2.2.2.2.1 ⟨Nat.le_of_ble_eq_true rfl, Nat.le_of_ble_eq_true rfl⟩) tl139 (by decide) rfl rfl hl.1 rfl (Nat.le_of_ble_eq_true rfl) dL_law_1237 hcs) hS (fun H locs hW hS => ?_)
  refine lv_icmp_eq (tgt := 1294) hx hb dL_law_1240 (by decide) (fun c13 => ?_) (fun c13 => ?_)
  · have hf := i_t hf c13
    obtain ⟨x14, ex14⟩ : ∃ y : Int32, y = i + (5 : Int32) := ⟨_, rfl⟩
    have hf := nm_o hf ex14
    refine lv_iinc (v := x14) (lv' := [(3, .int x14), (0, .ref b), (1, .ref (G.2.2.1 0)), (2, .ref (G.2.2.1 139))]) hx hb dL_law_1294 hl (k := 3) rfl (by rw [ex14]; rfl) (by decide) rfl (fun ls hl => ?_)
    refine lv_goto (tgt := 18) hx hb dL_law_1297 (by decide) ?_
    exact ih x14 M11 _ _ ls hW hS (lv_sub hl [1, 2, 3, 0] rfl) hf
  · have hf := i_f hf c13
    refine lv_iconst (v := (0 : Int32)) hx hb dL_law_1243 (by decide) ?_
    exact absurd (show (0 : Int32) = 1 from s_1 hf) (by decide)
def f_law_c39 (xs : Nat → Int32) (L : Nat) (K : Int32 → Mem → Option (Int32 × Mem)) (i : Int32) (M : Mem) : Option (Int32 × Mem) := (bq2 (f_X8_image M) (fun (x1 : Int32) (M2 : Mem) => bq2 (f_X9_image M2) (fun (x4 : Int32) (M5 : Mem) => (if x1 = x4 then (nmq (i + (5 : Int32)) (fun (x8 : Int32) => (K x8 M5))) else some ((0 : Int32), M5)))))
set_option maxHeartbeats 4000000 in
set_option maxRecDepth 100000 in
theorem law_c39 {p : Program} {l : Launch} {e : Env} {s : State} {m : MethodId} {args : Array Value} {below : List Frame} {meth : Method} {c : Code} {cells slots : Nat} {Q : State → Prop} {G : GG} {b L : Nat} {xs : Nat → Int32} {Mr : Mem} (hB : BX p s m args c cL_law 4 RL G) (hcs : cells ≤ room_1.cells ∧ slots ≤ room_1.slots) (hX : va_X b L xs s s.heap) (hbl : b < s.heap.size) (hbA : ¬ adA G b) {K : Int32 → Mem → Option (Int32 × Mem)} (ih : ∀ (i : Int32) (M : Mem) (H : Heap) (locs : List Loc) (ls : Array Slot), Wd G M H → va_S (adA G) s.heap H locs → lv_has ls 4 [(0, .ref b), (1, .ref (G.2.2.1 0)), (2, .ref (G.2.2.1 139)), (3, .int i)] → K i M = some ((1 : Int32), Mr) → W p l e room_1 s m args below meth c H locs cells slots Q (F0 m 18 ls [])) : ∀ (i : Int32) (M : Mem) (H : Heap) (locs : List Loc) (ls : Array Slot), Wd G M H → va_S (adA G) s.heap H locs → lv_has ls 4 [(0, .ref b), (1, .ref (G.2.2.1 0)), (2, .ref (G.2.2.1 139)), (3, .int i)] → f_law_c39 xs L K i M = some ((1 : Int32), Mr) → W p l e room_1 s m args below meth c H locs cells slots Q (F0 m 1245 ls []) := by
  intro i M H locs ls hW hS hl hf
  have hx := hB.x
  have hb := hB.b
  unfold f_law_c39 at hf
  refine lv_aload_n hx hb dL_law_1245 rfl (lv_at hl 1 rfl) ?_
  obtain ⟨x1, M2, hg3, hf⟩ := b_o2 hf
  refine x_ci hB (x_rv hB hW hS (As := []) (rest := []) (ct_X8_image l G hg3) (cl_RL_176 hB.2.2.2.2.1 ⟨Nat.le_of_ble_eq_true rfl, Nat.le_of_ble_eq_true rfl⟩) tl0 (by decide) rfl rfl hl.1 rfl (Nat.le_of_ble_eq_true rfl) dL_law_1246 hcs) hS (fun H locs hW hS => ?_)
  refine lv_aload_n hx hb dL_law_1249 rfl (lv_at hl 2 rfl) ?_
  obtain ⟨x4, M5, hg6, hf⟩ := b_o2 hf
  refine x_ci hB (x_rv hB hW hS (As := []) (rest := [.int x1]) (ct_X9_image l G hg6) (cl_RL_179 hB.2.2.2.2.1 ⟨Nat.le_of_ble_eq_true rfl, Nat.le_of_ble_eq_true rfl⟩) tl139 (by decide) rfl rfl hl.1 rfl (Nat.le_of_ble_eq_true rfl) dL_law_1250 hcs) hS (fun H locs hW hS => ?_)
  refine lv_icmp_eq (tgt := 1294) hx hb dL_law_1253 (by decide) (fun c7 => ?_) (fun c7 => ?_)
  · have hf := i_t hf c7
    obtain ⟨x8, ex8⟩ : ∃ y : Int32, y = i + (5 : Int32) := ⟨_, rfl⟩
    have hf := nm_o hf ex8
    refine lv_iinc (v := x8) (lv' := [(3, .int x8), (0, .ref b), (1, .ref (G.2.2.1 0)), (2, .ref (G.2.2.1 139))]) hx hb dL_law_1294 hl (k := 3) rfl (by rw [ex8]; rfl) (by decide) rfl (fun ls hl => ?_)
    refine lv_goto (tgt := 18) hx hb dL_law_1297 (by decide) ?_
    exact ih x8 M5 _ _ ls hW hS (lv_sub hl [1, 2, 3, 0] rfl) hf
  · have hf := i_f hf c7
    refine lv_iconst (v := (0 : Int32)) hx hb dL_law_1256 (by decide) ?_
    exact absurd (show (0 : Int32) = 1 from s_1 hf) (by decide)
def f_law_c40 (xs : Nat → Int32) (L : Nat) (K : Int32 → Mem → Option (Int32 × Mem)) (i : Int32) (M : Mem) : Option (Int32 × Mem) := (bq2 (f_X8_on M) (fun (x1 : Int32) (M2 : Mem) => bq2 (f_X9_on M2) (fun (x4 : Int32) (M5 : Mem) => (if x1 = x4 then (nmq (i + (5 : Int32)) (fun (x8 : Int32) => (K x8 M5))) else some ((0 : Int32), M5)))))
set_option maxHeartbeats 4000000 in
set_option maxRecDepth 100000 in
theorem law_c40 {p : Program} {l : Launch} {e : Env} {s : State} {m : MethodId} {args : Array Value} {below : List Frame} {meth : Method} {c : Code} {cells slots : Nat} {Q : State → Prop} {G : GG} {b L : Nat} {xs : Nat → Int32} {Mr : Mem} (hB : BX p s m args c cL_law 4 RL G) (hcs : cells ≤ room_1.cells ∧ slots ≤ room_1.slots) (hX : va_X b L xs s s.heap) (hbl : b < s.heap.size) (hbA : ¬ adA G b) {K : Int32 → Mem → Option (Int32 × Mem)} (ih : ∀ (i : Int32) (M : Mem) (H : Heap) (locs : List Loc) (ls : Array Slot), Wd G M H → va_S (adA G) s.heap H locs → lv_has ls 4 [(0, .ref b), (1, .ref (G.2.2.1 0)), (2, .ref (G.2.2.1 139)), (3, .int i)] → K i M = some ((1 : Int32), Mr) → W p l e room_1 s m args below meth c H locs cells slots Q (F0 m 18 ls [])) : ∀ (i : Int32) (M : Mem) (H : Heap) (locs : List Loc) (ls : Array Slot), Wd G M H → va_S (adA G) s.heap H locs → lv_has ls 4 [(0, .ref b), (1, .ref (G.2.2.1 0)), (2, .ref (G.2.2.1 139)), (3, .int i)] → f_law_c40 xs L K i M = some ((1 : Int32), Mr) → W p l e room_1 s m args below meth c H locs cells slots Q (F0 m 1258 ls []) := by
  intro i M H locs ls hW hS hl hf
  have hx := hB.x
  have hb := hB.b
  unfold f_law_c40 at hf
  refine lv_aload_n hx hb dL_law_1258 rfl (lv_at hl 1 rfl) ?_
  obtain ⟨x1, M2, hg3, hf⟩ := b_o2 hf
  refine x_ci hB (x_rv hB hW hS (As := []) (rest := []) (ct_X8_on l G hg3) (cl_RL_180 hB.2.2.2.2.1 ⟨Nat.le_of_ble_eq_true rfl, Nat.le_of_ble_eq_true rfl⟩) tl0 (by decide) rfl rfl hl.1 rfl (Nat.le_of_ble_eq_true rfl) dL_law_1259 hcs) hS (fun H locs hW hS => ?_)
  refine lv_aload_n hx hb dL_law_1262 rfl (lv_at hl 2 rfl) ?_
  obtain ⟨x4, M5, hg6, hf⟩ := b_o2 hf
  refine x_ci hB (x_rv hB hW hS (As := []) (rest := [.int x1]) (ct_X9_on l G hg6) (cl_RL_183 hB.2.2.2.2.1 ⟨Nat.le_of_ble_eq_true rfl, Nat.le_of_ble_eq_true rfl⟩) tl139 (by decide) rfl rfl hl.1 rfl (Nat.le_of_ble_eq_true rfl) dL_law_1263 hcs) hS (fun H locs hW hS => ?_)
  refine lv_icmp_eq (tgt := 1294) hx hb dL_law_1266 (by decide) (fun c7 => ?_) (fun c7 => ?_)
  · have hf := i_t hf c7
    obtain ⟨x8, ex8⟩ : ∃ y : Int32, y = i + (5 : Int32) := ⟨_, rfl⟩
    have hf := nm_o hf ex8
    refine lv_iinc (v := x8) (lv' := [(3, .int x8), (0, .ref b), (1, .ref (G.2.2.1 0)), (2, .ref (G.2.2.1 139))]) hx hb dL_law_1294 hl (k := 3) rfl (by rw [ex8]; rfl) (by decide) rfl (fun ls hl => ?_)
    refine lv_goto (tgt := 18) hx hb dL_law_1297 (by decide) ?_
    exact ih x8 M5 _ _ ls hW hS (lv_sub hl [1, 2, 3, 0] rfl) hf
  · have hf := i_f hf c7
    refine lv_iconst (v := (0 : Int32)) hx hb dL_law_1269 (by decide) ?_
    exact absurd (show (0 : Int32) = 1 from s_1 hf) (by decide)
def f_law_c41 (xs : Nat → Int32) (L : Nat) (K : Int32 → Mem → Option (Int32 × Mem)) (i : Int32) (M : Mem) : Option (Int32 × Mem) := (gq (inB (i + (1 : Int32)) L) (bq1 (f_X8_count (xs ((i + (1 : Int32)) : Int32).toNatClampNeg) M) (fun (x2 : Int32) => gq (inB (i + (1 : Int32)) L) (bq1 (f_X9_count (xs ((i + (1 : Int32)) : Int32).toNatClampNeg) M) (fun (x5 : Int32) => (if x2 = x5 then (nmq (i + (5 : Int32)) (fun (x8 : Int32) => (K x8 M))) else some ((0 : Int32), M)))))))
set_option maxHeartbeats 4000000 in
set_option maxRecDepth 100000 in
theorem law_c41 {p : Program} {l : Launch} {e : Env} {s : State} {m : MethodId} {args : Array Value} {below : List Frame} {meth : Method} {c : Code} {cells slots : Nat} {Q : State → Prop} {G : GG} {b L : Nat} {xs : Nat → Int32} {Mr : Mem} (hB : BX p s m args c cL_law 4 RL G) (hcs : cells ≤ room_1.cells ∧ slots ≤ room_1.slots) (hX : va_X b L xs s s.heap) (hbl : b < s.heap.size) (hbA : ¬ adA G b) {K : Int32 → Mem → Option (Int32 × Mem)} (ih : ∀ (i : Int32) (M : Mem) (H : Heap) (locs : List Loc) (ls : Array Slot), Wd G M H → va_S (adA G) s.heap H locs → lv_has ls 4 [(0, .ref b), (1, .ref (G.2.2.1 0)), (2, .ref (G.2.2.1 139)), (3, .int i)] → K i M = some ((1 : Int32), Mr) → W p l e room_1 s m args below meth c H locs cells slots Q (F0 m 18 ls [])) : ∀ (i : Int32) (M : Mem) (H : Heap) (locs : List Loc) (ls : Array Slot), Wd G M H → va_S (adA G) s.heap H locs → lv_has ls 4 [(0, .ref b), (1, .ref (G.2.2.1 0)), (2, .ref (G.2.2.1 139)), (3, .int i)] → f_law_c41 xs L K i M = some ((1 : Int32), Mr) → W p l e room_1 s m args below meth c H locs cells slots Q (F0 m 1271 ls []) := by
  intro i M H locs ls hW hS hl hf
  have hx := hB.x
  have hb := hB.b
  unfold f_law_c41 at hf
  refine lv_aload_n hx hb dL_law_1271 rfl (lv_at hl 1 rfl) ?_
  refine lv_aload_n hx hb dL_law_1272 rfl (lv_at hl 0 rfl) ?_
  refine lv_iload_n hx hb dL_law_1273 rfl (lv_at hl 3 rfl) ?_
  refine lv_iconst (v := (1 : Int32)) hx hb dL_law_1274 (by decide) ?_
  refine lv_iadd hx hb dL_law_1275 ?_
  obtain ⟨h1, hf⟩ := g_o hf
  refine va_sld hx hb hX hbl hbA hS h1 dL_law_1276 ?_
  obtain ⟨x2, hg3, hf⟩ := b_o1 hf
  refine x_ci hB (x_rv hB hW hS (As := [.int (xs ((i + (1 : Int32)) : Int32).toNatClampNeg)]) (rest := []) (ct_X8_count l G hg3) (cl_RL_184 hB.2.2.2.2.1 ⟨Nat.le_of_ble_eq_true rfl, Nat.le_of_ble_eq_true rfl⟩) tl0 (by decide) rfl rfl hl.1 rfl (Nat.le_of_ble_eq_true rfl) dL_law_1277 hcs) hS (fun H locs hW hS => ?_)
  refine lv_aload_n hx hb dL_law_1280 rfl (lv_at hl 2 rfl) ?_
  refine lv_aload_n hx hb dL_law_1281 rfl (lv_at hl 0 rfl) ?_
  refine lv_iload_n hx hb dL_law_1282 rfl (lv_at hl 3 rfl) ?_
  refine lv_iconst (v := (1 : Int32)) hx hb dL_law_1283 (by decide) ?_
  refine lv_iadd hx hb dL_law_1284 ?_
  obtain ⟨h4, hf⟩ := g_o hf
  refine va_sld hx hb hX hbl hbA hS h4 dL_law_1285 ?_
  obtain ⟨x5, hg6, hf⟩ := b_o1 hf
  refine x_ci hB (x_rv hB hW hS (As := [.int (xs ((i + (1 : Int32)) : Int32).toNatClampNeg)]) (rest := [.int x2]) (ct_X9_count l G hg6) (cl_RL_187 hB.2.2.2.2.1 ⟨Nat.le_of_ble_eq_true rfl, Nat.le_of_ble_eq_true rfl⟩) tl139 (by decide) rfl rfl hl.1 rfl (Nat.le_of_ble_eq_true rfl) dL_law_1286 hcs) hS (fun H locs hW hS => ?_)
  refine lv_icmp_eq (tgt := 1294) hx hb dL_law_1289 (by decide) (fun c7 => ?_) (fun c7 => ?_)
  · have hf := i_t hf c7
    obtain ⟨x8, ex8⟩ : ∃ y : Int32, y = i + (5 : Int32) := ⟨_, rfl⟩
    have hf := nm_o hf ex8
    refine lv_iinc (v := x8) (lv' := [(3, .int x8), (0, .ref b), (1, .ref (G.2.2.1 0)), (2, .ref (G.2.2.1 139))]) hx hb dL_law_1294 hl (k := 3) rfl (by rw [ex8]; rfl) (by decide) rfl (fun ls hl => ?_)
    refine lv_goto (tgt := 18) hx hb dL_law_1297 (by decide) ?_
    exact ih x8 M _ _ ls hW hS (lv_sub hl [1, 2, 3, 0] rfl) hf
  · have hf := i_f hf c7
    refine lv_iconst (v := (0 : Int32)) hx hb dL_law_1292 (by decide) ?_
    exact absurd (show (0 : Int32) = 1 from s_1 hf) (by decide)
def f_law_L (xs : Nat → Int32) (L : Nat) (K : Int32 → Mem → Option (Int32 × Mem)) (i : Int32) (M : Mem) : Option (Int32 × Mem) := if ((Int32.ofNat L) - (5 : Int32)) < i then some ((1 : Int32), M) else gq (inB i L) (nmq ((xs (i : Int32).toNatClampNeg) &&& (63 : Int32)) (fun (x : Int32) => if x = (0 : Int32) then f_law_c0 xs L K i M else if x = (1 : Int32) then f_law_c1 xs L K i M else if x = (2 : Int32) then f_law_c2 xs L K i M else if x = (3 : Int32) then f_law_c3 xs L K i M else if x = (4 : Int32) then f_law_c4 xs L K i M else if x = (5 : Int32) then f_law_c5 xs L K i M else if x = (6 : Int32) then f_law_c6 xs L K i M else if x = (7 : Int32) then f_law_c7 xs L K i M else if x = (8 : Int32) then f_law_c8 xs L K i M else if x = (9 : Int32) then f_law_c9 xs L K i M else if x = (10 : Int32) then f_law_c10 xs L K i M else if x = (11 : Int32) then f_law_c11 xs L K i M else if x = (12 : Int32) then f_law_c12 xs L K i M else if x = (13 : Int32) then f_law_c13 xs L K i M else if x = (14 : Int32) then f_law_c14 xs L K i M else if x = (15 : Int32) then f_law_c15 xs L K i M else if x = (16 : Int32) then f_law_c16 xs L K i M else if x = (17 : Int32) then f_law_c17 xs L K i M else if x = (18 : Int32) then f_law_c18 xs L K i M else if x = (19 : Int32) then f_law_c19 xs L K i M else if x = (20 : Int32) then f_law_c20 xs L K i M else if x = (21 : Int32) then f_law_c21 xs L K i M else if x = (22 : Int32) then f_law_c22 xs L K i M else if x = (23 : Int32) then f_law_c23 xs L K i M else if x = (24 : Int32) then f_law_c24 xs L K i M else if x = (25 : Int32) then f_law_c25 xs L K i M else if x = (26 : Int32) then f_law_c26 xs L K i M else if x = (27 : Int32) then f_law_c27 xs L K i M else if x = (28 : Int32) then f_law_c28 xs L K i M else if x = (29 : Int32) then f_law_c29 xs L K i M else if x = (30 : Int32) then f_law_c30 xs L K i M else if x = (31 : Int32) then f_law_c31 xs L K i M else if x = (32 : Int32) then f_law_c32 xs L K i M else if x = (33 : Int32) then f_law_c33 xs L K i M else if x = (34 : Int32) then f_law_c34 xs L K i M else if x = (35 : Int32) then f_law_c35 xs L K i M else if x = (36 : Int32) then f_law_c36 xs L K i M else if x = (37 : Int32) then f_law_c37 xs L K i M else if x = (38 : Int32) then f_law_c38 xs L K i M else if x = (39 : Int32) then f_law_c39 xs L K i M else if x = (40 : Int32) then f_law_c40 xs L K i M else if x = (41 : Int32) then f_law_c41 xs L K i M else K (i + (5 : Int32)) M))
set_option maxHeartbeats 4000000 in
set_option maxRecDepth 100000 in
theorem law_loop {p : Program} {l : Launch} {e : Env} {s : State} {m : MethodId} {args : Array Value} {below : List Frame} {meth : Method} {c : Code} {cells slots : Nat} {Q : State → Prop} {G : GG} {b L : Nat} {xs : Nat → Int32} {Mr : Mem} (hB : BX p s m args c cL_law 4 RL G) (hcs : cells ≤ room_1.cells ∧ slots ≤ room_1.slots) (hX : va_X b L xs s s.heap) (hbl : b < s.heap.size) (hbA : ¬ adA G b) (hret : ∀ (H : Heap) (locs : List Loc) (ls : Array Slot), Wd G Mr H → va_S (adA G) s.heap H locs → W p l e room_1 s m args below meth c H locs cells slots Q (F0 m 1301 ls [.int (1 : Int32)])) : ∀ (n : Nat) (i : Int32) (M : Mem) (H : Heap) (locs : List Loc) (ls : Array Slot), Wd G M H → va_S (adA G) s.heap H locs → lv_has ls 4 [(0, .ref b), (1, .ref (G.2.2.1 0)), (2, .ref (G.2.2.1 139)), (3, .int i)] → lq2 (f_law_L xs L) n i M = some ((1 : Int32), Mr) → W p l e room_1 s m args below meth c H locs cells slots Q (F0 m 18 ls []) := by
  have hx := hB.x
  have hb := hB.b
  intro n
  induction n with
  | zero => intro i M H locs ls hW hS hl hf; exact (l_z2 hf).elim
  | succ n ih =>
    intro i M H locs ls hW hS hl hf
    have hf := l_s2 hf
    generalize lq2 (f_law_L xs L) n = K at ih hf
    unfold f_law_L at hf
    refine lv_iload_n hx hb dL_law_18 rfl (lv_at hl 3 rfl) ?_
    refine lv_aload_n hx hb dL_law_19 rfl (lv_at hl 0 rfl) ?_
    refine va_slen hx hb hX hbl hbA hS dL_law_20 ?_
    refine lv_iconst (v := (5 : Int32)) hx hb dL_law_21 (by decide) ?_
    refine lv_isub hx hb dL_law_22 ?_
    refine lv_icmp_gt (tgt := 1300) hx hb dL_law_23 (by decide) (fun c0 => ?_) (fun c0 => ?_)
    · have hf := i_t hf c0
      refine lv_iconst (v := (1 : Int32)) hx hb dL_law_1300 (by decide) ?_
      have hM := s_2 hf
      subst hM
      exact hret _ _ ls hW hS
    · have hf := i_f hf c0
      obtain ⟨h1, hf⟩ := g_o hf
      refine lv_aload_n hx hb dL_law_26 rfl (lv_at hl 0 rfl) ?_
      refine lv_iload_n hx hb dL_law_27 rfl (lv_at hl 3 rfl) ?_
      refine va_sld hx hb hX hbl hbA hS h1 dL_law_28 ?_
      refine lv_bipush (v := (63 : Int32)) hx hb dL_law_29 (by decide) ?_
      refine lv_iand hx hb dL_law_31 ?_
      refine lv_topi (fun x ex => ?_)
      have hf := nm_o hf ex
      by_cases c0 : x = (0 : Int32)
      · have hf := i_t hf c0
        refine lv_tableIn (tgt := 216) hx hb dL_law_32 (by rw [c0]; decide) (by rw [c0]; decide) (by rw [c0] <;> rfl) (by decide) ?_
        exact law_c0 hB hcs hX hbl hbA ih i M _ _ ls hW hS hl hf
      have hf := i_f hf c0
      by_cases c1 : x = (1 : Int32)
      · have hf := i_t hf c1
        refine lv_tableIn (tgt := 239) hx hb dL_law_32 (by rw [c1]; decide) (by rw [c1]; decide) (by rw [c1] <;> rfl) (by decide) ?_
        exact law_c1 hB hcs hX hbl hbA ih i M _ _ ls hW hS hl hf
      have hf := i_f hf c1
      by_cases c2 : x = (2 : Int32)
      · have hf := i_t hf c2
        refine lv_tableIn (tgt := 252) hx hb dL_law_32 (by rw [c2]; decide) (by rw [c2]; decide) (by rw [c2] <;> rfl) (by decide) ?_
        exact law_c2 hB hcs hX hbl hbA ih i M _ _ ls hW hS hl hf
      have hf := i_f hf c2
      by_cases c3 : x = (3 : Int32)
      · have hf := i_t hf c3
        refine lv_tableIn (tgt := 285) hx hb dL_law_32 (by rw [c3]; decide) (by rw [c3]; decide) (by rw [c3] <;> rfl) (by decide) ?_
        exact law_c3 hB hcs hX hbl hbA ih i M _ _ ls hW hS hl hf
      have hf := i_f hf c3
      by_cases c4 : x = (4 : Int32)
      · have hf := i_t hf c4
        refine lv_tableIn (tgt := 328) hx hb dL_law_32 (by rw [c4]; decide) (by rw [c4]; decide) (by rw [c4] <;> rfl) (by decide) ?_
        exact law_c4 hB hcs hX hbl hbA ih i M _ _ ls hW hS hl hf
      have hf := i_f hf c4
      by_cases c5 : x = (5 : Int32)
      · have hf := i_t hf c5
        refine lv_tableIn (tgt := 351) hx hb dL_law_32 (by rw [c5]; decide) (by rw [c5]; decide) (by rw [c5] <;> rfl) (by decide) ?_
        exact law_c5 hB hcs hX hbl hbA ih i M _ _ ls hW hS hl hf
      have hf := i_f hf c5
      by_cases c6 : x = (6 : Int32)
      · have hf := i_t hf c6
        refine lv_tableIn (tgt := 374) hx hb dL_law_32 (by rw [c6]; decide) (by rw [c6]; decide) (by rw [c6] <;> rfl) (by decide) ?_
        exact law_c6 hB hcs hX hbl hbA ih i M _ _ ls hW hS hl hf
      have hf := i_f hf c6
      by_cases c7 : x = (7 : Int32)
      · have hf := i_t hf c7
        refine lv_tableIn (tgt := 427) hx hb dL_law_32 (by rw [c7]; decide) (by rw [c7]; decide) (by rw [c7] <;> rfl) (by decide) ?_
        exact law_c7 hB hcs hX hbl hbA ih i M _ _ ls hW hS hl hf
      have hf := i_f hf c7
      by_cases c8 : x = (8 : Int32)
      · have hf := i_t hf c8
        refine lv_tableIn (tgt := 450) hx hb dL_law_32 (by rw [c8]; decide) (by rw [c8]; decide) (by rw [c8] <;> rfl) (by decide) ?_
        exact law_c8 hB hcs hX hbl hbA ih i M _ _ ls hW hS hl hf
      have hf := i_f hf c8
      by_cases c9 : x = (9 : Int32)
      · have hf := i_t hf c9
        refine lv_tableIn (tgt := 493) hx hb dL_law_32 (by rw [c9]; decide) (by rw [c9]; decide) (by rw [c9] <;> rfl) (by decide) ?_
        exact law_c9 hB hcs hX hbl hbA ih i M _ _ ls hW hS hl hf
      have hf := i_f hf c9
      by_cases c10 : x = (10 : Int32)
      · have hf := i_t hf c10
        refine lv_tableIn (tgt := 516) hx hb dL_law_32 (by rw [c10]; decide) (by rw [c10]; decide) (by rw [c10] <;> rfl) (by decide) ?_
        exact law_c10 hB hcs hX hbl hbA ih i M _ _ ls hW hS hl hf
      have hf := i_f hf c10
      by_cases c11 : x = (11 : Int32)
      · have hf := i_t hf c11
        refine lv_tableIn (tgt := 539) hx hb dL_law_32 (by rw [c11]; decide) (by rw [c11]; decide) (by rw [c11] <;> rfl) (by decide) ?_
        exact law_c11 hB hcs hX hbl hbA ih i M _ _ ls hW hS hl hf
      have hf := i_f hf c11
      by_cases c12 : x = (12 : Int32)
      · have hf := i_t hf c12
        refine lv_tableIn (tgt := 562) hx hb dL_law_32 (by rw [c12]; decide) (by rw [c12]; decide) (by rw [c12] <;> rfl) (by decide) ?_
        exact law_c12 hB hcs hX hbl hbA ih i M _ _ ls hW hS hl hf
      have hf := i_f hf c12
      by_cases c13 : x = (13 : Int32)
      · have hf := i_t hf c13
        refine lv_tableIn (tgt := 585) hx hb dL_law_32 (by rw [c13]; decide) (by rw [c13]; decide) (by rw [c13] <;> rfl) (by decide) ?_
        exact law_c13 hB hcs hX hbl hbA ih i M _ _ ls hW hS hl hf
      have hf := i_f hf c13
      by_cases c14 : x = (14 : Int32)
      · have hf := i_t hf c14
        refine lv_tableIn (tgt := 618) hx hb dL_law_32 (by rw [c14]; decide) (by rw [c14]; decide) (by rw [c14] <;> rfl) (by decide) ?_
        exact law_c14 hB hcs hX hbl hbA ih i M _ _ ls hW hS hl hf
      have hf := i_f hf c14
      by_cases c15 : x = (15 : Int32)
      · have hf := i_t hf c15
        refine lv_tableIn (tgt := 631) hx hb dL_law_32 (by rw [c15]; decide) (by rw [c15]; decide) (by rw [c15] <;> rfl) (by decide) ?_
        exact law_c15 hB hcs hX hbl hbA ih i M _ _ ls hW hS hl hf
      have hf := i_f hf c15
      by_cases c16 : x = (16 : Int32)
      · have hf := i_t hf c16
        refine lv_tableIn (tgt := 664) hx hb dL_law_32 (by rw [c16]; decide) (by rw [c16]; decide) (by rw [c16] <;> rfl) (by decide) ?_
        exact law_c16 hB hcs hX hbl hbA ih i M _ _ ls hW hS hl hf
      have hf := i_f hf c16
      by_cases c17 : x = (17 : Int32)
      · have hf := i_t hf c17
        refine lv_tableIn (tgt := 697) hx hb dL_law_32 (by rw [c17]; decide) (by rw [c17]; decide) (by rw [c17] <;> rfl) (by decide) ?_
        exact law_c17 hB hcs hX hbl hbA ih i M _ _ ls hW hS hl hf
      have hf := i_f hf c17
      by_cases c18 : x = (18 : Int32)
      · have hf := i_t hf c18
        refine lv_tableIn (tgt := 730) hx hb dL_law_32 (by rw [c18]; decide) (by rw [c18]; decide) (by rw [c18] <;> rfl) (by decide) ?_
        exact law_c18 hB hcs hX hbl hbA ih i M _ _ ls hW hS hl hf
      have hf := i_f hf c18
      by_cases c19 : x = (19 : Int32)
      · have hf := i_t hf c19
        refine lv_tableIn (tgt := 763) hx hb dL_law_32 (by rw [c19]; decide) (by rw [c19]; decide) (by rw [c19] <;> rfl) (by decide) ?_
        exact law_c19 hB hcs hX hbl hbA ih i M _ _ ls hW hS hl hf
      have hf := i_f hf c19
      by_cases c20 : x = (20 : Int32)
      · have hf := i_t hf c20
        refine lv_tableIn (tgt := 786) hx hb dL_law_32 (by rw [c20]; decide) (by rw [c20]; decide) (by rw [c20] <;> rfl) (by decide) ?_
        exact law_c20 hB hcs hX hbl hbA ih i M _ _ ls hW hS hl hf
      have hf := i_f hf c20
      by_cases c21 : x = (21 : Int32)
      · have hf := i_t hf c21
        refine lv_tableIn (tgt := 819) hx hb dL_law_32 (by rw [c21]; decide) (by rw [c21]; decide) (by rw [c21] <;> rfl) (by decide) ?_
        exact law_c21 hB hcs hX hbl hbA ih i M _ _ ls hW hS hl hf
      have hf := i_f hf c21
      by_cases c22 : x = (22 : Int32)
      · have hf := i_t hf c22
        refine lv_tableIn (tgt := 842) hx hb dL_law_32 (by rw [c22]; decide) (by rw [c22]; decide) (by rw [c22] <;> rfl) (by decide) ?_
        exact law_c22 hB hcs hX hbl hbA ih i M _ _ ls hW hS hl hf
      have hf := i_f hf c22
      by_cases c23 : x = (23 : Int32)
      · have hf := i_t hf c23
        refine lv_tableIn (tgt := 865) hx hb dL_law_32 (by rw [c23]; decide) (by rw [c23]; decide) (by rw [c23] <;> rfl) (by decide) ?_
        exact law_c23 hB hcs hX hbl hbA ih i M _ _ ls hW hS hl hf
      have hf := i_f hf c23
      by_cases c24 : x = (24 : Int32)
      · have hf := i_t hf c24
        refine lv_tableIn (tgt := 888) hx hb dL_law_32 (by rw [c24]; decide) (by rw [c24]; decide) (by rw [c24] <;> rfl) (by decide) ?_
        exact law_c24 hB hcs hX hbl hbA ih i M _ _ ls hW hS hl hf
      have hf := i_f hf c24
      by_cases c25 : x = (25 : Int32)
      · have hf := i_t hf c25
        refine lv_tableIn (tgt := 911) hx hb dL_law_32 (by rw [c25]; decide) (by rw [c25]; decide) (by rw [c25] <;> rfl) (by decide) ?_
        exact law_c25 hB hcs hX hbl hbA ih i M _ _ ls hW hS hl hf
      have hf := i_f hf c25
      by_cases c26 : x = (26 : Int32)
      · have hf := i_t hf c26
        refine lv_tableIn (tgt := 924) hx hb dL_law_32 (by rw [c26]; decide) (by rw [c26]; decide) (by rw [c26] <;> rfl) (by decide) ?_
        exact law_c26 hB hcs hX hbl hbA ih i M _ _ ls hW hS hl hf
      have hf := i_f hf c26
      by_cases c27 : x = (27 : Int32)
      · have hf := i_t hf c27
        refine lv_tableIn (tgt := 947) hx hb dL_law_32 (by rw [c27]; decide) (by rw [c27]; decide) (by rw [c27] <;> rfl) (by decide) ?_
        exact law_c27 hB hcs hX hbl hbA ih i M _ _ ls hW hS hl hf
      have hf := i_f hf c27
      by_cases c28 : x = (28 : Int32)
      · have hf := i_t hf c28
        refine lv_tableIn (tgt := 970) hx hb dL_law_32 (by rw [c28]; decide) (by rw [c28]; decide) (by rw [c28] <;> rfl) (by decide) ?_
        exact law_c28 hB hcs hX hbl hbA ih i M _ _ ls hW hS hl hf
      have hf := i_f hf c28
      by_cases c29 : x = (29 : Int32)
      · have hf := i_t hf c29
        refine lv_tableIn (tgt := 1003) hx hb dL_law_32 (by rw [c29]; decide) (by rw [c29]; decide) (by rw [c29] <;> rfl) (by decide) ?_
        exact law_c29 hB hcs hX hbl hbA ih i M _ _ ls hW hS hl hf
      have hf := i_f hf c29
      by_cases c30 : x = (30 : Int32)
      · have hf := i_t hf c30
        refine lv_tableIn (tgt := 1016) hx hb dL_law_32 (by rw [c30]; decide) (by rw [c30]; decide) (by rw [c30] <;> rfl) (by decide) ?_
        exact law_c30 hB hcs hX hbl hbA ih i M _ _ ls hW hS hl hf
      have hf := i_f hf c30
      by_cases c31 : x = (31 : Int32)
      · have hf := i_t hf c31
        refine lv_tableIn (tgt := 1029) hx hb dL_law_32 (by rw [c31]; decide) (by rw [c31]; decide) (by rw [c31] <;> rfl) (by decide) ?_
        exact law_c31 hB hcs hX hbl hbA ih i M _ _ ls hW hS hl hf
      have hf := i_f hf c31
      by_cases c32 : x = (32 : Int32)
      · have hf := i_t hf c32
        refine lv_tableIn (tgt := 1062) hx hb dL_law_32 (by rw [c32]; decide) (by rw [c32]; decide) (by rw [c32] <;> rfl) (by decide) ?_
        exact law_c32 hB hcs hX hbl hbA ih i M _ _ ls hW hS hl hf
      have hf := i_f hf c32
      by_cases c33 : x = (33 : Int32)
      · have hf := i_t hf c33
        refine lv_tableIn (tgt := 1106) hx hb dL_law_32 (by rw [c33]; decide) (by rw [c33]; decide) (by rw [c33] <;> rfl) (by decide) ?_
        exact law_c33 hB hcs hX hbl hbA ih i M _ _ ls hW hS hl hf
      have hf := i_f hf c33
      by_cases c34 : x = (34 : Int32)
      · have hf := i_t hf c34
        refine lv_tableIn (tgt := 1130) hx hb dL_law_32 (by rw [c34]; decide) (by rw [c34]; decide) (by rw [c34] <;> rfl) (by decide) ?_
        exact law_c34 hB hcs hX hbl hbA ih i M _ _ ls hW hS hl hf
      have hf := i_f hf c34
      by_cases c35 : x = (35 : Int32)
      · have hf := i_t hf c35
        refine lv_tableIn (tgt := 1153) hx hb dL_law_32 (by rw [c35]; decide) (by rw [c35]; decide) (by rw [c35] <;> rfl) (by decide) ?_
        exact law_c35 hB hcs hX hbl hbA ih i M _ _ ls hW hS hl hf
      have hf := i_f hf c35
      by_cases c36 : x = (36 : Int32)
      · have hf := i_t hf c36
        refine lv_tableIn (tgt := 1176) hx hb dL_law_32 (by rw [c36]; decide) (by rw [c36]; decide) (by rw [c36] <;> rfl) (by decide) ?_
        exact law_c36 hB hcs hX hbl hbA ih i M _ _ ls hW hS hl hf
      have hf := i_f hf c36
      by_cases c37 : x = (37 : Int32)
      · have hf := i_t hf c37
        refine lv_tableIn (tgt := 1189) hx hb dL_law_32 (by rw [c37]; decide) (by rw [c37]; decide) (by rw [c37] <;> rfl) (by decide) ?_
        exact law_c37 hB hcs hX hbl hbA ih i M _ _ ls hW hS hl hf
      have hf := i_f hf c37
      by_cases c38 : x = (38 : Int32)
      · have hf := i_t hf c38
        refine lv_tableIn (tgt := 1202) hx hb dL_law_32 (by rw [c38]; decide) (by rw [c38]; decide) (by rw [c38] <;> rfl) (by decide) ?_
        exact law_c38 hB hcs hX hbl hbA ih i M _ _ ls hW hS hl hf
      have hf := i_f hf c38
      by_cases c39 : x = (39 : Int32)
      · have hf := i_t hf c39
        refine lv_tableIn (tgt := 1245) hx hb dL_law_32 (by rw [c39]; decide) (by rw [c39]; decide) (by rw [c39] <;> rfl) (by decide) ?_
        exact law_c39 hB hcs hX hbl hbA ih i M _ _ ls hW hS hl hf
      have hf := i_f hf c39
      by_cases c40 : x = (40 : Int32)
      · have hf := i_t hf c40
        refine lv_tableIn (tgt := 1258) hx hb dL_law_32 (by rw [c40]; decide) (by rw [c40]; decide) (by rw [c40] <;> rfl) (by decide) ?_
        exact law_c40 hB hcs hX hbl hbA ih i M _ _ ls hW hS hl hf
      have hf := i_f hf c40
      by_cases c41 : x = (41 : Int32)
      · have hf := i_t hf c41
        refine lv_tableIn (tgt := 1271) hx hb dL_law_32 (by rw [c41]; decide) (by rw [c41]; decide) (by rw [c41] <;> rfl) (by decide) ?_
        exact law_c41 hB hcs hX hbl hbA ih i M _ _ ls hW hS hl hf
      have hf := i_f hf c41
      refine lv_tableOut (tgt := 1294) hx hb dL_law_32 (sw_out (lo := 0) (hi := 41) (fun v h2 h3 hv => ?_)) (by decide) ?_
      · rcases (show v = 0 ∨ v = 1 ∨ v = 2 ∨ v = 3 ∨ v = 4 ∨ v = 5 ∨ v = 6 ∨ v = 7 ∨ v = 8 ∨ v = 9 ∨ v = 10 ∨ v = 11 ∨ v = 12 ∨ v = 13 ∨ v = 14 ∨ v = 15 ∨ v = 16 ∨ v = 17 ∨ v = 18 ∨ v = 19 ∨ v = 20 ∨ v = 21 ∨ v = 22 ∨ v = 23 ∨ v = 24 ∨ v = 25 ∨ v = 26 ∨ v = 27 ∨ v = 28 ∨ v = 29 ∨ v = 30 ∨ v = 31 ∨ v = 32 ∨ v = 33 ∨ v = 34 ∨ v = 35 ∨ v = 36 ∨ v = 37 ∨ v = 38 ∨ v = 39 ∨ v = 40 ∨ v = 41 by omega) with rfl | rfl | rfl | rfl | rfl | rfl | rfl | rfl | rfl | rfl | rfl | rfl | rfl | rfl | rfl | rfl | rfl | rfl | rfl | rfl | rfl | rfl | rfl | rfl | rfl | rfl | rfl | rfl | rfl | rfl | rfl | rfl | rfl | rfl | rfl | rfl | rfl | rfl | rfl | rfl | rfl | rfl
        · exact c0 hv
        · exact c1 hv
        · exact c2 hv
        · exact c3 hv
        · exact c4 hv
        · exact c5 hv
        · exact c6 hv
        · exact c7 hv
        · exact c8 hv
        · exact c9 hv
        · exact c10 hv
        · exact c11 hv
        · exact c12 hv
        · exact c13 hv
        · exact c14 hv
        · exact c15 hv
        · exact c16 hv
        · exact c17 hv
        · exact c18 hv
        · exact c19 hv
        · exact c20 hv
        · exact c21 hv
        · exact c22 hv
        · exact c23 hv
        · exact c24 hv
        · exact c25 hv
        · exact c26 hv
        · exact c27 hv
        · exact c28 hv
        · exact c29 hv
        · exact c30 hv
        · exact c31 hv
        · exact c32 hv
        · exact c33 hv
        · exact c34 hv
        · exact c35 hv
        · exact c36 hv
        · exact c37 hv
        · exact c38 hv
        · exact c39 hv
        · exact c40 hv
        · exact c41 hv
      obtain ⟨i5, ei5⟩ : ∃ y : Int32, y = i + (5 : Int32) := ⟨_, rfl⟩
      refine lv_iinc (v := i5) (lv' := [(3, .int i5), (0, .ref b), (1, .ref (G.2.2.1 0)), (2, .ref (G.2.2.1 139))]) hx hb dL_law_1294 hl (k := 3) rfl (by rw [ei5]; rfl) (by decide) rfl (fun ls hl => ?_)
      refine lv_goto (tgt := 18) hx hb dL_law_1297 (by decide) ?_
      exact ih i5 M _ _ ls hW hS (lv_sub hl [1, 2, 3, 0] rfl) (by rw [ei5]; exact hf)

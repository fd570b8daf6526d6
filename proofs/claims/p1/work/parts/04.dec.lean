/-! THE INSTRUCTIONS OF THE TABLES ARE THOSE OF THE BYTES (written by a program of mine) -/
theorem zall_cons {α : Type} {f : α → Bool} {a : α} {l : List α} (h : f a = true) (t : l.all f = true) : (a :: l).all f = true := by rw [List.all_cons, h, t]; rfl
def zdecok (b : ByteArray) (c : List (Nat × Instr × Nat)) : Bool := c.all (fun q => decide (decode b q.1 = .ok (q.2.1, q.2.2)) && (zlen q.2.1 == q.2.2 || zlen q.2.1 == 0) && zoff q.1 q.2.1)
set_option maxRecDepth 100000 in
theorem z_dec_0 : zdecok code z_code_0 = true := by decide +kernel
set_option maxRecDepth 100000 in
theorem z_dec_1 : zdecok prog_1_method_1_code z_code_1 = true := by decide +kernel
set_option maxRecDepth 100000 in
theorem z_dec_2 : zdecok prog_2_method_1_code z_code_2 = true := by decide +kernel
set_option maxRecDepth 100000 in
theorem z_dec_3 : zdecok prog_8_method_1_code z_code_3 = true := by decide +kernel
set_option maxRecDepth 100000 in
theorem z_dec_4 : zdecok prog_1_method_4_code z_code_4 = true := by decide +kernel
set_option maxRecDepth 100000 in
theorem z_dec_5 : zdecok prog_1_method_8_code z_code_5 = true := by decide +kernel
set_option maxRecDepth 100000 in
theorem z_dec_6 : zdecok prog_8_method_3_code z_code_6 = true := by decide +kernel
set_option maxRecDepth 100000 in
theorem z_dec_7 : zdecok prog_1_method_9_code z_code_7 = true := by decide +kernel
set_option maxRecDepth 100000 in
theorem z_dec_8 : zdecok prog_1_method_11_code z_code_8 = true := by decide +kernel
set_option maxRecDepth 100000 in
theorem z_dec_9 : zdecok prog_4_method_2_code z_code_9 = true := by decide +kernel
set_option maxRecDepth 100000 in
theorem z_dec_10 : zdecok prog_11_method_5_code z_code_10 = true := by decide +kernel
set_option maxRecDepth 100000 in
theorem z_dec_11 : zdecok prog_4_method_4_code z_code_11 = true := by decide +kernel
set_option maxRecDepth 100000 in
theorem z_dec_12 : zdecok prog_12_method_10_code z_code_12 = true := by decide +kernel
set_option maxRecDepth 100000 in
theorem z_dec_13 : zdecok prog_12_method_17_code z_code_13 = true := by decide +kernel
set_option maxRecDepth 100000 in
theorem z_dec_14 : zdecok prog_12_method_18_code z_code_14 = true := by decide +kernel
set_option maxRecDepth 100000 in
theorem z_dec_15 : zdecok prog_12_method_12_code z_code_15 = true := by decide +kernel
set_option maxRecDepth 100000 in
theorem z_dec_16 : zdecok prog_1_method_10_code z_code_16 = true := by decide +kernel
set_option maxRecDepth 100000 in
theorem z_dec_17 : zdecok method_3_code z_code_17 = true := by decide +kernel
set_option maxRecDepth 100000 in
theorem z_dec_18 : zdecok prog_1_method_2_code z_code_18 = true := by decide +kernel
set_option maxRecDepth 100000 in
theorem z_dec_19 : zdecok prog_2_method_2_code z_code_19 = true := by decide +kernel
set_option maxRecDepth 100000 in
theorem z_dec_20 : zdecok method_4_code z_code_20 = true := by decide +kernel
set_option maxRecDepth 100000 in
theorem z_dec_21 : zdecok prog_1_method_3_code z_code_21 = true := by decide +kernel
set_option maxRecDepth 100000 in
theorem z_dec_22 : zdecok prog_2_method_3_code z_code_22 = true := by decide +kernel
set_option maxRecDepth 100000 in
theorem z_dec_23 : zdecok prog_2_method_4_code z_code_23 = true := by decide +kernel
set_option maxRecDepth 100000 in
theorem z_dec_24 : zdecok prog_2_method_6_code z_code_24 = true := by decide +kernel
set_option maxRecDepth 100000 in
theorem z_dec_25 : zdecok prog_2_method_7_code z_code_25 = true := by decide +kernel
set_option maxRecDepth 100000 in
theorem z_dec_26 : zdecok prog_2_method_11_code z_code_26 = true := by decide +kernel
set_option maxRecDepth 100000 in
theorem z_dec_27 : zdecok prog_2_method_12_code z_code_27 = true := by decide +kernel
set_option maxRecDepth 100000 in
theorem z_dec_28 : zdecok prog_2_method_8_code z_code_28 = true := by decide +kernel
set_option maxRecDepth 100000 in
theorem z_dec_29 : zdecok prog_7_method_3_code z_code_29 = true := by decide +kernel
set_option maxRecDepth 100000 in
theorem z_dec_30 : zdecok prog_21_method_65_code z_code_30 = true := by decide +kernel
set_option maxRecDepth 100000 in
theorem z_dec_31 : zdecok prog_7_method_4_code z_code_31 = true := by decide +kernel
set_option maxRecDepth 100000 in
theorem z_dec_32 : zdecok prog_7_method_5_code z_code_32 = true := by decide +kernel
set_option maxRecDepth 100000 in
theorem z_dec_33 : zdecok prog_7_method_1_code z_code_33 = true := by decide +kernel
set_option maxRecDepth 100000 in
theorem z_dec_34 : zdecok prog_12_method_2_code z_code_34 = true := by decide +kernel
set_option maxRecDepth 100000 in
theorem z_dec_35 : zdecok prog_12_method_1_code z_code_35 = true := by decide +kernel
set_option maxRecDepth 100000 in
theorem z_dec_36 : zdecok prog_6_method_1_code z_code_36 = true := by decide +kernel
set_option maxRecDepth 100000 in
theorem z_dec_37 : zdecok prog_2_method_10_code z_code_37 = true := by decide +kernel
set_option maxRecDepth 100000 in
theorem z_dec_38 : zdecok prog_2_method_9_code z_code_38 = true := by decide +kernel
set_option maxRecDepth 100000 in
theorem z_dec_39 : zdecok prog_12_method_3_code z_code_39 = true := by decide +kernel
set_option maxRecDepth 100000 in
theorem z_dec_40 : zdecok prog_6_method_2_code z_code_40 = true := by decide +kernel
set_option maxRecDepth 100000 in
theorem z_dec_41 : zdecok prog_12_method_4_code z_code_41 = true := by decide +kernel
set_option maxRecDepth 100000 in
theorem z_dec_42 : zdecok prog_6_method_3_code z_code_42 = true := by decide +kernel
set_option maxRecDepth 100000 in
theorem z_dec_43 : zdecok prog_12_method_6_code z_code_43 = true := by decide +kernel
set_option maxRecDepth 100000 in
theorem z_dec_44 : zdecok prog_12_method_5_code z_code_44 = true := by decide +kernel
set_option maxRecDepth 100000 in
theorem z_dec_45 : zdecok prog_3_method_1_code z_code_45 = true := by decide +kernel
set_option maxRecDepth 100000 in
theorem z_dec_46 : zdecok prog_6_method_4_code z_code_46 = true := by decide +kernel
set_option maxRecDepth 100000 in
theorem z_dec_47 : zdecok prog_3_method_3_code z_code_47 = true := by decide +kernel
set_option maxRecDepth 100000 in
theorem z_dec_48 : zdecok prog_6_method_7_code z_code_48 = true := by decide +kernel
set_option maxRecDepth 100000 in
theorem z_dec_49 : zdecok prog_3_method_2_code z_code_49 = true := by decide +kernel
set_option maxRecDepth 100000 in
theorem z_dec_50 : zdecok prog_11_method_1_code z_code_50 = true := by decide +kernel
set_option maxRecDepth 100000 in
theorem z_dec_51 : zdecok prog_6_method_8_code z_code_51 = true := by decide +kernel
set_option maxRecDepth 100000 in
theorem z_dec_52 : zdecok prog_11_method_4_code z_code_52 = true := by decide +kernel
set_option maxRecDepth 100000 in
theorem z_dec_53 : zdecok prog_9_method_2_code z_code_53 = true := by decide +kernel
set_option maxRecDepth 100000 in
theorem z_dec_54 : zdecok prog_9_method_1_code z_code_54 = true := by decide +kernel
set_option maxRecDepth 100000 in
theorem z_dec_55 : zdecok prog_9_method_5_code z_code_55 = true := by decide +kernel
set_option maxRecDepth 100000 in
theorem z_dec_56 : zdecok prog_3_method_4_code z_code_56 = true := by decide +kernel
set_option maxRecDepth 100000 in
theorem z_dec_57 : zdecok prog_9_method_4_code z_code_57 = true := by decide +kernel
set_option maxRecDepth 100000 in
theorem z_dec_58 : zdecok prog_6_method_6_code z_code_58 = true := by decide +kernel
set_option maxRecDepth 100000 in
theorem z_dec_59 : zdecok prog_3_method_5_code z_code_59 = true := by decide +kernel
set_option maxRecDepth 100000 in
theorem z_dec_60 : zdecok prog_9_method_8_code z_code_60 = true := by decide +kernel
set_option maxRecDepth 100000 in
theorem z_dec_61 : zdecok prog_9_method_7_code z_code_61 = true := by decide +kernel
set_option maxRecDepth 100000 in
theorem z_dec_62 : zdecok prog_9_method_6_code z_code_62 = true := by decide +kernel
set_option maxRecDepth 100000 in
theorem z_dec_63 : zdecok prog_11_method_9_code z_code_63 = true := by decide +kernel
set_option maxRecDepth 100000 in
theorem z_dec_64 : zdecok prog_11_method_8_code z_code_64 = true := by decide +kernel
set_option maxRecDepth 100000 in
theorem z_dec_65 : zdecok prog_3_method_6_code z_code_65 = true := by decide +kernel
set_option maxRecDepth 100000 in
theorem z_dec_66 : zdecok prog_11_method_6_code z_code_66 = true := by decide +kernel
set_option maxRecDepth 100000 in
theorem z_dec_67 : zdecok prog_3_method_7_code z_code_67 = true := by decide +kernel
set_option maxRecDepth 100000 in
theorem z_dec_68 : zdecok prog_11_method_7_code z_code_68 = true := by decide +kernel
set_option maxRecDepth 100000 in
theorem z_dec_69 : zdecok prog_10_method_1_code z_code_69 = true := by decide +kernel
set_option maxRecDepth 100000 in
theorem z_dec_70 : zdecok prog_3_method_8_code z_code_70 = true := by decide +kernel
set_option maxRecDepth 100000 in
theorem z_dec_71 : zdecok prog_3_method_9_code z_code_71 = true := by decide +kernel
set_option maxRecDepth 100000 in
theorem z_dec_72 : zdecok prog_9_method_9_code z_code_72 = true := by decide +kernel
set_option maxRecDepth 100000 in
theorem z_dec_73 : zdecok prog_3_method_10_code z_code_73 = true := by decide +kernel
set_option maxRecDepth 100000 in
theorem z_dec_74 : zdecok prog_11_method_3_code z_code_74 = true := by decide +kernel
set_option maxRecDepth 100000 in
theorem z_dec_75 : zdecok prog_3_method_11_code z_code_75 = true := by decide +kernel
set_option maxRecDepth 100000 in
theorem z_dec_76 : zdecok prog_11_method_10_code z_code_76 = true := by decide +kernel
set_option maxRecDepth 100000 in
theorem z_dec_77 : zdecok prog_11_method_12_code z_code_77 = true := by decide +kernel
set_option maxRecDepth 100000 in
theorem z_dec_78 : zdecok prog_11_method_13_code z_code_78 = true := by decide +kernel
set_option maxRecDepth 100000 in
theorem z_dec_79 : zdecok prog_6_method_5_code z_code_79 = true := by decide +kernel
set_option maxRecDepth 100000 in
theorem z_dec_80 : zdecok prog_12_method_16_code z_code_80 = true := by decide +kernel
set_option maxRecDepth 100000 in
theorem z_dec_81 : zdecok prog_12_method_11_code z_code_81 = true := by decide +kernel
set_option maxRecDepth 100000 in
theorem z_dec_82 : zdecok prog_7_method_11_code z_code_82 = true := by decide +kernel
set_option maxRecDepth 100000 in
theorem z_dec_83 : zdecok prog_20_method_42_code z_code_83 = true := by decide +kernel
set_option maxRecDepth 100000 in
theorem z_dec_84 : zdecok prog_19_method_40_code z_code_84 = true := by decide +kernel
set_option maxRecDepth 100000 in
theorem z_dec_85 : zdecok prog_11_method_11_code z_code_85 = true := by decide +kernel
set_option maxRecDepth 100000 in
theorem z_dec_86 : zdecok prog_12_method_14_code z_code_86 = true := by decide +kernel
set_option maxRecDepth 100000 in
theorem z_dec_87 : zdecok prog_3_method_12_code z_code_87 = true := by decide +kernel
set_option maxRecDepth 100000 in
theorem z_dec_88 : zdecok prog_11_method_2_code z_code_88 = true := by decide +kernel
set_option maxRecDepth 100000 in
theorem z_dec_89 : zdecok prog_3_method_13_code z_code_89 = true := by decide +kernel
set_option maxRecDepth 100000 in
theorem z_dec_90 : zdecok prog_3_method_14_code z_code_90 = true := by decide +kernel
set_option maxRecDepth 100000 in
theorem z_dec_91 : zdecok prog_9_method_3_code z_code_91 = true := by decide +kernel
set_option maxRecDepth 100000 in
theorem z_dec_92 : zdecok prog_4_method_1_code z_code_92 = true := by decide +kernel
set_option maxRecDepth 100000 in
theorem z_dec_93 : zdecok method_5_code z_code_93 = true := by decide +kernel
set_option maxRecDepth 100000 in
theorem z_dec_94 : zdecok prog_1_method_5_code z_code_94 = true := by decide +kernel
set_option maxRecDepth 100000 in
theorem z_dec_95 : zdecok prog_8_method_2_code z_code_95 = true := by decide +kernel
set_option maxRecDepth 100000 in
theorem z_dec_96 : zdecok prog_2_method_5_code z_code_96 = true := by decide +kernel
set_option maxRecDepth 100000 in
theorem z_dec_97 : zdecok prog_5_method_1_code z_code_97 = true := by decide +kernel
set_option maxRecDepth 100000 in
theorem z_dec_98 : zdecok prog_5_method_2_code z_code_98 = true := by decide +kernel
set_option maxRecDepth 100000 in
theorem z_dec_99 : zdecok prog_5_method_6_code z_code_99 = true := by decide +kernel
set_option maxRecDepth 100000 in
theorem z_dec_100 : zdecok prog_5_method_7_code z_code_100 = true := by decide +kernel
set_option maxRecDepth 100000 in
theorem z_dec_101 : zdecok prog_5_method_4_code z_code_101 = true := by decide +kernel
set_option maxRecDepth 100000 in
theorem z_dec_102 : zdecok prog_5_method_5_code z_code_102 = true := by decide +kernel
set_option maxRecDepth 100000 in
theorem z_dec_103 : zdecok prog_5_method_3_code z_code_103 = true := by decide +kernel
set_option maxRecDepth 100000 in
theorem z_dec_104 : zdecok prog_5_method_9_code z_code_104 = true := by decide +kernel
set_option maxRecDepth 100000 in
theorem z_dec_105 : zdecok prog_5_method_10_code z_code_105 = true := by decide +kernel
set_option maxRecDepth 100000 in
theorem z_dec_106 : zdecok prog_5_method_11_code z_code_106 = true := by decide +kernel
set_option maxRecDepth 100000 in
theorem z_dec_107 : zdecok prog_12_method_15_code z_code_107 = true := by decide +kernel
set_option maxRecDepth 100000 in
theorem z_dec_108 : zdecok prog_5_method_8_code z_code_108 = true := by decide +kernel
set_option maxRecDepth 100000 in
theorem z_dec_109 : zdecok prog_12_method_20_code z_code_109 = true := by decide +kernel
set_option maxRecDepth 100000 in
theorem z_dec_110 : zdecok prog_5_method_18_code z_code_110 = true := by decide +kernel
set_option maxRecDepth 100000 in
theorem z_dec_111 : zdecok prog_7_method_2_code z_code_111 = true := by decide +kernel
set_option maxRecDepth 100000 in
theorem z_dec_112 : zdecok prog_5_method_20_code z_code_112 = true := by decide +kernel
set_option maxRecDepth 100000 in
theorem z_dec_113 : zdecok prog_8_method_4_code z_code_113 = true := by decide +kernel
set_option maxRecDepth 100000 in
theorem z_dec_114 : zdecok prog_8_method_9_code z_code_114 = true := by decide +kernel
set_option maxRecDepth 100000 in
theorem z_dec_115 : zdecok prog_12_method_13_code z_code_115 = true := by decide +kernel
set_option maxRecDepth 100000 in
theorem z_dec_116 : zdecok prog_8_method_8_code z_code_116 = true := by decide +kernel
set_option maxRecDepth 100000 in
theorem z_dec_117 : zdecok prog_8_method_7_code z_code_117 = true := by decide +kernel
set_option maxRecDepth 100000 in
theorem z_dec_118 : zdecok prog_8_method_6_code z_code_118 = true := by decide +kernel
set_option maxRecDepth 100000 in
theorem z_dec_119 : zdecok prog_8_method_5_code z_code_119 = true := by decide +kernel
set_option maxRecDepth 100000 in
theorem z_dec_120 : zdecok prog_7_method_10_code z_code_120 = true := by decide +kernel
set_option maxRecDepth 100000 in
theorem z_dec_121 : zdecok prog_7_method_6_code z_code_121 = true := by decide +kernel
set_option maxRecDepth 100000 in
theorem z_dec_122 : zdecok prog_5_method_19_code z_code_122 = true := by decide +kernel
set_option maxRecDepth 100000 in
theorem z_dec_123 : zdecok prog_12_method_7_code z_code_123 = true := by decide +kernel
set_option maxRecDepth 100000 in
theorem z_dec_124 : zdecok prog_5_method_15_code z_code_124 = true := by decide +kernel
set_option maxRecDepth 100000 in
theorem z_dec_125 : zdecok prog_7_method_12_code z_code_125 = true := by decide +kernel
set_option maxRecDepth 100000 in
theorem z_dec_126 : zdecok prog_7_method_13_code z_code_126 = true := by decide +kernel
set_option maxRecDepth 100000 in
theorem z_dec_127 : zdecok prog_5_method_17_code z_code_127 = true := by decide +kernel
set_option maxRecDepth 100000 in
theorem z_dec_128 : zdecok prog_7_method_7_code z_code_128 = true := by decide +kernel
set_option maxRecDepth 100000 in
theorem z_dec_129 : zdecok prog_7_method_8_code z_code_129 = true := by decide +kernel
set_option maxRecDepth 100000 in
theorem z_dec_130 : zdecok prog_7_method_14_code z_code_130 = true := by decide +kernel
set_option maxRecDepth 100000 in
theorem z_dec_131 : zdecok prog_12_method_8_code z_code_131 = true := by decide +kernel
set_option maxRecDepth 100000 in
theorem z_dec_132 : zdecok prog_7_method_15_code z_code_132 = true := by decide +kernel
set_option maxRecDepth 100000 in
theorem z_dec_133 : zdecok prog_7_method_16_code z_code_133 = true := by decide +kernel
set_option maxRecDepth 100000 in
theorem z_dec_134 : zdecok prog_7_method_9_code z_code_134 = true := by decide +kernel
set_option maxRecDepth 100000 in
theorem z_dec_135 : zdecok prog_5_method_16_code z_code_135 = true := by decide +kernel
set_option maxRecDepth 100000 in
theorem z_dec_136 : zdecok prog_12_method_9_code z_code_136 = true := by decide +kernel
set_option maxRecDepth 100000 in
theorem z_dec_137 : zdecok prog_5_method_14_code z_code_137 = true := by decide +kernel
set_option maxRecDepth 100000 in
theorem z_dec_138 : zdecok prog_12_method_24_code z_code_138 = true := by decide +kernel
set_option maxRecDepth 100000 in
theorem z_dec_139 : zdecok prog_12_method_21_code z_code_139 = true := by decide +kernel
set_option maxRecDepth 100000 in
theorem z_dec_140 : zdecok prog_12_method_22_code z_code_140 = true := by decide +kernel
set_option maxRecDepth 100000 in
theorem z_dec_141 : zdecok prog_12_method_25_code z_code_141 = true := by decide +kernel
set_option maxRecDepth 100000 in
theorem z_dec_142 : zdecok prog_12_method_23_code z_code_142 = true := by decide +kernel
set_option maxRecDepth 100000 in
theorem z_dec_143 : zdecok prog_5_method_12_code z_code_143 = true := by decide +kernel
set_option maxRecDepth 100000 in
theorem z_dec_144 : zdecok prog_5_method_13_code z_code_144 = true := by decide +kernel
set_option maxRecDepth 100000 in
theorem z_dec_145 : zdecok prog_12_method_19_code z_code_145 = true := by decide +kernel
set_option maxRecDepth 100000 in
theorem z_dec_146 : zdecok method_6_code z_code_146 = true := by decide +kernel
set_option maxRecDepth 100000 in
theorem z_dec_147 : zdecok prog_1_method_6_code z_code_147 = true := by decide +kernel
set_option maxRecDepth 100000 in
theorem z_dec_148 : zdecok prog_4_method_5_code z_code_148 = true := by decide +kernel
set_option maxRecDepth 100000 in
theorem z_dec_149 : zdecok method_7_code z_code_149 = true := by decide +kernel
set_option maxRecDepth 100000 in
theorem z_dec_150 : zdecok prog_1_method_7_code z_code_150 = true := by decide +kernel
set_option maxRecDepth 100000 in
theorem z_dec_151 : zdecok prog_4_method_3_code z_code_151 = true := by decide +kernel
set_option maxRecDepth 100000 in
theorem z_dec_152 : zdecok prog_14_method_1_code z_code_152 = true := by decide +kernel
set_option maxRecDepth 100000 in
theorem z_dec_153 : zdecok prog_14_method_2_code z_code_153 = true := by decide +kernel
set_option maxRecDepth 100000 in
theorem z_dec_154 : zdecok prog_14_method_70_code z_code_154 = true := by decide +kernel
set_option maxRecDepth 100000 in
theorem z_dec_155 : zdecok prog_14_method_71_code z_code_155 = true := by decide +kernel
set_option maxRecDepth 100000 in
theorem z_dec_156 : zdecok prog_14_method_65_code z_code_156 = true := by decide +kernel
set_option maxRecDepth 100000 in
theorem z_dec_157 : zdecok prog_14_method_4_code z_code_157 = true := by decide +kernel
set_option maxRecDepth 100000 in
theorem z_dec_158 : zdecok prog_14_method_3_code z_code_158 = true := by decide +kernel
set_option maxRecDepth 100000 in
theorem z_dec_159 : zdecok prog_14_method_5_code z_code_159 = true := by decide +kernel
set_option maxRecDepth 100000 in
theorem z_dec_160 : zdecok prog_14_method_6_code z_code_160 = true := by decide +kernel
set_option maxRecDepth 100000 in
theorem z_dec_161 : zdecok prog_14_method_66_code z_code_161 = true := by decide +kernel
set_option maxRecDepth 100000 in
theorem z_dec_162 : zdecok prog_14_method_12_code z_code_162 = true := by decide +kernel
set_option maxRecDepth 100000 in
theorem z_dec_163 : zdecok prog_14_method_11_code z_code_163 = true := by decide +kernel
set_option maxRecDepth 100000 in
theorem z_dec_164 : zdecok prog_14_method_7_code z_code_164 = true := by decide +kernel
set_option maxRecDepth 100000 in
theorem z_dec_165 : zdecok prog_14_method_9_code z_code_165 = true := by decide +kernel
set_option maxRecDepth 100000 in
theorem z_dec_166 : zdecok prog_14_method_10_code z_code_166 = true := by decide +kernel
set_option maxRecDepth 100000 in
theorem z_dec_167 : zdecok prog_14_method_56_code z_code_167 = true := by decide +kernel
set_option maxRecDepth 100000 in
theorem z_dec_168 : zdecok prog_14_method_47_code z_code_168 = true := by decide +kernel
set_option maxRecDepth 100000 in
theorem z_dec_169 : zdecok prog_14_method_51_code z_code_169 = true := by decide +kernel
set_option maxRecDepth 100000 in
theorem z_dec_170 : zdecok prog_14_method_55_code z_code_170 = true := by decide +kernel
set_option maxRecDepth 100000 in
theorem z_dec_171 : zdecok prog_14_method_53_code z_code_171 = true := by decide +kernel
set_option maxRecDepth 100000 in
theorem z_dec_172 : zdecok prog_14_method_44_code z_code_172 = true := by decide +kernel
set_option maxRecDepth 100000 in
theorem z_dec_173 : zdecok prog_14_method_43_code z_code_173 = true := by decide +kernel
set_option maxRecDepth 100000 in
theorem z_dec_174 : zdecok prog_14_method_52_code z_code_174 = true := by decide +kernel
set_option maxRecDepth 100000 in
theorem z_dec_175 : zdecok prog_14_method_41_code z_code_175 = true := by decide +kernel
set_option maxRecDepth 100000 in
theorem z_dec_176 : zdecok prog_14_method_48_code z_code_176 = true := by decide +kernel
set_option maxRecDepth 100000 in
theorem z_dec_177 : zdecok prog_14_method_45_code z_code_177 = true := by decide +kernel
set_option maxRecDepth 100000 in
theorem z_dec_178 : zdecok prog_14_method_46_code z_code_178 = true := by decide +kernel
set_option maxRecDepth 100000 in
theorem z_dec_179 : zdecok prog_14_method_42_code z_code_179 = true := by decide +kernel
set_option maxRecDepth 100000 in
theorem z_dec_180 : zdecok prog_14_method_54_code z_code_180 = true := by decide +kernel
set_option maxRecDepth 100000 in
theorem z_dec_181 : zdecok prog_14_method_50_code z_code_181 = true := by decide +kernel
set_option maxRecDepth 100000 in
theorem z_dec_182 : zdecok prog_14_method_19_code z_code_182 = true := by decide +kernel
set_option maxRecDepth 100000 in
theorem z_dec_183 : zdecok prog_14_method_17_code z_code_183 = true := by decide +kernel
set_option maxRecDepth 100000 in
theorem z_dec_184 : zdecok prog_14_method_8_code z_code_184 = true := by decide +kernel
set_option maxRecDepth 100000 in
theorem z_dec_185 : zdecok prog_14_method_18_code z_code_185 = true := by decide +kernel
set_option maxRecDepth 100000 in
theorem z_dec_186 : zdecok prog_14_method_20_code z_code_186 = true := by decide +kernel
set_option maxRecDepth 100000 in
theorem z_dec_187 : zdecok prog_14_method_13_code z_code_187 = true := by decide +kernel
set_option maxRecDepth 100000 in
theorem z_dec_188 : zdecok prog_14_method_16_code z_code_188 = true := by decide +kernel
set_option maxRecDepth 100000 in
theorem z_dec_189 : zdecok prog_14_method_15_code z_code_189 = true := by decide +kernel
set_option maxRecDepth 100000 in
theorem z_dec_190 : zdecok prog_14_method_14_code z_code_190 = true := by decide +kernel
set_option maxRecDepth 100000 in
theorem z_dec_191 : zdecok prog_14_method_21_code z_code_191 = true := by decide +kernel
set_option maxRecDepth 100000 in
theorem z_dec_192 : zdecok prog_14_method_22_code z_code_192 = true := by decide +kernel
set_option maxRecDepth 100000 in
theorem z_dec_193 : zdecok prog_14_method_23_code z_code_193 = true := by decide +kernel
set_option maxRecDepth 100000 in
theorem z_dec_194 : zdecok prog_14_method_49_code z_code_194 = true := by decide +kernel
set_option maxRecDepth 100000 in
theorem z_dec_195 : zdecok prog_14_method_74_code z_code_195 = true := by decide +kernel
set_option maxRecDepth 100000 in
theorem z_dec_196 : zdecok prog_14_method_72_code z_code_196 = true := by decide +kernel
set_option maxRecDepth 100000 in
theorem z_dec_197 : zdecok prog_14_method_75_code z_code_197 = true := by decide +kernel
set_option maxRecDepth 100000 in
theorem z_dec_198 : zdecok prog_14_method_73_code z_code_198 = true := by decide +kernel
set_option maxRecDepth 100000 in
theorem z_dec_199 : zdecok prog_14_method_67_code z_code_199 = true := by decide +kernel
set_option maxRecDepth 100000 in
theorem z_dec_200 : zdecok prog_14_method_68_code z_code_200 = true := by decide +kernel
set_option maxRecDepth 100000 in
theorem z_dec_201 : zdecok prog_14_method_60_code z_code_201 = true := by decide +kernel
set_option maxRecDepth 100000 in
theorem z_dec_202 : zdecok prog_14_method_59_code z_code_202 = true := by decide +kernel
set_option maxRecDepth 100000 in
theorem z_dec_203 : zdecok prog_14_method_57_code z_code_203 = true := by decide +kernel
set_option maxRecDepth 100000 in
theorem z_dec_204 : zdecok prog_14_method_24_code z_code_204 = true := by decide +kernel
set_option maxRecDepth 100000 in
theorem z_dec_205 : zdecok prog_14_method_25_code z_code_205 = true := by decide +kernel
set_option maxRecDepth 100000 in
theorem z_dec_206 : zdecok prog_14_method_58_code z_code_206 = true := by decide +kernel
set_option maxRecDepth 100000 in
theorem z_dec_207 : zdecok prog_14_method_61_code z_code_207 = true := by decide +kernel
set_option maxRecDepth 100000 in
theorem z_dec_208 : zdecok prog_14_method_30_code z_code_208 = true := by decide +kernel
set_option maxRecDepth 100000 in
theorem z_dec_209 : zdecok prog_14_method_27_code z_code_209 = true := by decide +kernel
set_option maxRecDepth 100000 in
theorem z_dec_210 : zdecok prog_14_method_29_code z_code_210 = true := by decide +kernel
set_option maxRecDepth 100000 in
theorem z_dec_211 : zdecok prog_14_method_28_code z_code_211 = true := by decide +kernel
set_option maxRecDepth 100000 in
theorem z_dec_212 : zdecok prog_14_method_32_code z_code_212 = true := by decide +kernel
set_option maxRecDepth 100000 in
theorem z_dec_213 : zdecok prog_14_method_31_code z_code_213 = true := by decide +kernel
set_option maxRecDepth 100000 in
theorem z_dec_214 : zdecok prog_14_method_62_code z_code_214 = true := by decide +kernel
set_option maxRecDepth 100000 in
theorem z_dec_215 : zdecok prog_14_method_26_code z_code_215 = true := by decide +kernel
set_option maxRecDepth 100000 in
theorem z_dec_216 : zdecok prog_14_method_64_code z_code_216 = true := by decide +kernel
set_option maxRecDepth 100000 in
theorem z_dec_217 : zdecok prog_14_method_63_code z_code_217 = true := by decide +kernel
set_option maxRecDepth 100000 in
theorem z_dec_218 : zdecok prog_14_method_37_code z_code_218 = true := by decide +kernel
set_option maxRecDepth 100000 in
theorem z_dec_219 : zdecok prog_14_method_36_code z_code_219 = true := by decide +kernel
set_option maxRecDepth 100000 in
theorem z_dec_220 : zdecok prog_14_method_33_code z_code_220 = true := by decide +kernel
set_option maxRecDepth 100000 in
theorem z_dec_221 : zdecok prog_14_method_34_code z_code_221 = true := by decide +kernel
set_option maxRecDepth 100000 in
theorem z_dec_222 : zdecok prog_14_method_35_code z_code_222 = true := by decide +kernel
set_option maxRecDepth 100000 in
theorem z_dec_223 : zdecok prog_14_method_39_code z_code_223 = true := by decide +kernel
set_option maxRecDepth 100000 in
theorem z_dec_224 : zdecok prog_14_method_38_code z_code_224 = true := by decide +kernel
set_option maxRecDepth 100000 in
theorem z_dec_225 : zdecok prog_14_method_40_code z_code_225 = true := by decide +kernel
set_option maxRecDepth 100000 in
theorem z_dec_226 : zdecok prog_14_method_69_code z_code_226 = true := by decide +kernel
set_option maxRecDepth 100000 in
theorem z_dec_227 : zdecok prog_14_method_76_code z_code_227 = true := by decide +kernel
set_option maxRecDepth 100000 in
theorem z_dec_228 : zdecok prog_14_method_77_code z_code_228 = true := by decide +kernel
set_option maxRecDepth 100000 in
theorem z_dec_229 : zdecok prog_14_method_78_code z_code_229 = true := by decide +kernel
set_option maxRecDepth 100000 in
theorem z_dec_230 : zdecok prog_14_method_79_code z_code_230 = true := by decide +kernel
set_option maxRecDepth 100000 in
theorem z_dec_231 : zdecok prog_14_method_80_code z_code_231 = true := by decide +kernel
set_option maxRecDepth 100000 in
theorem z_dec_all : z_meth.all (fun m => zdecok m.2.1 m.2.2.2.2) = true := zall_cons z_dec_0 (zall_cons z_dec_1 (zall_cons z_dec_2 (zall_cons z_dec_3 (zall_cons z_dec_4 (zall_cons z_dec_5 (zall_cons z_dec_6 (zall_cons z_dec_7 (zall_cons z_dec_8 (zall_cons z_dec_9 (zall_cons z_dec_10 (zall_cons z_dec_11 (zall_cons z_dec_12 (zall_cons z_dec_13 (zall_cons z_dec_14 (zall_cons z_dec_15 (zall_cons z_dec_16 (zall_cons z_dec_17 (zall_cons z_dec_18 (zall_cons z_dec_19 (zall_cons z_dec_20 (zall_cons z_dec_21 (zall_cons z_dec_22 (zall_cons z_dec_23 (zall_cons z_dec_24 (zall_cons z_dec_25 (zall_cons z_dec_26 (zall_cons z_dec_27 (zall_cons z_dec_28 (zall_cons z_dec_29 (zall_cons z_dec_30 (zall_cons z_dec_31 (zall_cons z_dec_32 (zall_cons z_dec_33 (zall_cons z_dec_34 (zall_cons z_dec_35 (zall_cons z_dec_36 (zall_cons z_dec_37 (zall_cons z_dec_38 (zall_cons z_dec_39 (zall_cons z_dec_40 (zall_cons z_dec_41 (zall_cons z_dec_42 (zall_cons z_dec_43 (zall_cons z_dec_44 (zall_cons z_dec_45 (zall_cons z_dec_46 (zall_cons z_dec_47 (zall_cons z_dec_48 (zall_cons z_dec_49 (zall_cons z_dec_50 (zall_cons z_dec_51 (zall_cons z_dec_52 (zall_cons z_dec_53 (zall_cons z_dec_54 (zall_cons z_dec_55 (zall_cons z_dec_56 (zall_cons z_dec_57 (zall_cons z_dec_58 (zall_cons z_dec_59 (zall_cons z_dec_60 (zall_cons z_dec_61 (zall_cons z_dec_62 (zall_cons z_dec_63 (zall_cons z_dec_64 (zall_cons z_dec_65 (zall_cons z_dec_66 (zall_cons z_dec_67 (zall_cons z_dec_68 (zall_cons z_dec_69 (zall_cons z_dec_70 (zall_cons z_dec_71 (zall_cons z_dec_72 (zall_cons z_dec_73 (zall_cons z_dec_74 (zall_cons z_dec_75 (zall_cons z_dec_76 (zall_cons z_dec_77 (zall_cons z_dec_78 (zall_cons z_dec_79 (zall_cons z_dec_80 (zall_cons z_dec_81 (zall_cons z_dec_82 (zall_cons z_dec_83 (zall_cons z_dec_84 (zall_cons z_dec_85 (zall_cons z_dec_86 (zall_cons z_dec_87 (zall_cons z_dec_88 (zall_cons z_dec_89 (zall_cons z_dec_90 (zall_cons z_dec_91 (zall_cons z_dec_92 (zall_cons z_dec_93 (zall_cons z_dec_94 (zall_cons z_dec_95 (zall_cons z_dec_96 (zall_cons z_dec_97 (zall_cons z_dec_98 (zall_cons z_dec_99 (zall_cons z_dec_100 (zall_cons z_dec_101 (zall_cons z_dec_102 (zall_cons z_dec_103 (zall_cons z_dec_104 (zall_cons z_dec_105 (zall_cons z_dec_106 (zall_cons z_dec_107 (zall_cons z_dec_108 (zall_cons z_dec_109 (zall_cons z_dec_110 (zall_cons z_dec_111 (zall_cons z_dec_112 (zall_cons z_dec_113 (zall_cons z_dec_114 (zall_cons z_dec_115 (zall_cons z_dec_116 (zall_cons z_dec_117 (zall_cons z_dec_118 (zall_cons z_dec_119 (zall_cons z_dec_120 (zall_cons z_dec_121 (zall_cons z_dec_122 (zall_cons z_dec_123 (zall_cons z_dec_124 (zall_cons z_dec_125 (zall_cons z_dec_126 (zall_cons z_dec_127 (zall_cons z_dec_128 (zall_cons z_dec_129 (zall_cons z_dec_130 (zall_cons z_dec_131 (zall_cons z_dec_132 (zall_cons z_dec_133 (zall_cons z_dec_134 (zall_cons z_dec_135 (zall_cons z_dec_136 (zall_cons z_dec_137 (zall_cons z_dec_138 (zall_cons z_dec_139 (zall_cons z_dec_140 (zall_cons z_dec_141 (zall_cons z_dec_142 (zall_cons z_dec_143 (zall_cons z_dec_144 (zall_cons z_dec_145 (zall_cons z_dec_146 (zall_cons z_dec_147 (zall_cons z_dec_148 (zall_cons z_dec_149 (zall_cons z_dec_150 (zall_cons z_dec_151 (zall_cons z_dec_152 (zall_cons z_dec_153 (zall_cons z_dec_154 (zall_cons z_dec_155 (zall_cons z_dec_156 (zall_cons z_dec_157 (zall_cons z_dec_158 (zall_cons z_dec_159 (zall_cons z_dec_160 (zall_cons z_dec_161 (zall_cons z_dec_162 (zall_cons z_dec_163 (zall_cons z_dec_164 (zall_cons z_dec_165 (zall_cons z_dec_166 (zall_cons z_dec_167 (zall_cons z_dec_168 (zall_cons z_dec_169 (zall_cons z_dec_170 (zall_cons z_dec_171 (zall_cons z_dec_172 (zall_cons z_dec_173 (zall_cons z_dec_174 (zall_cons z_dec_175 (zall_cons z_dec_176 (zall_cons z_dec_177 (zall_cons z_dec_178 (zall_cons z_dec_179 (zall_cons z_dec_180 (zall_cons z_dec_181 (zall_cons z_dec_182 (zall_cons z_dec_183 (zall_cons z_dec_184 (zall_cons z_dec_185 (zall_cons z_dec_186 (zall_cons z_dec_187 (zall_cons z_dec_188 (zall_cons z_dec_189 (zall_cons z_dec_190 (zall_cons z_dec_191 (zall_cons z_dec_192 (zall_cons z_dec_193 (zall_cons z_dec_194 (zall_cons z_dec_195 (zall_cons z_dec_196 (zall_cons z_dec_197 (zall_cons z_dec_198 (zall_cons z_dec_199 (zall_cons z_dec_200 (zall_cons z_dec_201 (zall_cons z_dec_202 (zall_cons z_dec_203 (zall_cons z_dec_204 (zall_cons z_dec_205 (zall_cons z_dec_206 (zall_cons z_dec_207 (zall_cons z_dec_208 (zall_cons z_dec_209 (zall_cons z_dec_210 (zall_cons z_dec_211 (zall_cons z_dec_212 (zall_cons z_dec_213 (zall_cons z_dec_214 (zall_cons z_dec_215 (zall_cons z_dec_216 (zall_cons z_dec_217 (zall_cons z_dec_218 (zall_cons z_dec_219 (zall_cons z_dec_220 (zall_cons z_dec_221 (zall_cons z_dec_222 (zall_cons z_dec_223 (zall_cons z_dec_224 (zall_cons z_dec_225 (zall_cons z_dec_226 (zall_cons z_dec_227 (zall_cons z_dec_228 (zall_cons z_dec_229 (zall_cons z_dec_230 (zall_cons z_dec_231 (rfl))))))))))))))))))))))))))))))))))))))))))))))))))))))))))))))))))))))))))))))))))))))))))))))))))))))))))))))))))))))))))))))))))))))))))))))))))))))))))))))))))))))))))))))))))))))))))))))))))))))))))))))))))))))))))))))))))))))))

/-! ===== part 05: the check of all decoded code (written by wip/whole/gen.py) ===== -/
set_option maxRecDepth 100000 in
theorem i_ok_0 : i_okM i_r0 = true := by decide +kernel
set_option maxRecDepth 100000 in
theorem i_ok_1 : i_okM i_r1 = true := by decide +kernel
set_option maxRecDepth 100000 in
theorem i_ok_2 : i_okM i_r2 = true := by decide +kernel
set_option maxRecDepth 100000 in
theorem i_ok_3 : i_okM i_r3 = true := by decide +kernel
set_option maxRecDepth 100000 in
theorem i_ok_4 : i_okM i_r4 = true := by decide +kernel
set_option maxRecDepth 100000 in
theorem i_ok_5 : i_okM i_r5 = true := by decide +kernel
set_option maxRecDepth 100000 in
theorem i_ok_6 : i_okM i_r6 = true := by decide +kernel
set_option maxRecDepth 100000 in
theorem i_ok_7 : i_okM i_r7 = true := by decide +kernel
set_option maxRecDepth 100000 in
theorem i_ok_8 : i_okM i_r8 = true := by decide +kernel
set_option maxRecDepth 100000 in
theorem i_ok_9 : i_okM i_r9 = true := by decide +kernel
set_option maxRecDepth 100000 in
theorem i_ok_10 : i_okM i_r10 = true := by decide +kernel
set_option maxRecDepth 100000 in
theorem i_ok_11 : i_okM i_r11 = true := by decide +kernel
set_option maxRecDepth 100000 in
theorem i_ok_12 : i_okM i_r12 = true := by decide +kernel
set_option maxRecDepth 100000 in
theorem i_ok_13 : i_okM i_r13 = true := by decide +kernel
set_option maxRecDepth 100000 in
theorem i_ok_14 : i_okM i_r14 = true := by decide +kernel
set_option maxRecDepth 100000 in
theorem i_ok_15 : i_okM i_r15 = true := by decide +kernel
set_option maxRecDepth 100000 in
theorem i_ok_16 : i_okM i_r16 = true := by decide +kernel
set_option maxRecDepth 100000 in
theorem i_ok_17 : i_okM i_r17 = true := by decide +kernel
set_option maxRecDepth 100000 in
theorem i_ok_18 : i_okM i_r18 = true := by decide +kernel
set_option maxRecDepth 100000 in
theorem i_ok_19 : i_okM i_r19 = true := by decide +kernel
set_option maxRecDepth 100000 in
theorem i_ok_20 : i_okM i_r20 = true := by decide +kernel
set_option maxRecDepth 100000 in
theorem i_ok_21 : i_okM i_r21 = true := by decide +kernel
set_option maxRecDepth 100000 in
theorem i_ok_22 : i_okM i_r22 = true := by decide +kernel
set_option maxRecDepth 100000 in
theorem i_ok_23 : i_okM i_r23 = true := by decide +kernel
set_option maxRecDepth 100000 in
theorem i_ok_24 : i_okM i_r24 = true := by decide +kernel
set_option maxRecDepth 100000 in
theorem i_ok_25 : i_okM i_r25 = true := by decide +kernel
set_option maxRecDepth 100000 in
theorem i_ok_26 : i_okM i_r26 = true := by decide +kernel
set_option maxRecDepth 100000 in
theorem i_ok_27 : i_okM i_r27 = true := by decide +kernel
set_option maxRecDepth 100000 in
theorem i_ok_28 : i_okM i_r28 = true := by decide +kernel
set_option maxRecDepth 100000 in
theorem i_ok_29 : i_okM i_r29 = true := by decide +kernel
set_option maxRecDepth 100000 in
theorem i_ok_30 : i_okM i_r30 = true := by decide +kernel
set_option maxRecDepth 100000 in
theorem i_ok_31 : i_okM i_r31 = true := by decide +kernel
set_option maxRecDepth 100000 in
theorem i_ok_32 : i_okM i_r32 = true := by decide +kernel
set_option maxRecDepth 100000 in
theorem i_ok_33 : i_okM i_r33 = true := by decide +kernel
set_option maxRecDepth 100000 in
theorem i_ok_34 : i_okM i_r34 = true := by decide +kernel
set_option maxRecDepth 100000 in
theorem i_ok_35 : i_okM i_r35 = true := by decide +kernel
set_option maxRecDepth 100000 in
theorem i_ok_36 : i_okM i_r36 = true := by decide +kernel
set_option maxRecDepth 100000 in
theorem i_ok_37 : i_okM i_r37 = true := by decide +kernel
set_option maxRecDepth 100000 in
theorem i_ok_38 : i_okM i_r38 = true := by decide +kernel
set_option maxRecDepth 100000 in
theorem i_ok_39 : i_okM i_r39 = true := by decide +kernel
set_option maxRecDepth 100000 in
theorem i_ok_40 : i_okM i_r40 = true := by decide +kernel
set_option maxRecDepth 100000 in
theorem i_ok_41 : i_okM i_r41 = true := by decide +kernel
set_option maxRecDepth 100000 in
theorem i_ok_42 : i_okM i_r42 = true := by decide +kernel
set_option maxRecDepth 100000 in
theorem i_ok_43 : i_okM i_r43 = true := by decide +kernel
set_option maxRecDepth 100000 in
theorem i_ok_44 : i_okM i_r44 = true := by decide +kernel
set_option maxRecDepth 100000 in
theorem i_ok_45 : i_okM i_r45 = true := by decide +kernel
set_option maxRecDepth 100000 in
theorem i_ok_46 : i_okM i_r46 = true := by decide +kernel
set_option maxRecDepth 100000 in
theorem i_ok_47 : i_okM i_r47 = true := by decide +kernel
set_option maxRecDepth 100000 in
theorem i_ok_48 : i_okM i_r48 = true := by decide +kernel
set_option maxRecDepth 100000 in
theorem i_ok_49 : i_okM i_r49 = true := by decide +kernel
set_option maxRecDepth 100000 in
theorem i_ok_50 : i_okM i_r50 = true := by decide +kernel
set_option maxRecDepth 100000 in
theorem i_ok_51 : i_okM i_r51 = true := by decide +kernel
set_option maxRecDepth 100000 in
theorem i_ok_52 : i_okM i_r52 = true := by decide +kernel
set_option maxRecDepth 100000 in
theorem i_ok_53 : i_okM i_r53 = true := by decide +kernel
set_option maxRecDepth 100000 in
theorem i_ok_54 : i_okM i_r54 = true := by decide +kernel
set_option maxRecDepth 100000 in
theorem i_ok_55 : i_okM i_r55 = true := by decide +kernel
set_option maxRecDepth 100000 in
theorem i_ok_56 : i_okM i_r56 = true := by decide +kernel
set_option maxRecDepth 100000 in
theorem i_ok_57 : i_okM i_r57 = true := by decide +kernel
set_option maxRecDepth 100000 in
theorem i_ok_58 : i_okM i_r58 = true := by decide +kernel
set_option maxRecDepth 100000 in
theorem i_ok_59 : i_okM i_r59 = true := by decide +kernel
set_option maxRecDepth 100000 in
theorem i_ok_60 : i_okM i_r60 = true := by decide +kernel
set_option maxRecDepth 100000 in
theorem i_ok_61 : i_okM i_r61 = true := by decide +kernel
set_option maxRecDepth 100000 in
theorem i_ok_62 : i_okM i_r62 = true := by decide +kernel
set_option maxRecDepth 100000 in
theorem i_ok_63 : i_okM i_r63 = true := by decide +kernel
set_option maxRecDepth 100000 in
theorem i_ok_64 : i_okM i_r64 = true := by decide +kernel
set_option maxRecDepth 100000 in
theorem i_ok_65 : i_okM i_r65 = true := by decide +kernel
set_option maxRecDepth 100000 in
theorem i_ok_66 : i_okM i_r66 = true := by decide +kernel
set_option maxRecDepth 100000 in
theorem i_ok_67 : i_okM i_r67 = true := by decide +kernel
set_option maxRecDepth 100000 in
theorem i_ok_68 : i_okM i_r68 = true := by decide +kernel
set_option maxRecDepth 100000 in
theorem i_ok_69 : i_okM i_r69 = true := by decide +kernel
set_option maxRecDepth 100000 in
theorem i_ok_70 : i_okM i_r70 = true := by decide +kernel
set_option maxRecDepth 100000 in
theorem i_ok_71 : i_okM i_r71 = true := by decide +kernel
set_option maxRecDepth 100000 in
theorem i_ok_72 : i_okM i_r72 = true := by decide +kernel
set_option maxRecDepth 100000 in
theorem i_ok_73 : i_okM i_r73 = true := by decide +kernel
set_option maxRecDepth 100000 in
theorem i_ok_74 : i_okM i_r74 = true := by decide +kernel
set_option maxRecDepth 100000 in
theorem i_ok_75 : i_okM i_r75 = true := by decide +kernel
set_option maxRecDepth 100000 in
theorem i_ok_76 : i_okM i_r76 = true := by decide +kernel
set_option maxRecDepth 100000 in
theorem i_ok_77 : i_okM i_r77 = true := by decide +kernel
set_option maxRecDepth 100000 in
theorem i_ok_78 : i_okM i_r78 = true := by decide +kernel
set_option maxRecDepth 100000 in
theorem i_ok_79 : i_okM i_r79 = true := by decide +kernel
set_option maxRecDepth 100000 in
theorem i_ok_80 : i_okM i_r80 = true := by decide +kernel
set_option maxRecDepth 100000 in
theorem i_ok_81 : i_okM i_r81 = true := by decide +kernel
set_option maxRecDepth 100000 in
theorem i_ok_82 : i_okM i_r82 = true := by decide +kernel
set_option maxRecDepth 100000 in
theorem i_ok_83 : i_okM i_r83 = true := by decide +kernel
set_option maxRecDepth 100000 in
theorem i_ok_84 : i_okM i_r84 = true := by decide +kernel
set_option maxRecDepth 100000 in
theorem i_ok_85 : i_okM i_r85 = true := by decide +kernel
set_option maxRecDepth 100000 in
theorem i_ok_86 : i_okM i_r86 = true := by decide +kernel
set_option maxRecDepth 100000 in
theorem i_ok_87 : i_okM i_r87 = true := by decide +kernel
set_option maxRecDepth 100000 in
theorem i_ok_88 : i_okM i_r88 = true := by decide +kernel
set_option maxRecDepth 100000 in
theorem i_ok_89 : i_okM i_r89 = true := by decide +kernel
set_option maxRecDepth 100000 in
theorem i_ok_90 : i_okM i_r90 = true := by decide +kernel
set_option maxRecDepth 100000 in
theorem i_ok_91 : i_okM i_r91 = true := by decide +kernel
set_option maxRecDepth 100000 in
theorem i_ok_92 : i_okM i_r92 = true := by decide +kernel
set_option maxRecDepth 100000 in
theorem i_ok_93 : i_okM i_r93 = true := by decide +kernel
set_option maxRecDepth 100000 in
theorem i_ok_94 : i_okM i_r94 = true := by decide +kernel
set_option maxRecDepth 100000 in
theorem i_ok_95 : i_okM i_r95 = true := by decide +kernel
set_option maxRecDepth 100000 in
theorem i_ok_96 : i_okM i_r96 = true := by decide +kernel
set_option maxRecDepth 100000 in
theorem i_ok_97 : i_okM i_r97 = true := by decide +kernel
set_option maxRecDepth 100000 in
theorem i_ok_98 : i_okM i_r98 = true := by decide +kernel
set_option maxRecDepth 100000 in
theorem i_ok_99 : i_okM i_r99 = true := by decide +kernel
set_option maxRecDepth 100000 in
theorem i_ok_100 : i_okM i_r100 = true := by decide +kernel
set_option maxRecDepth 100000 in
theorem i_ok_101 : i_okM i_r101 = true := by decide +kernel
set_option maxRecDepth 100000 in
theorem i_ok_102 : i_okM i_r102 = true := by decide +kernel
set_option maxRecDepth 100000 in
theorem i_ok_103 : i_okM i_r103 = true := by decide +kernel
set_option maxRecDepth 100000 in
theorem i_ok_104 : i_okM i_r104 = true := by decide +kernel
set_option maxRecDepth 100000 in
theorem i_ok_105 : i_okM i_r105 = true := by decide +kernel
set_option maxRecDepth 100000 in
theorem i_ok_106 : i_okM i_r106 = true := by decide +kernel
set_option maxRecDepth 100000 in
theorem i_ok_107 : i_okM i_r107 = true := by decide +kernel
set_option maxRecDepth 100000 in
theorem i_ok_108 : i_okM i_r108 = true := by decide +kernel
set_option maxRecDepth 100000 in
theorem i_ok_109 : i_okM i_r109 = true := by decide +kernel
set_option maxRecDepth 100000 in
theorem i_ok_110 : i_okM i_r110 = true := by decide +kernel
set_option maxRecDepth 100000 in
theorem i_ok_111 : i_okM i_r111 = true := by decide +kernel
set_option maxRecDepth 100000 in
theorem i_ok_112 : i_okM i_r112 = true := by decide +kernel
set_option maxRecDepth 100000 in
theorem i_ok_113 : i_okM i_r113 = true := by decide +kernel
set_option maxRecDepth 100000 in
theorem i_ok_114 : i_okM i_r114 = true := by decide +kernel
set_option maxRecDepth 100000 in
theorem i_ok_115 : i_okM i_r115 = true := by decide +kernel
set_option maxRecDepth 100000 in
theorem i_ok_116 : i_okM i_r116 = true := by decide +kernel
set_option maxRecDepth 100000 in
theorem i_ok_117 : i_okM i_r117 = true := by decide +kernel
set_option maxRecDepth 100000 in
theorem i_ok_118 : i_okM i_r118 = true := by decide +kernel
set_option maxRecDepth 100000 in
theorem i_ok_119 : i_okM i_r119 = true := by decide +kernel
set_option maxRecDepth 100000 in
theorem i_ok_120 : i_okM i_r120 = true := by decide +kernel
set_option maxRecDepth 100000 in
theorem i_ok_121 : i_okM i_r121 = true := by decide +kernel
set_option maxRecDepth 100000 in
theorem i_ok_122 : i_okM i_r122 = true := by decide +kernel
set_option maxRecDepth 100000 in
theorem i_ok_123 : i_okM i_r123 = true := by decide +kernel
set_option maxRecDepth 100000 in
theorem i_ok_124 : i_okM i_r124 = true := by decide +kernel
set_option maxRecDepth 100000 in
theorem i_ok_125 : i_okM i_r125 = true := by decide +kernel
set_option maxRecDepth 100000 in
theorem i_ok_126 : i_okM i_r126 = true := by decide +kernel
set_option maxRecDepth 100000 in
theorem i_ok_127 : i_okM i_r127 = true := by decide +kernel
set_option maxRecDepth 100000 in
theorem i_ok_128 : i_okM i_r128 = true := by decide +kernel
set_option maxRecDepth 100000 in
theorem i_ok_129 : i_okM i_r129 = true := by decide +kernel
set_option maxRecDepth 100000 in
theorem i_ok_130 : i_okM i_r130 = true := by decide +kernel
set_option maxRecDepth 100000 in
theorem i_ok_131 : i_okM i_r131 = true := by decide +kernel
set_option maxRecDepth 100000 in
theorem i_ok_132 : i_okM i_r132 = true := by decide +kernel
set_option maxRecDepth 100000 in
theorem i_ok_133 : i_okM i_r133 = true := by decide +kernel
set_option maxRecDepth 100000 in
theorem i_ok_134 : i_okM i_r134 = true := by decide +kernel
set_option maxRecDepth 100000 in
theorem i_ok_135 : i_okM i_r135 = true := by decide +kernel
set_option maxRecDepth 100000 in
theorem i_ok_136 : i_okM i_r136 = true := by decide +kernel
set_option maxRecDepth 100000 in
theorem i_ok_137 : i_okM i_r137 = true := by decide +kernel
set_option maxRecDepth 100000 in
theorem i_ok_138 : i_okM i_r138 = true := by decide +kernel
set_option maxRecDepth 100000 in
theorem i_ok_139 : i_okM i_r139 = true := by decide +kernel
set_option maxRecDepth 100000 in
theorem i_ok_140 : i_okM i_r140 = true := by decide +kernel
set_option maxRecDepth 100000 in
theorem i_ok_141 : i_okM i_r141 = true := by decide +kernel
set_option maxRecDepth 100000 in
theorem i_ok_142 : i_okM i_r142 = true := by decide +kernel
set_option maxRecDepth 100000 in
theorem i_ok_143 : i_okM i_r143 = true := by decide +kernel
set_option maxRecDepth 100000 in
theorem i_ok_144 : i_okM i_r144 = true := by decide +kernel
set_option maxRecDepth 100000 in
theorem i_ok_145 : i_okM i_r145 = true := by decide +kernel
set_option maxRecDepth 100000 in
theorem i_ok_146 : i_okM i_r146 = true := by decide +kernel
set_option maxRecDepth 100000 in
theorem i_ok_147 : i_okM i_r147 = true := by decide +kernel
set_option maxRecDepth 100000 in
theorem i_ok_148 : i_okM i_r148 = true := by decide +kernel
set_option maxRecDepth 100000 in
theorem i_ok_149 : i_okM i_r149 = true := by decide +kernel
set_option maxRecDepth 100000 in
theorem i_ok_150 : i_okM i_r150 = true := by decide +kernel
set_option maxRecDepth 100000 in
theorem i_ok_151 : i_okM i_r151 = true := by decide +kernel
set_option maxRecDepth 100000 in
theorem i_ok_152 : i_okM i_r152 = true := by decide +kernel
set_option maxRecDepth 100000 in
theorem i_ok_153 : i_okM i_r153 = true := by decide +kernel
set_option maxRecDepth 100000 in
theorem i_ok_154 : i_okM i_r154 = true := by decide +kernel
set_option maxRecDepth 100000 in
theorem i_ok_155 : i_okM i_r155 = true := by decide +kernel
set_option maxRecDepth 100000 in
theorem i_ok_156 : i_okM i_r156 = true := by decide +kernel
set_option maxRecDepth 100000 in
theorem i_ok_157 : i_okM i_r157 = true := by decide +kernel
set_option maxRecDepth 100000 in
theorem i_ok_158 : i_okM i_r158 = true := by decide +kernel
set_option maxRecDepth 100000 in
theorem i_ok_159 : i_okM i_r159 = true := by decide +kernel
set_option maxRecDepth 100000 in
theorem i_ok_160 : i_okM i_r160 = true := by decide +kernel
set_option maxRecDepth 100000 in
theorem i_ok_161 : i_okM i_r161 = true := by decide +kernel
set_option maxRecDepth 100000 in
theorem i_ok_162 : i_okM i_r162 = true := by decide +kernel
set_option maxRecDepth 100000 in
theorem i_ok_163 : i_okM i_r163 = true := by decide +kernel
set_option maxRecDepth 100000 in
theorem i_ok_164 : i_okM i_r164 = true := by decide +kernel
set_option maxRecDepth 100000 in
theorem i_ok_165 : i_okM i_r165 = true := by decide +kernel
set_option maxRecDepth 100000 in
theorem i_ok_166 : i_okM i_r166 = true := by decide +kernel
set_option maxRecDepth 100000 in
theorem i_ok_167 : i_okM i_r167 = true := by decide +kernel
set_option maxRecDepth 100000 in
theorem i_ok_168 : i_okM i_r168 = true := by decide +kernel
set_option maxRecDepth 100000 in
theorem i_ok_169 : i_okM i_r169 = true := by decide +kernel
set_option maxRecDepth 100000 in
theorem i_ok_170 : i_okM i_r170 = true := by decide +kernel
set_option maxRecDepth 100000 in
theorem i_ok_171 : i_okM i_r171 = true := by decide +kernel
set_option maxRecDepth 100000 in
theorem i_ok_172 : i_okM i_r172 = true := by decide +kernel
set_option maxRecDepth 100000 in
theorem i_ok_173 : i_okM i_r173 = true := by decide +kernel
set_option maxRecDepth 100000 in
theorem i_ok_174 : i_okM i_r174 = true := by decide +kernel
set_option maxRecDepth 100000 in
theorem i_ok_175 : i_okM i_r175 = true := by decide +kernel
set_option maxRecDepth 100000 in
theorem i_ok_176 : i_okM i_r176 = true := by decide +kernel
set_option maxRecDepth 100000 in
theorem i_ok_177 : i_okM i_r177 = true := by decide +kernel
set_option maxRecDepth 100000 in
theorem i_ok_178 : i_okM i_r178 = true := by decide +kernel
set_option maxRecDepth 100000 in
theorem i_ok_179 : i_okM i_r179 = true := by decide +kernel
set_option maxRecDepth 100000 in
theorem i_ok_180 : i_okM i_r180 = true := by decide +kernel
set_option maxRecDepth 100000 in
theorem i_ok_181 : i_okM i_r181 = true := by decide +kernel
set_option maxRecDepth 100000 in
theorem i_ok_182 : i_okM i_r182 = true := by decide +kernel
set_option maxRecDepth 100000 in
theorem i_ok_183 : i_okM i_r183 = true := by decide +kernel
set_option maxRecDepth 100000 in
theorem i_ok_184 : i_okM i_r184 = true := by decide +kernel
set_option maxRecDepth 100000 in
theorem i_ok_185 : i_okM i_r185 = true := by decide +kernel
set_option maxRecDepth 100000 in
theorem i_ok_186 : i_okM i_r186 = true := by decide +kernel
set_option maxRecDepth 100000 in
theorem i_ok_187 : i_okM i_r187 = true := by decide +kernel
set_option maxRecDepth 100000 in
theorem i_ok_188 : i_okM i_r188 = true := by decide +kernel
set_option maxRecDepth 100000 in
theorem i_ok_189 : i_okM i_r189 = true := by decide +kernel
set_option maxRecDepth 100000 in
theorem i_ok_190 : i_okM i_r190 = true := by decide +kernel
set_option maxRecDepth 100000 in
theorem i_ok_191 : i_okM i_r191 = true := by decide +kernel
set_option maxRecDepth 100000 in
theorem i_ok_192 : i_okM i_r192 = true := by decide +kernel
set_option maxRecDepth 100000 in
theorem i_ok_193 : i_okM i_r193 = true := by decide +kernel
set_option maxRecDepth 100000 in
theorem i_ok_194 : i_okM i_r194 = true := by decide +kernel
set_option maxRecDepth 100000 in
theorem i_ok_195 : i_okM i_r195 = true := by decide +kernel
set_option maxRecDepth 100000 in
theorem i_ok_196 : i_okM i_r196 = true := by decide +kernel
set_option maxRecDepth 100000 in
theorem i_ok_197 : i_okM i_r197 = true := by decide +kernel
set_option maxRecDepth 100000 in
theorem i_ok_198 : i_okM i_r198 = true := by decide +kernel
set_option maxRecDepth 100000 in
theorem i_ok_199 : i_okM i_r199 = true := by decide +kernel
set_option maxRecDepth 100000 in
theorem i_ok_200 : i_okM i_r200 = true := by decide +kernel
set_option maxRecDepth 100000 in
theorem i_ok_201 : i_okM i_r201 = true := by decide +kernel
set_option maxRecDepth 100000 in
theorem i_ok_202 : i_okM i_r202 = true := by decide +kernel
set_option maxRecDepth 100000 in
theorem i_ok_203 : i_okM i_r203 = true := by decide +kernel
set_option maxRecDepth 100000 in
theorem i_ok_204 : i_okM i_r204 = true := by decide +kernel
set_option maxRecDepth 100000 in
theorem i_ok_205 : i_okM i_r205 = true := by decide +kernel
set_option maxRecDepth 100000 in
theorem i_ok_206 : i_okM i_r206 = true := by decide +kernel
set_option maxRecDepth 100000 in
theorem i_ok_207 : i_okM i_r207 = true := by decide +kernel
set_option maxRecDepth 100000 in
theorem i_ok_208 : i_okM i_r208 = true := by decide +kernel
set_option maxRecDepth 100000 in
theorem i_ok_209 : i_okM i_r209 = true := by decide +kernel
set_option maxRecDepth 100000 in
theorem i_ok_210 : i_okM i_r210 = true := by decide +kernel
set_option maxRecDepth 100000 in
theorem i_ok_211 : i_okM i_r211 = true := by decide +kernel
set_option maxRecDepth 100000 in
theorem i_ok_212 : i_okM i_r212 = true := by decide +kernel
set_option maxRecDepth 100000 in
theorem i_ok_213 : i_okM i_r213 = true := by decide +kernel
set_option maxRecDepth 100000 in
theorem i_ok_214 : i_okM i_r214 = true := by decide +kernel
set_option maxRecDepth 100000 in
theorem i_ok_215 : i_okM i_r215 = true := by decide +kernel
set_option maxRecDepth 100000 in
theorem i_ok_216 : i_okM i_r216 = true := by decide +kernel
set_option maxRecDepth 100000 in
theorem i_ok_217 : i_okM i_r217 = true := by decide +kernel
set_option maxRecDepth 100000 in
theorem i_ok_218 : i_okM i_r218 = true := by decide +kernel
set_option maxRecDepth 100000 in
theorem i_ok_219 : i_okM i_r219 = true := by decide +kernel
set_option maxRecDepth 100000 in
theorem i_ok_220 : i_okM i_r220 = true := by decide +kernel
set_option maxRecDepth 100000 in
theorem i_ok_221 : i_okM i_r221 = true := by decide +kernel
set_option maxRecDepth 100000 in
theorem i_ok_222 : i_okM i_r222 = true := by decide +kernel
set_option maxRecDepth 100000 in
theorem i_ok_223 : i_okM i_r223 = true := by decide +kernel
set_option maxRecDepth 100000 in
theorem i_ok_224 : i_okM i_r224 = true := by decide +kernel
set_option maxRecDepth 100000 in
theorem i_ok_225 : i_okM i_r225 = true := by decide +kernel
set_option maxRecDepth 100000 in
theorem i_ok_226 : i_okM i_r226 = true := by decide +kernel
set_option maxRecDepth 100000 in
theorem i_ok_227 : i_okM i_r227 = true := by decide +kernel
set_option maxRecDepth 100000 in
theorem i_ok_228 : i_okM i_r228 = true := by decide +kernel
set_option maxRecDepth 100000 in
theorem i_ok_229 : i_okM i_r229 = true := by decide +kernel
set_option maxRecDepth 100000 in
theorem i_ok_230 : i_okM i_r230 = true := by decide +kernel
set_option maxRecDepth 100000 in
theorem i_ok_231 : i_okM i_r231 = true := by decide +kernel
set_option maxRecDepth 100000 in
theorem i_ok_232 : i_okM i_r232 = true := by decide +kernel
set_option maxRecDepth 100000 in
theorem i_ok_233 : i_okM i_r233 = true := by decide +kernel
set_option maxRecDepth 100000 in
theorem i_ok_234 : i_okM i_r234 = true := by decide +kernel
set_option maxRecDepth 100000 in
theorem i_ok_235 : i_okM i_r235 = true := by decide +kernel
set_option maxRecDepth 100000 in
theorem i_ok_236 : i_okM i_r236 = true := by decide +kernel
set_option maxRecDepth 100000 in
theorem i_ok_237 : i_okM i_r237 = true := by decide +kernel
set_option maxRecDepth 100000 in
theorem i_ok_238 : i_okM i_r238 = true := by decide +kernel
set_option maxRecDepth 100000 in
theorem i_ok_239 : i_okM i_r239 = true := by decide +kernel
set_option maxRecDepth 100000 in
theorem i_ok_240 : i_okM i_r240 = true := by decide +kernel
set_option maxRecDepth 100000 in
theorem i_ok_241 : i_okM i_r241 = true := by decide +kernel
set_option maxRecDepth 100000 in
theorem i_ok_242 : i_okM i_r242 = true := by decide +kernel
set_option maxRecDepth 100000 in
theorem i_ok_243 : i_okM i_r243 = true := by decide +kernel
set_option maxRecDepth 100000 in
theorem i_ok_244 : i_okM i_r244 = true := by decide +kernel
set_option maxRecDepth 100000 in
theorem i_ok_245 : i_okM i_r245 = true := by decide +kernel
set_option maxRecDepth 100000 in
theorem i_ok_246 : i_okM i_r246 = true := by decide +kernel
set_option maxRecDepth 100000 in
theorem i_ok_247 : i_okM i_r247 = true := by decide +kernel
set_option maxRecDepth 100000 in
theorem i_ok_248 : i_okM i_r248 = true := by decide +kernel
set_option maxRecDepth 100000 in
theorem i_ok_249 : i_okM i_r249 = true := by decide +kernel
set_option maxRecDepth 100000 in
theorem i_ok_250 : i_okM i_r250 = true := by decide +kernel
set_option maxRecDepth 100000 in
theorem i_ok_251 : i_okM i_r251 = true := by decide +kernel
set_option maxRecDepth 100000 in
theorem i_ok_252 : i_okM i_r252 = true := by decide +kernel
set_option maxRecDepth 100000 in
theorem i_ok_253 : i_okM i_r253 = true := by decide +kernel
set_option maxRecDepth 100000 in
theorem i_ok_254 : i_okM i_r254 = true := by decide +kernel
set_option maxRecDepth 100000 in
theorem i_ok_255 : i_okM i_r255 = true := by decide +kernel
set_option maxRecDepth 100000 in
theorem i_ok_256 : i_okM i_r256 = true := by decide +kernel
set_option maxRecDepth 100000 in
theorem i_ok_257 : i_okM i_r257 = true := by decide +kernel
set_option maxRecDepth 100000 in
theorem i_ok_258 : i_okM i_r258 = true := by decide +kernel
set_option maxRecDepth 100000 in
theorem i_ok_259 : i_okM i_r259 = true := by decide +kernel
set_option maxRecDepth 100000 in
theorem i_ok_260 : i_okM i_r260 = true := by decide +kernel
set_option maxRecDepth 100000 in
theorem i_ok_261 : i_okM i_r261 = true := by decide +kernel
set_option maxRecDepth 100000 in
theorem i_ok_262 : i_okM i_r262 = true := by decide +kernel
set_option maxRecDepth 100000 in
theorem i_ok_263 : i_okM i_r263 = true := by decide +kernel
set_option maxRecDepth 100000 in
theorem i_ok_264 : i_okM i_r264 = true := by decide +kernel
set_option maxRecDepth 100000 in
theorem i_ok_265 : i_okM i_r265 = true := by decide +kernel
set_option maxRecDepth 100000 in
theorem i_ok_266_0 : i_c266_0.all (i_okE i_r266.1.cls i_r266.1.name i_r266.2.1 i_r266.2.2.2.1) = true := by decide +kernel
set_option maxRecDepth 100000 in
theorem i_ok_266_1 : i_c266_1.all (i_okE i_r266.1.cls i_r266.1.name i_r266.2.1 i_r266.2.2.2.1) = true := by decide +kernel
set_option maxRecDepth 100000 in
theorem i_ok_266_2 : i_c266_2.all (i_okE i_r266.1.cls i_r266.1.name i_r266.2.1 i_r266.2.2.2.1) = true := by decide +kernel
set_option maxRecDepth 100000 in
theorem i_ok_266_3 : i_c266_3.all (i_okE i_r266.1.cls i_r266.1.name i_r266.2.1 i_r266.2.2.2.1) = true := by decide +kernel
set_option maxRecDepth 100000 in
theorem i_ok_266_4 : i_c266_4.all (i_okE i_r266.1.cls i_r266.1.name i_r266.2.1 i_r266.2.2.2.1) = true := by decide +kernel
set_option maxRecDepth 100000 in
theorem i_ok_266_5 : i_c266_5.all (i_okE i_r266.1.cls i_r266.1.name i_r266.2.1 i_r266.2.2.2.1) = true := by decide +kernel
set_option maxRecDepth 100000 in
theorem i_ok_266_6 : i_c266_6.all (i_okE i_r266.1.cls i_r266.1.name i_r266.2.1 i_r266.2.2.2.1) = true := by decide +kernel
set_option maxRecDepth 100000 in
theorem i_ok_266_7 : i_c266_7.all (i_okE i_r266.1.cls i_r266.1.name i_r266.2.1 i_r266.2.2.2.1) = true := by decide +kernel
set_option maxRecDepth 100000 in
theorem i_ok_266_8 : i_c266_8.all (i_okE i_r266.1.cls i_r266.1.name i_r266.2.1 i_r266.2.2.2.1) = true := by decide +kernel
set_option maxRecDepth 100000 in
theorem i_ok_266_9 : i_c266_9.all (i_okE i_r266.1.cls i_r266.1.name i_r266.2.1 i_r266.2.2.2.1) = true := by decide +kernel
set_option maxRecDepth 100000 in
theorem i_ok_266_10 : i_c266_10.all (i_okE i_r266.1.cls i_r266.1.name i_r266.2.1 i_r266.2.2.2.1) = true := by decide +kernel
theorem i_ok_266 : i_okM i_r266 = true := by
  have h : i_c266.all (i_okE i_r266.1.cls i_r266.1.name i_r266.2.1 i_r266.2.2.2.1) = true := by
    unfold i_c266
    simp only [List.all_append, i_ok_266_0, i_ok_266_1, i_ok_266_2, i_ok_266_3, i_ok_266_4, i_ok_266_5, i_ok_266_6, i_ok_266_7, i_ok_266_8, i_ok_266_9, i_ok_266_10, Bool.and_self]
  have h2 : i_r266.2.2.2.2.1 = i_c266 := rfl
  unfold i_okM
  rw [h2, h]
  decide +kernel
theorem i_okq_0 : ∀ e ∈ i_mt_0, i_okM e = true := List.forall_mem_cons.mpr ⟨i_ok_0, List.forall_mem_cons.mpr ⟨i_ok_1, List.forall_mem_cons.mpr ⟨i_ok_2, List.forall_mem_cons.mpr ⟨i_ok_3, List.forall_mem_cons.mpr ⟨i_ok_4, List.forall_mem_cons.mpr ⟨i_ok_5, List.forall_mem_cons.mpr ⟨i_ok_6, List.forall_mem_cons.mpr ⟨i_ok_7, List.forall_mem_cons.mpr ⟨i_ok_8, List.forall_mem_cons.mpr ⟨i_ok_9, List.forall_mem_cons.mpr ⟨i_ok_10, List.forall_mem_cons.mpr ⟨i_ok_11, List.forall_mem_cons.mpr ⟨i_ok_12, List.forall_mem_cons.mpr ⟨i_ok_13, List.forall_mem_cons.mpr ⟨i_ok_14, List.forall_mem_cons.mpr ⟨i_ok_15, List.forall_mem_cons.mpr ⟨i_ok_16, List.forall_mem_cons.mpr ⟨i_ok_17, List.forall_mem_cons.mpr ⟨i_ok_18, List.forall_mem_cons.mpr ⟨i_ok_19, List.forall_mem_cons.mpr ⟨i_ok_20, List.forall_mem_cons.mpr ⟨i_ok_21, List.forall_mem_cons.mpr ⟨i_ok_22, List.forall_mem_cons.mpr ⟨i_ok_23, List.forall_mem_cons.mpr ⟨i_ok_24, List.forall_mem_cons.mpr ⟨i_ok_25, List.forall_mem_cons.mpr ⟨i_ok_26, List.forall_mem_cons.mpr ⟨i_ok_27, List.forall_mem_cons.mpr ⟨i_ok_28, List.forall_mem_cons.mpr ⟨i_ok_29, List.forall_mem_cons.mpr ⟨i_ok_30, List.forall_mem_cons.mpr ⟨i_ok_31, List.forall_mem_cons.mpr ⟨i_ok_32, List.forall_mem_cons.mpr ⟨i_ok_33, List.forall_mem_cons.mpr ⟨i_ok_34, List.forall_mem_cons.mpr ⟨i_ok_35, List.forall_mem_cons.mpr ⟨i_ok_36, List.forall_mem_cons.mpr ⟨i_ok_37, List.forall_mem_cons.mpr ⟨i_ok_38, List.forall_mem_cons.mpr ⟨i_ok_39, List.forall_mem_cons.mpr ⟨i_ok_40, List.forall_mem_cons.mpr ⟨i_ok_41, List.forall_mem_cons.mpr ⟨i_ok_42, List.forall_mem_cons.mpr ⟨i_ok_43, List.forall_mem_cons.mpr ⟨i_ok_44, List.forall_mem_cons.mpr ⟨i_ok_45, List.forall_mem_cons.mpr ⟨i_ok_46, List.forall_mem_cons.mpr ⟨i_ok_47, List.forall_mem_cons.mpr ⟨i_ok_48, List.forall_mem_cons.mpr ⟨i_ok_49, fun _ h => absurd h List.not_mem_nil⟩⟩⟩⟩⟩⟩⟩⟩⟩⟩⟩⟩⟩⟩⟩⟩⟩⟩⟩⟩⟩⟩⟩⟩⟩⟩⟩⟩⟩⟩⟩⟩⟩⟩⟩⟩⟩⟩⟩⟩⟩⟩⟩⟩⟩⟩⟩⟩⟩⟩
theorem i_okq_1 : ∀ e ∈ i_mt_1, i_okM e = true := List.forall_mem_cons.mpr ⟨i_ok_50, List.forall_mem_cons.mpr ⟨i_ok_51, List.forall_mem_cons.mpr ⟨i_ok_52, List.forall_mem_cons.mpr ⟨i_ok_53, List.forall_mem_cons.mpr ⟨i_ok_54, List.forall_mem_cons.mpr ⟨i_ok_55, List.forall_mem_cons.mpr ⟨i_ok_56, List.forall_mem_cons.mpr ⟨i_ok_57, List.forall_mem_cons.mpr ⟨i_ok_58, List.forall_mem_cons.mpr ⟨i_ok_59, List.forall_mem_cons.mpr ⟨i_ok_60, List.forall_mem_cons.mpr ⟨i_ok_61, List.forall_mem_cons.mpr ⟨i_ok_62, List.forall_mem_cons.mpr ⟨i_ok_63, List.forall_mem_cons.mpr ⟨i_ok_64, List.forall_mem_cons.mpr ⟨i_ok_65, List.forall_mem_cons.mpr ⟨i_ok_66, List.forall_mem_cons.mpr ⟨i_ok_67, List.forall_mem_cons.mpr ⟨i_ok_68, List.forall_mem_cons.mpr ⟨i_ok_69, List.forall_mem_cons.mpr ⟨i_ok_70, List.forall_mem_cons.mpr ⟨i_ok_71, List.forall_mem_cons.mpr ⟨i_ok_72, List.forall_mem_cons.mpr ⟨i_ok_73, List.forall_mem_cons.mpr ⟨i_ok_74, List.forall_mem_cons.mpr ⟨i_ok_75, List.forall_mem_cons.mpr ⟨i_ok_76, List.forall_mem_cons.mpr ⟨i_ok_77, List.forall_mem_cons.mpr ⟨i_ok_78, List.forall_mem_cons.mpr ⟨i_ok_79, List.forall_mem_cons.mpr ⟨i_ok_80, List.forall_mem_cons.mpr ⟨i_ok_81, List.forall_mem_cons.mpr ⟨i_ok_82, List.forall_mem_cons.mpr ⟨i_ok_83, List.forall_mem_cons.mpr ⟨i_ok_84, List.forall_mem_cons.mpr ⟨i_ok_85, List.forall_mem_cons.mpr ⟨i_ok_86, List.forall_mem_cons.mpr ⟨i_ok_87, List.forall_mem_cons.mpr ⟨i_ok_88, List.forall_mem_cons.mpr ⟨i_ok_89, List.forall_mem_cons.mpr ⟨i_ok_90, List.forall_mem_cons.mpr ⟨i_ok_91, List.forall_mem_cons.mpr ⟨i_ok_92, List.forall_mem_cons.mpr ⟨i_ok_93, List.forall_mem_cons.mpr ⟨i_ok_94, List.forall_mem_cons.mpr ⟨i_ok_95, List.forall_mem_cons.mpr ⟨i_ok_96, List.forall_mem_cons.mpr ⟨i_ok_97, List.forall_mem_cons.mpr ⟨i_ok_98, List.forall_mem_cons.mpr ⟨i_ok_99, fun _ h => absurd h List.not_mem_nil⟩⟩⟩⟩⟩⟩⟩⟩⟩⟩⟩⟩⟩⟩⟩⟩⟩⟩⟩⟩⟩⟩⟩⟩⟩⟩⟩⟩⟩⟩⟩⟩⟩⟩⟩⟩⟩⟩⟩⟩⟩⟩⟩⟩⟩⟩⟩⟩⟩⟩
theorem i_okq_2 : ∀ e ∈ i_mt_2, i_okM e = true := List.forall_mem_cons.mpr ⟨i_ok_100, List.forall_mem_cons.mpr ⟨i_ok_101, List.forall_mem_cons.mpr ⟨i_ok_102, List.forall_mem_cons.mpr ⟨i_ok_103, List.forall_mem_cons.mpr ⟨i_ok_104, List.forall_mem_cons.mpr ⟨i_ok_105, List.forall_mem_cons.mpr ⟨i_ok_106, List.forall_mem_cons.mpr ⟨i_ok_107, List.forall_mem_cons.mpr ⟨i_ok_108, List.forall_mem_cons.mpr ⟨i_ok_109, List.forall_mem_cons.mpr ⟨i_ok_110, List.forall_mem_cons.mpr ⟨i_ok_111, List.forall_mem_cons.mpr ⟨i_ok_112, List.forall_mem_cons.mpr ⟨i_ok_113, List.forall_mem_cons.mpr ⟨i_ok_114, List.forall_mem_cons.mpr ⟨i_ok_115, List.forall_mem_cons.mpr ⟨i_ok_116, List.forall_mem_cons.mpr ⟨i_ok_117, List.forall_mem_cons.mpr ⟨i_ok_118, List.forall_mem_cons.mpr ⟨i_ok_119, List.forall_mem_cons.mpr ⟨i_ok_120, List.forall_mem_cons.mpr ⟨i_ok_121, List.forall_mem_cons.mpr ⟨i_ok_122, List.forall_mem_cons.mpr ⟨i_ok_123, List.forall_mem_cons.mpr ⟨i_ok_124, List.forall_mem_cons.mpr ⟨i_ok_125, List.forall_mem_cons.mpr ⟨i_ok_126, List.forall_mem_cons.mpr ⟨i_ok_127, List.forall_mem_cons.mpr ⟨i_ok_128, List.forall_mem_cons.mpr ⟨i_ok_129, List.forall_mem_cons.mpr ⟨i_ok_130, List.forall_mem_cons.mpr ⟨i_ok_131, List.forall_mem_cons.mpr ⟨i_ok_132, List.forall_mem_cons.mpr ⟨i_ok_133, List.forall_mem_cons.mpr ⟨i_ok_134, List.forall_mem_cons.mpr ⟨i_ok_135, List.forall_mem_cons.mpr ⟨i_ok_136, List.forall_mem_cons.mpr ⟨i_ok_137, List.forall_mem_cons.mpr ⟨i_ok_138, List.forall_mem_cons.mpr ⟨i_ok_139, List.forall_mem_cons.mpr ⟨i_ok_140, List.forall_mem_cons.mpr ⟨i_ok_141, List.forall_mem_cons.mpr ⟨i_ok_142, List.forall_mem_cons.mpr ⟨i_ok_143, List.forall_mem_cons.mpr ⟨i_ok_144, List.forall_mem_cons.mpr ⟨i_ok_145, List.forall_mem_cons.mpr ⟨i_ok_146, List.forall_mem_cons.mpr ⟨i_ok_147, List.forall_mem_cons.mpr ⟨i_ok_148, List.forall_mem_cons.mpr ⟨i_ok_149, fun _ h => absurd h List.not_mem_nil⟩⟩⟩⟩⟩⟩⟩⟩⟩⟩⟩⟩⟩⟩⟩⟩⟩⟩⟩⟩⟩⟩⟩⟩⟩⟩⟩⟩⟩⟩⟩⟩⟩⟩⟩⟩⟩⟩⟩⟩⟩⟩⟩⟩⟩⟩⟩⟩⟩⟩
theorem i_okq_3 : ∀ e ∈ i_mt_3, i_okM e = true := List.forall_mem_cons.mpr ⟨i_ok_150, List.forall_mem_cons.mpr ⟨i_ok_151, List.forall_mem_cons.mpr ⟨i_ok_152, List.forall_mem_cons.mpr ⟨i_ok_153, List.forall_mem_cons.mpr ⟨i_ok_154, List.forall_mem_cons.mpr ⟨i_ok_155, List.forall_mem_cons.mpr ⟨i_ok_156, List.forall_mem_cons.mpr ⟨i_ok_157, List.forall_mem_cons.mpr ⟨i_ok_158, List.forall_mem_cons.mpr ⟨i_ok_159, List.forall_mem_cons.mpr ⟨i_ok_160, List.forall_mem_cons.mpr ⟨i_ok_161, List.forall_mem_cons.mpr ⟨i_ok_162, List.forall_mem_cons.mpr ⟨i_ok_163, List.forall_mem_cons.mpr ⟨i_ok_164, List.forall_mem_cons.mpr ⟨i_ok_165, List.forall_mem_cons.mpr ⟨i_ok_166, List.forall_mem_cons.mpr ⟨i_ok_167, List.forall_mem_cons.mpr ⟨i_ok_168, List.forall_mem_cons.mpr ⟨i_ok_169, List.forall_mem_cons.mpr ⟨i_ok_170, List.forall_mem_cons.mpr ⟨i_ok_171, List.forall_mem_cons.mpr ⟨i_ok_172, List.forall_mem_cons.mpr ⟨i_ok_173, List.forall_mem_cons.mpr ⟨i_ok_174, List.forall_mem_cons.mpr ⟨i_ok_175, List.forall_mem_cons.mpr ⟨i_ok_176, List.forall_mem_cons.mpr ⟨i_ok_177, List.forall_mem_cons.mpr ⟨i_ok_178, List.forall_mem_cons.mpr ⟨i_ok_179, List.forall_mem_cons.mpr ⟨i_ok_180, List.forall_mem_cons.mpr ⟨i_ok_181, List.forall_mem_cons.mpr ⟨i_ok_182, List.forall_mem_cons.mpr ⟨i_ok_183, List.forall_mem_cons.mpr ⟨i_ok_184, List.forall_mem_cons.mpr ⟨i_ok_185, List.forall_mem_cons.mpr ⟨i_ok_186, List.forall_mem_cons.mpr ⟨i_ok_187, List.forall_mem_cons.mpr ⟨i_ok_188, List.forall_mem_cons.mpr ⟨i_ok_189, List.forall_mem_cons.mpr ⟨i_ok_190, List.forall_mem_cons.mpr ⟨i_ok_191, List.forall_mem_cons.mpr ⟨i_ok_192, List.forall_mem_cons.mpr ⟨i_ok_193, List.forall_mem_cons.mpr ⟨i_ok_194, List.forall_mem_cons.mpr ⟨i_ok_195, List.forall_mem_cons.mpr ⟨i_ok_196, List.forall_mem_cons.mpr ⟨i_ok_197, List.forall_mem_cons.mpr ⟨i_ok_198, List.forall_mem_cons.mpr ⟨i_ok_199, fun _ h => absurd h List.not_mem_nil⟩⟩⟩⟩⟩⟩⟩⟩⟩⟩⟩⟩⟩⟩⟩⟩⟩⟩⟩⟩⟩⟩⟩⟩⟩⟩⟩⟩⟩⟩⟩⟩⟩⟩⟩⟩⟩⟩⟩⟩⟩⟩⟩⟩⟩⟩⟩⟩⟩⟩
theorem i_okq_4 : ∀ e ∈ i_mt_4, i_okM e = true := List.forall_mem_cons.mpr ⟨i_ok_200, List.forall_mem_cons.mpr ⟨i_ok_201, List.forall_mem_cons.mpr ⟨i_ok_202, List.forall_mem_cons.mpr ⟨i_ok_203, List.forall_mem_cons.mpr ⟨i_ok_204, List.forall_mem_cons.mpr ⟨i_ok_205, List.forall_mem_cons.mpr ⟨i_ok_206, List.forall_mem_cons.mpr ⟨i_ok_207, List.forall_mem_cons.mpr ⟨i_ok_208, List.forall_mem_cons.mpr ⟨i_ok_209, List.forall_mem_cons.mpr ⟨i_ok_210, List.forall_mem_cons.mpr ⟨i_ok_211, List.forall_mem_cons.mpr ⟨i_ok_212, List.forall_mem_cons.mpr ⟨i_ok_213, List.forall_mem_cons.mpr ⟨i_ok_214, List.forall_mem_cons.mpr ⟨i_ok_215, List.forall_mem_cons.mpr ⟨i_ok_216, List.forall_mem_cons.mpr ⟨i_ok_217, List.forall_mem_cons.mpr ⟨i_ok_218, List.forall_mem_cons.mpr ⟨i_ok_219, List.forall_mem_cons.mpr ⟨i_ok_220, List.forall_mem_cons.mpr ⟨i_ok_221, List.forall_mem_cons.mpr ⟨i_ok_222, List.forall_mem_cons.mpr ⟨i_ok_223, List.forall_mem_cons.mpr ⟨i_ok_224, List.forall_mem_cons.mpr ⟨i_ok_225, List.forall_mem_cons.mpr ⟨i_ok_226, List.forall_mem_cons.mpr ⟨i_ok_227, List.forall_mem_cons.mpr ⟨i_ok_228, List.forall_mem_cons.mpr ⟨i_ok_229, List.forall_mem_cons.mpr ⟨i_ok_230, List.forall_mem_cons.mpr ⟨i_ok_231, List.forall_mem_cons.mpr ⟨i_ok_232, List.forall_mem_cons.mpr ⟨i_ok_233, List.forall_mem_cons.mpr ⟨i_ok_234, List.forall_mem_cons.mpr ⟨i_ok_235, List.forall_mem_cons.mpr ⟨i_ok_236, List.forall_mem_cons.mpr ⟨i_ok_237, List.forall_mem_cons.mpr ⟨i_ok_238, List.forall_mem_cons.mpr ⟨i_ok_239, List.forall_mem_cons.mpr ⟨i_ok_240, List.forall_mem_cons.mpr ⟨i_ok_241, List.forall_mem_cons.mpr ⟨i_ok_242, List.forall_mem_cons.mpr ⟨i_ok_243, List.forall_mem_cons.mpr ⟨i_ok_244, List.forall_mem_cons.mpr ⟨i_ok_245, List.forall_mem_cons.mpr ⟨i_ok_246, List.forall_mem_cons.mpr ⟨i_ok_247, List.forall_mem_cons.mpr ⟨i_ok_248, List.forall_mem_cons.mpr ⟨i_ok_249, fun _ h => absurd h List.not_mem_nil⟩⟩⟩⟩⟩⟩⟩⟩⟩⟩⟩⟩⟩⟩⟩⟩⟩⟩⟩⟩⟩⟩⟩⟩⟩⟩⟩⟩⟩⟩⟩⟩⟩⟩⟩⟩⟩⟩⟩⟩⟩⟩⟩⟩⟩⟩⟩⟩⟩⟩
theorem i_okq_5 : ∀ e ∈ i_mt_5, i_okM e = true := List.forall_mem_cons.mpr ⟨i_ok_250, List.forall_mem_cons.mpr ⟨i_ok_251, List.forall_mem_cons.mpr ⟨i_ok_252, List.forall_mem_cons.mpr ⟨i_ok_253, List.forall_mem_cons.mpr ⟨i_ok_254, List.forall_mem_cons.mpr ⟨i_ok_255, List.forall_mem_cons.mpr ⟨i_ok_256, List.forall_mem_cons.mpr ⟨i_ok_257, List.forall_mem_cons.mpr ⟨i_ok_258, List.forall_mem_cons.mpr ⟨i_ok_259, List.forall_mem_cons.mpr ⟨i_ok_260, List.forall_mem_cons.mpr ⟨i_ok_261, List.forall_mem_cons.mpr ⟨i_ok_262, List.forall_mem_cons.mpr ⟨i_ok_263, List.forall_mem_cons.mpr ⟨i_ok_264, List.forall_mem_cons.mpr ⟨i_ok_265, List.forall_mem_cons.mpr ⟨i_ok_266, fun _ h => absurd h List.not_mem_nil⟩⟩⟩⟩⟩⟩⟩⟩⟩⟩⟩⟩⟩⟩⟩⟩⟩
theorem i_ok {j : Nat} {e : I_Row} (h : i_mt j = some e) : i_okM e = true := by
  unfold i_mt at h
  split at h
  · exact i_okq_0 e (List.mem_of_getElem? h)
  · exact i_okq_1 e (List.mem_of_getElem? h)
  · exact i_okq_2 e (List.mem_of_getElem? h)
  · exact i_okq_3 e (List.mem_of_getElem? h)
  · exact i_okq_4 e (List.mem_of_getElem? h)
  · exact i_okq_5 e (List.mem_of_getElem? h)
  · cases h

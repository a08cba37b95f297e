/-! EVERY ROW IS CHECKED -/
theorem ck_150 : (mm_ckm 150 && mm_hd 150) = true := by decide +kernel
theorem ck_151 : (mm_ckm 151 && mm_hd 151) = true := by decide +kernel
theorem ck_152 : (mm_ckm 152 && mm_hd 152) = true := by decide +kernel
theorem ck_153 : (mm_ckm 153 && mm_hd 153) = true := by decide +kernel
theorem ck_154 : (mm_ckm 154 && mm_hd 154) = true := by decide +kernel
theorem ck_155 : (mm_ckm 155 && mm_hd 155) = true := by decide +kernel
theorem ck_156 : (mm_ckm 156 && mm_hd 156) = true := by decide +kernel
theorem ck_157 : (mm_ckm 157 && mm_hd 157) = true := by decide +kernel
theorem ck_158 : (mm_ckm 158 && mm_hd 158) = true := by decide +kernel
theorem ck_159 : (mm_ckm 159 && mm_hd 159) = true := by decide +kernel
theorem ck_160 : (mm_ckm 160 && mm_hd 160) = true := by decide +kernel
theorem ck_161 : (mm_ckm 161 && mm_hd 161) = true := by decide +kernel
theorem ck_162 : (mm_ckm 162 && mm_hd 162) = true := by decide +kernel
theorem ck_163 : (mm_ckm 163 && mm_hd 163) = true := by decide +kernel
theorem ck_164 : (mm_ckm 164 && mm_hd 164) = true := by decide +kernel
theorem ck_165 : (mm_ckm 165 && mm_hd 165) = true := by decide +kernel
theorem ck_166 : (mm_ckm 166 && mm_hd 166) = true := by decide +kernel
theorem ck_167 : (mm_ckm 167 && mm_hd 167) = true := by decide +kernel
theorem ck_168 : (mm_ckm 168 && mm_hd 168) = true := by decide +kernel
theorem ck_169 : (mm_ckm 169 && mm_hd 169) = true := by decide +kernel
theorem ck_170 : (mm_ckm 170 && mm_hd 170) = true := by decide +kernel
theorem ck_171 : (mm_ckm 171 && mm_hd 171) = true := by decide +kernel
theorem ck_172 : (mm_ckm 172 && mm_hd 172) = true := by decide +kernel
theorem ck_173 : (mm_ckm 173 && mm_hd 173) = true := by decide +kernel
theorem ck_174 : (mm_ckm 174 && mm_hd 174) = true := by decide +kernel
theorem ck_175 : (mm_ckm 175 && mm_hd 175) = true := by decide +kernel
theorem ck_176 : (mm_ckm 176 && mm_hd 176) = true := by decide +kernel
theorem ck_177 : (mm_ckm 177 && mm_hd 177) = true := by decide +kernel
theorem ck_178 : (mm_ckm 178 && mm_hd 178) = true := by decide +kernel
theorem ck_179 : (mm_ckm 179 && mm_hd 179) = true := by decide +kernel
theorem ck_180 : (mm_ckm 180 && mm_hd 180) = true := by decide +kernel
theorem ck_181 : (mm_ckm 181 && mm_hd 181) = true := by decide +kernel
theorem ck_182 : (mm_ckm 182 && mm_hd 182) = true := by decide +kernel
theorem ck_183 : (mm_ckm 183 && mm_hd 183) = true := by decide +kernel
theorem ck_184 : (mm_ckm 184 && mm_hd 184) = true := by decide +kernel
theorem ck_185 : (mm_ckm 185 && mm_hd 185) = true := by decide +kernel
theorem ck_186 : (mm_ckm 186 && mm_hd 186) = true := by decide +kernel
theorem ck_187 : (mm_ckm 187 && mm_hd 187) = true := by decide +kernel
theorem ck_188 : (mm_ckm 188 && mm_hd 188) = true := by decide +kernel
theorem ck_189 : (mm_ckm 189 && mm_hd 189) = true := by decide +kernel
theorem ck_190 : (mm_ckm 190 && mm_hd 190) = true := by decide +kernel
theorem ck_191 : (mm_ckm 191 && mm_hd 191) = true := by decide +kernel
theorem ck_192 : (mm_ckm 192 && mm_hd 192) = true := by decide +kernel
theorem ck_193 : (mm_ckm 193 && mm_hd 193) = true := by decide +kernel
theorem ck_194 : (mm_ckm 194 && mm_hd 194) = true := by decide +kernel
theorem ck_195 : (mm_ckm 195 && mm_hd 195) = true := by decide +kernel
theorem ck_196 : (mm_ckm 196 && mm_hd 196) = true := by decide +kernel
theorem ck_197 : (mm_ckm 197 && mm_hd 197) = true := by decide +kernel
theorem ck_198 : (mm_ckm 198 && mm_hd 198) = true := by decide +kernel
theorem ck_199 : (mm_ckm 199 && mm_hd 199) = true := by decide +kernel
theorem ck_200 : (mm_ckm 200 && mm_hd 200) = true := by decide +kernel
theorem ck_201 : (mm_ckm 201 && mm_hd 201) = true := by decide +kernel
theorem ck_202 : (mm_ckm 202 && mm_hd 202) = true := by decide +kernel
theorem ck_203 : (mm_ckm 203 && mm_hd 203) = true := by decide +kernel
theorem ck_204 : (mm_ckm 204 && mm_hd 204) = true := by decide +kernel
theorem ck_205 : (mm_ckm 205 && mm_hd 205) = true := by decide +kernel
theorem ck_206 : (mm_ckm 206 && mm_hd 206) = true := by decide +kernel
theorem ck_207 : (mm_ckm 207 && mm_hd 207) = true := by decide +kernel
theorem ck_208 : (mm_ckm 208 && mm_hd 208) = true := by decide +kernel
theorem ck_209 : (mm_ckm 209 && mm_hd 209) = true := by decide +kernel
theorem ck_210 : (mm_ckm 210 && mm_hd 210) = true := by decide +kernel
theorem ck_211 : (mm_ckm 211 && mm_hd 211) = true := by decide +kernel
theorem ck_212 : (mm_ckm 212 && mm_hd 212) = true := by decide +kernel
theorem ck_213 : (mm_ckm 213 && mm_hd 213) = true := by decide +kernel
theorem ck_214 : (mm_ckm 214 && mm_hd 214) = true := by decide +kernel
theorem ck_215 : (mm_ckm 215 && mm_hd 215) = true := by decide +kernel
theorem ck_216 : (mm_ckm 216 && mm_hd 216) = true := by decide +kernel
theorem ck_217 : (mm_ckm 217 && mm_hd 217) = true := by decide +kernel
theorem ck_218 : (mm_ckm 218 && mm_hd 218) = true := by decide +kernel
theorem ck_219 : (mm_ckm 219 && mm_hd 219) = true := by decide +kernel
theorem ck_220 : (mm_ckm 220 && mm_hd 220) = true := by decide +kernel
theorem ck_221 : (mm_ckm 221 && mm_hd 221) = true := by decide +kernel
theorem ck_222 : (mm_ckm 222 && mm_hd 222) = true := by decide +kernel
theorem ck_223 : (mm_ckm 223 && mm_hd 223) = true := by decide +kernel
theorem ck_224 : (mm_ckm 224 && mm_hd 224) = true := by decide +kernel
theorem mm_cks : ∀ j, j < 225 → (mm_ckm j && mm_hd j) = true := by
  intro j hj
  match j, hj with
  | 0, _ => exact ck_0
  | 1, _ => exact ck_1
  | 2, _ => exact ck_2
  | 3, _ => exact ck_3
  | 4, _ => exact ck_4
  | 5, _ => exact ck_5
  | 6, _ => exact ck_6
  | 7, _ => exact ck_7
  | 8, _ => exact ck_8
  | 9, _ => exact ck_9
  | 10, _ => exact ck_10
  | 11, _ => exact ck_11
  | 12, _ => exact ck_12
  | 13, _ => exact ck_13
  | 14, _ => exact ck_14
  | 15, _ => exact ck_15
  | 16, _ => exact ck_16
  | 17, _ => exact ck_17
  | 18, _ => exact ck_18
  | 19, _ => exact ck_19
  | 20, _ => exact ck_20
  | 21, _ => exact ck_21
  | 22, _ => exact ck_22
  | 23, _ => exact ck_23
  | 24, _ => exact ck_24
  | 25, _ => exact ck_25
  | 26, _ => exact ck_26
  | 27, _ => exact ck_27
  | 28, _ => exact ck_28
  | 29, _ => exact ck_29
  | 30, _ => exact ck_30
  | 31, _ => exact ck_31
  | 32, _ => exact ck_32
  | 33, _ => exact ck_33
  | 34, _ => exact ck_34
  | 35, _ => exact ck_35
  | 36, _ => exact ck_36
  | 37, _ => exact ck_37
  | 38, _ => exact ck_38
  | 39, _ => exact ck_39
  | 40, _ => exact ck_40
  | 41, _ => exact ck_41
  | 42, _ => exact ck_42
  | 43, _ => exact ck_43
  | 44, _ => exact ck_44
  | 45, _ => exact ck_45
  | 46, _ => exact ck_46
  | 47, _ => exact ck_47
  | 48, _ => exact ck_48
  | 49, _ => exact ck_49
  | 50, _ => exact ck_50
  | 51, _ => exact ck_51
  | 52, _ => exact ck_52
  | 53, _ => exact ck_53
  | 54, _ => exact ck_54
  | 55, _ => exact ck_55
  | 56, _ => exact ck_56
  | 57, _ => exact ck_57
  | 58, _ => exact ck_58
  | 59, _ => exact ck_59
  | 60, _ => exact ck_60
  | 61, _ => exact ck_61
  | 62, _ => exact ck_62
  | 63, _ => exact ck_63
  | 64, _ => exact ck_64
  | 65, _ => exact ck_65
  | 66, _ => exact ck_66
  | 67, _ => exact ck_67
  | 68, _ => exact ck_68
  | 69, _ => exact ck_69
  | 70, _ => exact ck_70
  | 71, _ => exact ck_71
  | 72, _ => exact ck_72
  | 73, _ => exact ck_73
  | 74, _ => exact ck_74
  | 75, _ => exact ck_75
  | 76, _ => exact ck_76
  | 77, _ => exact ck_77
  | 78, _ => exact ck_78
  | 79, _ => exact ck_79
  | 80, _ => exact ck_80
  | 81, _ => exact ck_81
  | 82, _ => exact ck_82
  | 83, _ => exact ck_83
  | 84, _ => exact ck_84
  | 85, _ => exact ck_85
  | 86, _ => exact ck_86
  | 87, _ => exact ck_87
  | 88, _ => exact ck_88
  | 89, _ => exact ck_89
  | 90, _ => exact ck_90
  | 91, _ => exact ck_91
  | 92, _ => exact ck_92
  | 93, _ => exact ck_93
  | 94, _ => exact ck_94
  | 95, _ => exact ck_95
  | 96, _ => exact ck_96
  | 97, _ => exact ck_97
  | 98, _ => exact ck_98
  | 99, _ => exact ck_99
  | 100, _ => exact ck_100
  | 101, _ => exact ck_101
  | 102, _ => exact ck_102
  | 103, _ => exact ck_103
  | 104, _ => exact ck_104
  | 105, _ => exact ck_105
  | 106, _ => exact ck_106
  | 107, _ => exact ck_107
  | 108, _ => exact ck_108
  | 109, _ => exact ck_109
  | 110, _ => exact ck_110
  | 111, _ => exact ck_111
  | 112, _ => exact ck_112
  | 113, _ => exact ck_113
  | 114, _ => exact ck_114
  | 115, _ => exact ck_115
  | 116, _ => exact ck_116
  | 117, _ => exact ck_117
  | 118, _ => exact ck_118
  | 119, _ => exact ck_119
  | 120, _ => exact ck_120
  | 121, _ => exact ck_121
  | 122, _ => exact ck_122
  | 123, _ => exact ck_123
  | 124, _ => exact ck_124
  | 125, _ => exact ck_125
  | 126, _ => exact ck_126
  | 127, _ => exact ck_127
  | 128, _ => exact ck_128
  | 129, _ => exact ck_129
  | 130, _ => exact ck_130
  | 131, _ => exact ck_131
  | 132, _ => exact ck_132
  | 133, _ => exact ck_133
  | 134, _ => exact ck_134
  | 135, _ => exact ck_135
  | 136, _ => exact ck_136
  | 137, _ => exact ck_137
  | 138, _ => exact ck_138
  | 139, _ => exact ck_139
  | 140, _ => exact ck_140
  | 141, _ => exact ck_141
  | 142, _ => exact ck_142
  | 143, _ => exact ck_143
  | 144, _ => exact ck_144
  | 145, _ => exact ck_145
  | 146, _ => exact ck_146
  | 147, _ => exact ck_147
  | 148, _ => exact ck_148
  | 149, _ => exact ck_149
  | 150, _ => exact ck_150
  | 151, _ => exact ck_151
  | 152, _ => exact ck_152
  | 153, _ => exact ck_153
  | 154, _ => exact ck_154
  | 155, _ => exact ck_155
  | 156, _ => exact ck_156
  | 157, _ => exact ck_157
  | 158, _ => exact ck_158
  | 159, _ => exact ck_159
  | 160, _ => exact ck_160
  | 161, _ => exact ck_161
  | 162, _ => exact ck_162
  | 163, _ => exact ck_163
  | 164, _ => exact ck_164
  | 165, _ => exact ck_165
  | 166, _ => exact ck_166
  | 167, _ => exact ck_167
  | 168, _ => exact ck_168
  | 169, _ => exact ck_169
  | 170, _ => exact ck_170
  | 171, _ => exact ck_171
  | 172, _ => exact ck_172
  | 173, _ => exact ck_173
  | 174, _ => exact ck_174
  | 175, _ => exact ck_175
  | 176, _ => exact ck_176
  | 177, _ => exact ck_177
  | 178, _ => exact ck_178
  | 179, _ => exact ck_179
  | 180, _ => exact ck_180
  | 181, _ => exact ck_181
  | 182, _ => exact ck_182
  | 183, _ => exact ck_183
  | 184, _ => exact ck_184
  | 185, _ => exact ck_185
  | 186, _ => exact ck_186
  | 187, _ => exact ck_187
  | 188, _ => exact ck_188
  | 189, _ => exact ck_189
  | 190, _ => exact ck_190
  | 191, _ => exact ck_191
  | 192, _ => exact ck_192
  | 193, _ => exact ck_193
  | 194, _ => exact ck_194
  | 195, _ => exact ck_195
  | 196, _ => exact ck_196
  | 197, _ => exact ck_197
  | 198, _ => exact ck_198
  | 199, _ => exact ck_199
  | 200, _ => exact ck_200
  | 201, _ => exact ck_201
  | 202, _ => exact ck_202
  | 203, _ => exact ck_203
  | 204, _ => exact ck_204
  | 205, _ => exact ck_205
  | 206, _ => exact ck_206
  | 207, _ => exact ck_207
  | 208, _ => exact ck_208
  | 209, _ => exact ck_209
  | 210, _ => exact ck_210
  | 211, _ => exact ck_211
  | 212, _ => exact ck_212
  | 213, _ => exact ck_213
  | 214, _ => exact ck_214
  | 215, _ => exact ck_215
  | 216, _ => exact ck_216
  | 217, _ => exact ck_217
  | 218, _ => exact ck_218
  | 219, _ => exact ck_219
  | 220, _ => exact ck_220
  | 221, _ => exact ck_221
  | 222, _ => exact ck_222
  | 223, _ => exact ck_223
  | 224, _ => exact ck_224
  | n + 225, h => exact absurd h (by omega)

-- BEGIN PRINTED (wip/gen/codechk.py)
theorem zinf_len : zinfL.length = 234 := by decide +kernel
theorem zmi_0 : zmiB 0 = true := by decide +kernel
theorem zmi_1 : zmiB 1 = true := by decide +kernel
theorem zmi_2 : zmiB 2 = true := by decide +kernel
theorem zmi_3 : zmiB 3 = true := by decide +kernel
theorem zmi_4 : zmiB 4 = true := by decide +kernel
theorem zmi_5 : zmiB 5 = true := by decide +kernel
theorem zmi_6 : zmiB 6 = true := by decide +kernel
theorem zmi_7 : zmiB 7 = true := by decide +kernel
theorem zmi_8 : zmiB 8 = true := by decide +kernel
theorem zmi_9 : zmiB 9 = true := by decide +kernel
theorem zmi_10 : zmiB 10 = true := by decide +kernel
theorem zmi_11 : zmiB 11 = true := by decide +kernel
theorem zmi_12 : zmiB 12 = true := by decide +kernel
theorem zmi_13 : zmiB 13 = true := by decide +kernel
theorem zmi_14 : zmiB 14 = true := by decide +kernel
theorem zmi_15 : zmiB 15 = true := by decide +kernel
theorem zmi_16 : zmiB 16 = true := by decide +kernel
theorem zmi_17 : zmiB 17 = true := by decide +kernel
theorem zmi_18 : zmiB 18 = true := by decide +kernel
theorem zmi_19 : zmiB 19 = true := by decide +kernel
theorem zmi_20 : zmiB 20 = true := by decide +kernel
theorem zmi_21 : zmiB 21 = true := by decide +kernel
theorem zmi_22 : zmiB 22 = true := by decide +kernel
theorem zmi_23 : zmiB 23 = true := by decide +kernel
theorem zmi_24 : zmiB 24 = true := by decide +kernel
theorem zmi_25 : zmiB 25 = true := by decide +kernel
theorem zmi_26 : zmiB 26 = true := by decide +kernel
theorem zmi_27 : zmiB 27 = true := by decide +kernel
theorem zmi_28 : zmiB 28 = true := by decide +kernel
theorem zmi_29 : zmiB 29 = true := by decide +kernel
theorem zmi_30 : zmiB 30 = true := by decide +kernel
theorem zmi_31 : zmiB 31 = true := by decide +kernel
theorem zmi_32 : zmiB 32 = true := by decide +kernel
theorem zmi_33 : zmiB 33 = true := by decide +kernel
theorem zmi_34 : zmiB 34 = true := by decide +kernel
theorem zmi_35 : zmiB 35 = true := by decide +kernel
theorem zmi_36 : zmiB 36 = true := by decide +kernel
theorem zmi_37 : zmiB 37 = true := by decide +kernel
theorem zmi_38 : zmiB 38 = true := by decide +kernel
theorem zmi_39 : zmiB 39 = true := by decide +kernel
theorem zmi_40 : zmiB 40 = true := by decide +kernel
theorem zmi_41 : zmiB 41 = true := by decide +kernel
theorem zmi_42 : zmiB 42 = true := by decide +kernel
theorem zmi_43 : zmiB 43 = true := by decide +kernel
theorem zmi_44 : zmiB 44 = true := by decide +kernel
theorem zmi_45 : zmiB 45 = true := by decide +kernel
theorem zmi_46 : zmiB 46 = true := by decide +kernel
theorem zmi_47 : zmiB 47 = true := by decide +kernel
theorem zmi_48 : zmiB 48 = true := by decide +kernel
theorem zmi_49 : zmiB 49 = true := by decide +kernel
theorem zmi_50 : zmiB 50 = true := by decide +kernel
theorem zmi_51 : zmiB 51 = true := by decide +kernel
theorem zmi_52 : zmiB 52 = true := by decide +kernel
theorem zmi_53 : zmiB 53 = true := by decide +kernel
theorem zmi_54 : zmiB 54 = true := by decide +kernel
theorem zmi_55 : zmiB 55 = true := by decide +kernel
theorem zmi_56 : zmiB 56 = true := by decide +kernel
theorem zmi_57 : zmiB 57 = true := by decide +kernel
theorem zmi_58 : zmiB 58 = true := by decide +kernel
theorem zmi_59 : zmiB 59 = true := by decide +kernel
theorem zmi_60 : zmiB 60 = true := by decide +kernel
theorem zmi_61 : zmiB 61 = true := by decide +kernel
theorem zmi_62 : zmiB 62 = true := by decide +kernel
theorem zmi_63 : zmiB 63 = true := by decide +kernel
theorem zmi_64 : zmiB 64 = true := by decide +kernel
theorem zmi_65 : zmiB 65 = true := by decide +kernel
theorem zmi_66 : zmiB 66 = true := by decide +kernel
theorem zmi_67 : zmiB 67 = true := by decide +kernel
theorem zmi_68 : zmiB 68 = true := by decide +kernel
theorem zmi_69 : zmiB 69 = true := by decide +kernel
theorem zmi_70 : zmiB 70 = true := by decide +kernel
theorem zmi_71 : zmiB 71 = true := by decide +kernel
theorem zmi_72 : zmiB 72 = true := by decide +kernel
theorem zmi_73 : zmiB 73 = true := by decide +kernel
theorem zmi_74 : zmiB 74 = true := by decide +kernel
theorem zmi_75 : zmiB 75 = true := by decide +kernel
theorem zmi_76 : zmiB 76 = true := by decide +kernel
theorem zmi_77 : zmiB 77 = true := by decide +kernel
theorem zmi_78 : zmiB 78 = true := by decide +kernel
theorem zmi_79 : zmiB 79 = true := by decide +kernel
theorem zmi_80 : zmiB 80 = true := by decide +kernel
theorem zmi_81 : zmiB 81 = true := by decide +kernel
theorem zmi_82 : zmiB 82 = true := by decide +kernel
theorem zmi_83 : zmiB 83 = true := by decide +kernel
theorem zmi_84 : zmiB 84 = true := by decide +kernel
theorem zmi_85 : zmiB 85 = true := by decide +kernel
theorem zmi_86 : zmiB 86 = true := by decide +kernel
theorem zmi_87 : zmiB 87 = true := by decide +kernel
theorem zmi_88 : zmiB 88 = true := by decide +kernel
theorem zmi_89 : zmiB 89 = true := by decide +kernel
theorem zmi_90 : zmiB 90 = true := by decide +kernel
theorem zmi_91 : zmiB 91 = true := by decide +kernel
theorem zmi_92 : zmiB 92 = true := by decide +kernel
theorem zmi_93 : zmiB 93 = true := by decide +kernel
theorem zmi_94 : zmiB 94 = true := by decide +kernel
theorem zmi_95 : zmiB 95 = true := by decide +kernel
theorem zmi_96 : zmiB 96 = true := by decide +kernel
theorem zmi_97 : zmiB 97 = true := by decide +kernel
theorem zmi_98 : zmiB 98 = true := by decide +kernel
theorem zmi_99 : zmiB 99 = true := by decide +kernel
theorem zmi_100 : zmiB 100 = true := by decide +kernel
theorem zmi_101 : zmiB 101 = true := by decide +kernel
theorem zmi_102 : zmiB 102 = true := by decide +kernel
theorem zmi_103 : zmiB 103 = true := by decide +kernel
theorem zmi_104 : zmiB 104 = true := by decide +kernel
theorem zmi_105 : zmiB 105 = true := by decide +kernel
theorem zmi_106 : zmiB 106 = true := by decide +kernel
theorem zmi_107 : zmiB 107 = true := by decide +kernel
theorem zmi_108 : zmiB 108 = true := by decide +kernel
theorem zmi_109 : zmiB 109 = true := by decide +kernel
theorem zmi_110 : zmiB 110 = true := by decide +kernel
theorem zmi_111 : zmiB 111 = true := by decide +kernel
theorem zmi_112 : zmiB 112 = true := by decide +kernel
theorem zmi_113 : zmiB 113 = true := by decide +kernel
theorem zmi_114 : zmiB 114 = true := by decide +kernel
theorem zmi_115 : zmiB 115 = true := by decide +kernel
theorem zmi_116 : zmiB 116 = true := by decide +kernel
theorem zmi_117 : zmiB 117 = true := by decide +kernel
theorem zmi_118 : zmiB 118 = true := by decide +kernel
theorem zmi_119 : zmiB 119 = true := by decide +kernel
theorem zmi_120 : zmiB 120 = true := by decide +kernel
theorem zmi_121 : zmiB 121 = true := by decide +kernel
theorem zmi_122 : zmiB 122 = true := by decide +kernel
theorem zmi_123 : zmiB 123 = true := by decide +kernel
theorem zmi_124 : zmiB 124 = true := by decide +kernel
theorem zmi_125 : zmiB 125 = true := by decide +kernel
theorem zmi_126 : zmiB 126 = true := by decide +kernel
theorem zmi_127 : zmiB 127 = true := by decide +kernel
theorem zmi_128 : zmiB 128 = true := by decide +kernel
theorem zmi_129 : zmiB 129 = true := by decide +kernel
theorem zmi_130 : zmiB 130 = true := by decide +kernel
theorem zmi_131 : zmiB 131 = true := by decide +kernel
theorem zmi_132 : zmiB 132 = true := by decide +kernel
theorem zmi_133 : zmiB 133 = true := by decide +kernel
theorem zmi_134 : zmiB 134 = true := by decide +kernel
theorem zmi_135 : zmiB 135 = true := by decide +kernel
theorem zmi_136 : zmiB 136 = true := by decide +kernel
theorem zmi_137 : zmiB 137 = true := by decide +kernel
theorem zmi_138 : zmiB 138 = true := by decide +kernel
theorem zmi_139 : zmiB 139 = true := by decide +kernel
theorem zmi_140 : zmiB 140 = true := by decide +kernel
theorem zmi_141 : zmiB 141 = true := by decide +kernel
theorem zmi_142 : zmiB 142 = true := by decide +kernel
theorem zmi_143 : zmiB 143 = true := by decide +kernel
theorem zmi_144 : zmiB 144 = true := by decide +kernel
theorem zmi_145 : zmiB 145 = true := by decide +kernel
theorem zmi_146 : zmiB 146 = true := by decide +kernel
theorem zmi_147 : zmiB 147 = true := by decide +kernel
theorem zmi_148 : zmiB 148 = true := by decide +kernel
theorem zmi_149 : zmiB 149 = true := by decide +kernel
theorem zmi_150 : zmiB 150 = true := by decide +kernel
theorem zmi_151 : zmiB 151 = true := by decide +kernel
theorem zmi_152 : zmiB 152 = true := by decide +kernel
theorem zmi_153 : zmiB 153 = true := by decide +kernel
theorem zmi_154 : zmiB 154 = true := by decide +kernel
theorem zmi_155 : zmiB 155 = true := by decide +kernel
theorem zmi_156 : zmiB 156 = true := by decide +kernel
theorem zmi_157 : zmiB 157 = true := by decide +kernel
theorem zmi_158 : zmiB 158 = true := by decide +kernel
theorem zmi_159 : zmiB 159 = true := by decide +kernel
theorem zmi_160 : zmiB 160 = true := by decide +kernel
theorem zmi_161 : zmiB 161 = true := by decide +kernel
theorem zmi_162 : zmiB 162 = true := by decide +kernel
theorem zmi_163 : zmiB 163 = true := by decide +kernel
theorem zmi_164 : zmiB 164 = true := by decide +kernel
theorem zmi_165 : zmiB 165 = true := by decide +kernel
theorem zmi_166 : zmiB 166 = true := by decide +kernel
theorem zmi_167 : zmiB 167 = true := by decide +kernel
theorem zmi_168 : zmiB 168 = true := by decide +kernel
theorem zmi_169 : zmiB 169 = true := by decide +kernel
theorem zmi_170 : zmiB 170 = true := by decide +kernel
theorem zmi_171 : zmiB 171 = true := by decide +kernel
theorem zmi_172 : zmiB 172 = true := by decide +kernel
theorem zmi_173 : zmiB 173 = true := by decide +kernel
theorem zmi_174 : zmiB 174 = true := by decide +kernel
theorem zmi_175 : zmiB 175 = true := by decide +kernel
theorem zmi_176 : zmiB 176 = true := by decide +kernel
theorem zmi_177 : zmiB 177 = true := by decide +kernel
theorem zmi_178 : zmiB 178 = true := by decide +kernel
theorem zmi_179 : zmiB 179 = true := by decide +kernel
theorem zmi_180 : zmiB 180 = true := by decide +kernel
theorem zmi_181 : zmiB 181 = true := by decide +kernel
theorem zmi_182 : zmiB 182 = true := by decide +kernel
theorem zmi_183 : zmiB 183 = true := by decide +kernel
theorem zmi_184 : zmiB 184 = true := by decide +kernel
theorem zmi_185 : zmiB 185 = true := by decide +kernel
theorem zmi_186 : zmiB 186 = true := by decide +kernel
theorem zmi_187 : zmiB 187 = true := by decide +kernel
theorem zmi_188 : zmiB 188 = true := by decide +kernel
theorem zmi_189 : zmiB 189 = true := by decide +kernel
theorem zmi_190 : zmiB 190 = true := by decide +kernel
theorem zmi_191 : zmiB 191 = true := by decide +kernel
theorem zmi_192 : zmiB 192 = true := by decide +kernel
theorem zmi_193 : zmiB 193 = true := by decide +kernel
theorem zmi_194 : zmiB 194 = true := by decide +kernel
theorem zmi_195 : zmiB 195 = true := by decide +kernel
theorem zmi_196 : zmiB 196 = true := by decide +kernel
theorem zmi_197 : zmiB 197 = true := by decide +kernel
theorem zmi_198 : zmiB 198 = true := by decide +kernel
theorem zmi_199 : zmiB 199 = true := by decide +kernel
theorem zmi_200 : zmiB 200 = true := by decide +kernel
theorem zmi_201 : zmiB 201 = true := by decide +kernel
theorem zmi_202 : zmiB 202 = true := by decide +kernel
theorem zmi_203 : zmiB 203 = true := by decide +kernel
theorem zmi_204 : zmiB 204 = true := by decide +kernel
theorem zmi_205 : zmiB 205 = true := by decide +kernel
theorem zmi_206 : zmiB 206 = true := by decide +kernel
theorem zmi_207 : zmiB 207 = true := by decide +kernel
theorem zmi_208 : zmiB 208 = true := by decide +kernel
theorem zmi_209 : zmiB 209 = true := by decide +kernel
theorem zmi_210 : zmiB 210 = true := by decide +kernel
theorem zmi_211 : zmiB 211 = true := by decide +kernel
theorem zmi_212 : zmiB 212 = true := by decide +kernel
theorem zmi_213 : zmiB 213 = true := by decide +kernel
theorem zmi_214 : zmiB 214 = true := by decide +kernel
theorem zmi_215 : zmiB 215 = true := by decide +kernel
theorem zmi_216 : zmiB 216 = true := by decide +kernel
theorem zmi_217 : zmiB 217 = true := by decide +kernel
theorem zmi_218 : zmiB 218 = true := by decide +kernel
theorem zmi_219 : zmiB 219 = true := by decide +kernel
theorem zmi_220 : zmiB 220 = true := by decide +kernel
theorem zmi_221 : zmiB 221 = true := by decide +kernel
theorem zmi_222 : zmiB 222 = true := by decide +kernel
theorem zmi_223 : zmiB 223 = true := by decide +kernel
theorem zmi_224 : zmiB 224 = true := by decide +kernel
theorem zmi_225 : zmiB 225 = true := by decide +kernel
theorem zmi_226 : zmiB 226 = true := by decide +kernel
theorem zmi_227 : zmiB 227 = true := by decide +kernel
theorem zmi_228 : zmiB 228 = true := by decide +kernel
theorem zmi_229 : zmiB 229 = true := by decide +kernel
theorem zmi_230 : zmiB 230 = true := by decide +kernel
theorem zmi_231 : zmiB 231 = true := by decide +kernel
theorem zmi_232 : zmiB 232 = true := by decide +kernel
theorem zmi_233 : zmiB 233 = true := by decide +kernel
theorem zmiC_0 : ∀ i, i < 16 → zmiB (i + 0) = true := fun i h => match i, h with
  | 0, _ => zmi_0
  | 1, _ => zmi_1
  | 2, _ => zmi_2
  | 3, _ => zmi_3
  | 4, _ => zmi_4
  | 5, _ => zmi_5
  | 6, _ => zmi_6
  | 7, _ => zmi_7
  | 8, _ => zmi_8
  | 9, _ => zmi_9
  | 10, _ => zmi_10
  | 11, _ => zmi_11
  | 12, _ => zmi_12
  | 13, _ => zmi_13
  | 14, _ => zmi_14
  | 15, _ => zmi_15
  | n + 16, h => absurd h (by omega)
theorem zmiC_1 : ∀ i, i < 16 → zmiB (i + 16) = true := fun i h => match i, h with
  | 0, _ => zmi_16
  | 1, _ => zmi_17
  | 2, _ => zmi_18
  | 3, _ => zmi_19
  | 4, _ => zmi_20
  | 5, _ => zmi_21
  | 6, _ => zmi_22
  | 7, _ => zmi_23
  | 8, _ => zmi_24
  | 9, _ => zmi_25
  | 10, _ => zmi_26
  | 11, _ => zmi_27
  | 12, _ => zmi_28
  | 13, _ => zmi_29
  | 14, _ => zmi_30
  | 15, _ => zmi_31
  | n + 16, h => absurd h (by omega)
theorem zmiC_2 : ∀ i, i < 16 → zmiB (i + 32) = true := fun i h => match i, h with
  | 0, _ => zmi_32
  | 1, _ => zmi_33
  | 2, _ => zmi_34
  | 3, _ => zmi_35
  | 4, _ => zmi_36
  | 5, _ => zmi_37
  | 6, _ => zmi_38
  | 7, _ => zmi_39
  | 8, _ => zmi_40
  | 9, _ => zmi_41
  | 10, _ => zmi_42
  | 11, _ => zmi_43
  | 12, _ => zmi_44
  | 13, _ => zmi_45
  | 14, _ => zmi_46
  | 15, _ => zmi_47
  | n + 16, h => absurd h (by omega)
theorem zmiC_3 : ∀ i, i < 16 → zmiB (i + 48) = true := fun i h => match i, h with
  | 0, _ => zmi_48
  | 1, _ => zmi_49
  | 2, _ => zmi_50
  | 3, _ => zmi_51
  | 4, _ => zmi_52
  | 5, _ => zmi_53
  | 6, _ => zmi_54
  | 7, _ => zmi_55
  | 8, _ => zmi_56
  | 9, _ => zmi_57
  | 10, _ => zmi_58
  | 11, _ => zmi_59
  | 12, _ => zmi_60
  | 13, _ => zmi_61
  | 14, _ => zmi_62
  | 15, _ => zmi_63
  | n + 16, h => absurd h (by omega)
theorem zmiC_4 : ∀ i, i < 16 → zmiB (i + 64) = true := fun i h => match i, h with
  | 0, _ => zmi_64
  | 1, _ => zmi_65
  | 2, _ => zmi_66
  | 3, _ => zmi_67
  | 4, _ => zmi_68
  | 5, _ => zmi_69
  | 6, _ => zmi_70
  | 7, _ => zmi_71
  | 8, _ => zmi_72
  | 9, _ => zmi_73
  | 10, _ => zmi_74
  | 11, _ => zmi_75
  | 12, _ => zmi_76
  | 13, _ => zmi_77
  | 14, _ => zmi_78
  | 15, _ => zmi_79
  | n + 16, h => absurd h (by omega)
theorem zmiC_5 : ∀ i, i < 16 → zmiB (i + 80) = true := fun i h => match i, h with
  | 0, _ => zmi_80
  | 1, _ => zmi_81
  | 2, _ => zmi_82
  | 3, _ => zmi_83
  | 4, _ => zmi_84
  | 5, _ => zmi_85
  | 6, _ => zmi_86
  | 7, _ => zmi_87
  | 8, _ => zmi_88
  | 9, _ => zmi_89
  | 10, _ => zmi_90
  | 11, _ => zmi_91
  | 12, _ => zmi_92
  | 13, _ => zmi_93
  | 14, _ => zmi_94
  | 15, _ => zmi_95
  | n + 16, h => absurd h (by omega)
theorem zmiC_6 : ∀ i, i < 16 → zmiB (i + 96) = true := fun i h => match i, h with
  | 0, _ => zmi_96
  | 1, _ => zmi_97
  | 2, _ => zmi_98
  | 3, _ => zmi_99
  | 4, _ => zmi_100
  | 5, _ => zmi_101
  | 6, _ => zmi_102
  | 7, _ => zmi_103
  | 8, _ => zmi_104
  | 9, _ => zmi_105
  | 10, _ => zmi_106
  | 11, _ => zmi_107
  | 12, _ => zmi_108
  | 13, _ => zmi_109
  | 14, _ => zmi_110
  | 15, _ => zmi_111
  | n + 16, h => absurd h (by omega)
theorem zmiC_7 : ∀ i, i < 16 → zmiB (i + 112) = true := fun i h => match i, h with
  | 0, _ => zmi_112
  | 1, _ => zmi_113
  | 2, _ => zmi_114
  | 3, _ => zmi_115
  | 4, _ => zmi_116
  | 5, _ => zmi_117
  | 6, _ => zmi_118
  | 7, _ => zmi_119
  | 8, _ => zmi_120
  | 9, _ => zmi_121
  | 10, _ => zmi_122
  | 11, _ => zmi_123
  | 12, _ => zmi_124
  | 13, _ => zmi_125
  | 14, _ => zmi_126
  | 15, _ => zmi_127
  | n + 16, h => absurd h (by omega)
theorem zmiC_8 : ∀ i, i < 16 → zmiB (i + 128) = true := fun i h => match i, h with
  | 0, _ => zmi_128
  | 1, _ => zmi_129
  | 2, _ => zmi_130
  | 3, _ => zmi_131
  | 4, _ => zmi_132
  | 5, _ => zmi_133
  | 6, _ => zmi_134
  | 7, _ => zmi_135
  | 8, _ => zmi_136
  | 9, _ => zmi_137
  | 10, _ => zmi_138
  | 11, _ => zmi_139
  | 12, _ => zmi_140
  | 13, _ => zmi_141
  | 14, _ => zmi_142
  | 15, _ => zmi_143
  | n + 16, h => absurd h (by omega)
theorem zmiC_9 : ∀ i, i < 16 → zmiB (i + 144) = true := fun i h => match i, h with
  | 0, _ => zmi_144
  | 1, _ => zmi_145
  | 2, _ => zmi_146
  | 3, _ => zmi_147
  | 4, _ => zmi_148
  | 5, _ => zmi_149
  | 6, _ => zmi_150
  | 7, _ => zmi_151
  | 8, _ => zmi_152
  | 9, _ => zmi_153
  | 10, _ => zmi_154
  | 11, _ => zmi_155
  | 12, _ => zmi_156
  | 13, _ => zmi_157
  | 14, _ => zmi_158
  | 15, _ => zmi_159
  | n + 16, h => absurd h (by omega)
theorem zmiC_10 : ∀ i, i < 16 → zmiB (i + 160) = true := fun i h => match i, h with
  | 0, _ => zmi_160
  | 1, _ => zmi_161
  | 2, _ => zmi_162
  | 3, _ => zmi_163
  | 4, _ => zmi_164
  | 5, _ => zmi_165
  | 6, _ => zmi_166
  | 7, _ => zmi_167
  | 8, _ => zmi_168
  | 9, _ => zmi_169
  | 10, _ => zmi_170
  | 11, _ => zmi_171
  | 12, _ => zmi_172
  | 13, _ => zmi_173
  | 14, _ => zmi_174
  | 15, _ => zmi_175
  | n + 16, h => absurd h (by omega)
theorem zmiC_11 : ∀ i, i < 16 → zmiB (i + 176) = true := fun i h => match i, h with
  | 0, _ => zmi_176
  | 1, _ => zmi_177
  | 2, _ => zmi_178
  | 3, _ => zmi_179
  | 4, _ => zmi_180
  | 5, _ => zmi_181
  | 6, _ => zmi_182
  | 7, _ => zmi_183
  | 8, _ => zmi_184
  | 9, _ => zmi_185
  | 10, _ => zmi_186
  | 11, _ => zmi_187
  | 12, _ => zmi_188
  | 13, _ => zmi_189
  | 14, _ => zmi_190
  | 15, _ => zmi_191
  | n + 16, h => absurd h (by omega)
theorem zmiC_12 : ∀ i, i < 16 → zmiB (i + 192) = true := fun i h => match i, h with
  | 0, _ => zmi_192
  | 1, _ => zmi_193
  | 2, _ => zmi_194
  | 3, _ => zmi_195
  | 4, _ => zmi_196
  | 5, _ => zmi_197
  | 6, _ => zmi_198
  | 7, _ => zmi_199
  | 8, _ => zmi_200
  | 9, _ => zmi_201
  | 10, _ => zmi_202
  | 11, _ => zmi_203
  | 12, _ => zmi_204
  | 13, _ => zmi_205
  | 14, _ => zmi_206
  | 15, _ => zmi_207
  | n + 16, h => absurd h (by omega)
theorem zmiC_13 : ∀ i, i < 16 → zmiB (i + 208) = true := fun i h => match i, h with
  | 0, _ => zmi_208
  | 1, _ => zmi_209
  | 2, _ => zmi_210
  | 3, _ => zmi_211
  | 4, _ => zmi_212
  | 5, _ => zmi_213
  | 6, _ => zmi_214
  | 7, _ => zmi_215
  | 8, _ => zmi_216
  | 9, _ => zmi_217
  | 10, _ => zmi_218
  | 11, _ => zmi_219
  | 12, _ => zmi_220
  | 13, _ => zmi_221
  | 14, _ => zmi_222
  | 15, _ => zmi_223
  | n + 16, h => absurd h (by omega)
theorem zmiC_14 : ∀ i, i < 10 → zmiB (i + 224) = true := fun i h => match i, h with
  | 0, _ => zmi_224
  | 1, _ => zmi_225
  | 2, _ => zmi_226
  | 3, _ => zmi_227
  | 4, _ => zmi_228
  | 5, _ => zmi_229
  | 6, _ => zmi_230
  | 7, _ => zmi_231
  | 8, _ => zmi_232
  | 9, _ => zmi_233
  | n + 10, h => absurd h (by omega)
theorem zmi_ok {i : Nat} (h : i < 234) : zmiB i = true := by
  by_cases h0 : i < 16
  · have := zmiC_0 (i - 0) (by omega)
    rwa [show i - 0 + 0 = i by omega] at this
  by_cases h1 : i < 32
  · have := zmiC_1 (i - 16) (by omega)
    rwa [show i - 16 + 16 = i by omega] at this
  by_cases h2 : i < 48
  · have := zmiC_2 (i - 32) (by omega)
    rwa [show i - 32 + 32 = i by omega] at this
  by_cases h3 : i < 64
  · have := zmiC_3 (i - 48) (by omega)
    rwa [show i - 48 + 48 = i by omega] at this
  by_cases h4 : i < 80
  · have := zmiC_4 (i - 64) (by omega)
    rwa [show i - 64 + 64 = i by omega] at this
  by_cases h5 : i < 96
  · have := zmiC_5 (i - 80) (by omega)
    rwa [show i - 80 + 80 = i by omega] at this
  by_cases h6 : i < 112
  · have := zmiC_6 (i - 96) (by omega)
    rwa [show i - 96 + 96 = i by omega] at this
  by_cases h7 : i < 128
  · have := zmiC_7 (i - 112) (by omega)
    rwa [show i - 112 + 112 = i by omega] at this
  by_cases h8 : i < 144
  · have := zmiC_8 (i - 128) (by omega)
    rwa [show i - 128 + 128 = i by omega] at this
  by_cases h9 : i < 160
  · have := zmiC_9 (i - 144) (by omega)
    rwa [show i - 144 + 144 = i by omega] at this
  by_cases h10 : i < 176
  · have := zmiC_10 (i - 160) (by omega)
    rwa [show i - 160 + 160 = i by omega] at this
  by_cases h11 : i < 192
  · have := zmiC_11 (i - 176) (by omega)
    rwa [show i - 176 + 176 = i by omega] at this
  by_cases h12 : i < 208
  · have := zmiC_12 (i - 192) (by omega)
    rwa [show i - 192 + 192 = i by omega] at this
  by_cases h13 : i < 224
  · have := zmiC_13 (i - 208) (by omega)
    rwa [show i - 208 + 208 = i by omega] at this
  by_cases h14 : i < 234
  · have := zmiC_14 (i - 224) (by omega)
    rwa [show i - 224 + 224 = i by omega] at this
  omega
def zlwB (o : Nat) : Bool := ((zc_law[o]?).getD []).all fun x => zdcB code o x.1 x.2
theorem zlw_0 : zlwB 0 = true := by decide +kernel
theorem zlw_1 : zlwB 1 = true := by decide +kernel
theorem zlw_2 : zlwB 2 = true := by decide +kernel
theorem zlw_3 : zlwB 3 = true := by decide +kernel
theorem zlw_4 : zlwB 4 = true := by decide +kernel
theorem zlw_5 : zlwB 5 = true := by decide +kernel
theorem zlw_6 : zlwB 6 = true := by decide +kernel
theorem zlw_7 : zlwB 7 = true := by decide +kernel
theorem zlw_8 : zlwB 8 = true := by decide +kernel
theorem zlw_9 : zlwB 9 = true := by decide +kernel
theorem zlw_10 : zlwB 10 = true := by decide +kernel
theorem zlw_11 : zlwB 11 = true := by decide +kernel
theorem zlw_12 : zlwB 12 = true := by decide +kernel
theorem zlw_13 : zlwB 13 = true := by decide +kernel
theorem zlw_14 : zlwB 14 = true := by decide +kernel
theorem zlw_15 : zlwB 15 = true := by decide +kernel
theorem zlw_16 : zlwB 16 = true := by decide +kernel
theorem zlw_17 : zlwB 17 = true := by decide +kernel
theorem zlw_18 : zlwB 18 = true := by decide +kernel
theorem zlw_19 : zlwB 19 = true := by decide +kernel
theorem zlw_20 : zlwB 20 = true := by decide +kernel
theorem zlw_21 : zlwB 21 = true := by decide +kernel
theorem zlw_22 : zlwB 22 = true := by decide +kernel
theorem zlw_23 : zlwB 23 = true := by decide +kernel
theorem zlw_24 : zlwB 24 = true := by decide +kernel
theorem zlw_25 : zlwB 25 = true := by decide +kernel
theorem zlw_26 : zlwB 26 = true := by decide +kernel
theorem zlw_27 : zlwB 27 = true := by decide +kernel
theorem zlw_28 : zlwB 28 = true := by decide +kernel
theorem zlw_29 : zlwB 29 = true := by decide +kernel
theorem zlw_30 : zlwB 30 = true := by decide +kernel
theorem zlw_31 : zlwB 31 = true := by decide +kernel
theorem zlw_32 : zlwB 32 = true := by decide +kernel
theorem zlw_33 : zlwB 33 = true := by decide +kernel
theorem zlw_34 : zlwB 34 = true := by decide +kernel
theorem zlw_35 : zlwB 35 = true := by decide +kernel
theorem zlw_36 : zlwB 36 = true := by decide +kernel
theorem zlw_37 : zlwB 37 = true := by decide +kernel
theorem zlw_38 : zlwB 38 = true := by decide +kernel
theorem zlw_39 : zlwB 39 = true := by decide +kernel
theorem zlwC_0 : ∀ i, i < 16 → zlwB (i + 0) = true := fun i h => match i, h with
  | 0, _ => zlw_0
  | 1, _ => zlw_1
  | 2, _ => zlw_2
  | 3, _ => zlw_3
  | 4, _ => zlw_4
  | 5, _ => zlw_5
  | 6, _ => zlw_6
  | 7, _ => zlw_7
  | 8, _ => zlw_8
  | 9, _ => zlw_9
  | 10, _ => zlw_10
  | 11, _ => zlw_11
  | 12, _ => zlw_12
  | 13, _ => zlw_13
  | 14, _ => zlw_14
  | 15, _ => zlw_15
  | n + 16, h => absurd h (by omega)
theorem zlwC_1 : ∀ i, i < 16 → zlwB (i + 16) = true := fun i h => match i, h with
  | 0, _ => zlw_16
  | 1, _ => zlw_17
  | 2, _ => zlw_18
  | 3, _ => zlw_19
  | 4, _ => zlw_20
  | 5, _ => zlw_21
  | 6, _ => zlw_22
  | 7, _ => zlw_23
  | 8, _ => zlw_24
  | 9, _ => zlw_25
  | 10, _ => zlw_26
  | 11, _ => zlw_27
  | 12, _ => zlw_28
  | 13, _ => zlw_29
  | 14, _ => zlw_30
  | 15, _ => zlw_31
  | n + 16, h => absurd h (by omega)
theorem zlwC_2 : ∀ i, i < 8 → zlwB (i + 32) = true := fun i h => match i, h with
  | 0, _ => zlw_32
  | 1, _ => zlw_33
  | 2, _ => zlw_34
  | 3, _ => zlw_35
  | 4, _ => zlw_36
  | 5, _ => zlw_37
  | 6, _ => zlw_38
  | 7, _ => zlw_39
  | n + 8, h => absurd h (by omega)
theorem zlw_ok {i : Nat} (h : i < 40) : zlwB i = true := by
  by_cases h0 : i < 16
  · have := zlwC_0 (i - 0) (by omega)
    rwa [show i - 0 + 0 = i by omega] at this
  by_cases h1 : i < 32
  · have := zlwC_1 (i - 16) (by omega)
    rwa [show i - 16 + 16 = i by omega] at this
  by_cases h2 : i < 40
  · have := zlwC_2 (i - 32) (by omega)
    rwa [show i - 32 + 32 = i by omega] at this
  omega
theorem zlaw_len : zc_law.length = 40 := by decide +kernel
theorem zlaw_ok : zall zc_law (zdcB code) = true := by
  unfold zall
  rw [List.all_eq_true]
  intro o ho
  rw [zlaw_len] at ho
  exact zlw_ok (List.mem_range.mp ho)

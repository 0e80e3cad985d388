/-! every method of the data is checked -/
theorem pf_m_1 : pf_run 1 = true := by decide +kernel
theorem pf_m_2 : pf_run 2 = true := by decide +kernel
theorem pf_m_3 : pf_run 3 = true := by decide +kernel
theorem pf_m_4 : pf_run 4 = true := by decide +kernel
theorem pf_m_5 : pf_run 5 = true := by decide +kernel
theorem pf_m_6 : pf_run 6 = true := by decide +kernel
theorem pf_m_7 : pf_run 7 = true := by decide +kernel
theorem pf_m_8 : pf_run 8 = true := by decide +kernel
theorem pf_m_9 : pf_run 9 = true := by decide +kernel
theorem pf_m_10 : pf_run 10 = true := by decide +kernel
theorem pf_m_11 : pf_run 11 = true := by decide +kernel
theorem pf_m_12 : pf_run 12 = true := by decide +kernel
theorem pf_m_13 : pf_run 13 = true := by decide +kernel
theorem pf_m_14 : pf_run 14 = true := by decide +kernel
theorem pf_m_15 : pf_run 15 = true := by decide +kernel
theorem pf_m_16 : pf_run 16 = true := by decide +kernel
theorem pf_m_17 : pf_run 17 = true := by decide +kernel
theorem pf_m_18 : pf_run 18 = true := by decide +kernel
theorem pf_m_19 : pf_run 19 = true := by decide +kernel
theorem pf_m_20 : pf_run 20 = true := by decide +kernel
theorem pf_m_21 : pf_run 21 = true := by decide +kernel
theorem pf_m_22 : pf_run 22 = true := by decide +kernel
theorem pf_m_23 : pf_run 23 = true := by decide +kernel
theorem pf_m_24 : pf_run 24 = true := by decide +kernel
theorem pf_m_25 : pf_run 25 = true := by decide +kernel
theorem pf_m_26 : pf_run 26 = true := by decide +kernel
theorem pf_m_27 : pf_run 27 = true := by decide +kernel
theorem pf_m_28 : pf_run 28 = true := by decide +kernel
theorem pf_m_29 : pf_run 29 = true := by decide +kernel
theorem pf_m_30 : pf_run 30 = true := by decide +kernel
theorem pf_m_31 : pf_run 31 = true := by decide +kernel
theorem pf_m_32 : pf_run 32 = true := by decide +kernel
theorem pf_m_33 : pf_run 33 = true := by decide +kernel
theorem pf_m_34 : pf_run 34 = true := by decide +kernel
theorem pf_m_35 : pf_run 35 = true := by decide +kernel
theorem pf_m_36 : pf_run 36 = true := by decide +kernel
theorem pf_m_37 : pf_run 37 = true := by decide +kernel
theorem pf_m_38 : pf_run 38 = true := by decide +kernel
theorem pf_m_39 : pf_run 39 = true := by decide +kernel
theorem pf_m_40 : pf_run 40 = true := by decide +kernel
theorem pf_m_41 : pf_run 41 = true := by decide +kernel
theorem pf_m_42 : pf_run 42 = true := by decide +kernel
theorem pf_m_43 : pf_run 43 = true := by decide +kernel
theorem pf_m_44 : pf_run 44 = true := by decide +kernel
theorem pf_m_45 : pf_run 45 = true := by decide +kernel
theorem pf_m_46 : pf_run 46 = true := by decide +kernel
theorem pf_m_47 : pf_run 47 = true := by decide +kernel
theorem pf_m_48 : pf_run 48 = true := by decide +kernel
theorem pf_m_49 : pf_run 49 = true := by decide +kernel
theorem pf_m_50 : pf_run 50 = true := by decide +kernel
theorem pf_m_51 : pf_run 51 = true := by decide +kernel
theorem pf_m_52 : pf_run 52 = true := by decide +kernel
theorem pf_m_53 : pf_run 53 = true := by decide +kernel
theorem pf_m_54 : pf_run 54 = true := by decide +kernel
theorem pf_m_55 : pf_run 55 = true := by decide +kernel
theorem pf_m_56 : pf_run 56 = true := by decide +kernel
theorem pf_m_57 : pf_run 57 = true := by decide +kernel
theorem pf_m_58 : pf_run 58 = true := by decide +kernel
theorem pf_m_59 : pf_run 59 = true := by decide +kernel
theorem pf_m_60 : pf_run 60 = true := by decide +kernel
theorem pf_m_61 : pf_run 61 = true := by decide +kernel
theorem pf_m_62 : pf_run 62 = true := by decide +kernel
theorem pf_m_63 : pf_run 63 = true := by decide +kernel
theorem pf_m_64 : pf_run 64 = true := by decide +kernel
theorem pf_m_65 : pf_run 65 = true := by decide +kernel
theorem pf_m_66 : pf_run 66 = true := by decide +kernel
theorem pf_m_67 : pf_run 67 = true := by decide +kernel
theorem pf_m_68 : pf_run 68 = true := by decide +kernel
theorem pf_m_69 : pf_run 69 = true := by decide +kernel
theorem pf_m_70 : pf_run 70 = true := by decide +kernel
theorem pf_m_71 : pf_run 71 = true := by decide +kernel
theorem pf_m_72 : pf_run 72 = true := by decide +kernel
theorem pf_m_73 : pf_run 73 = true := by decide +kernel
theorem pf_m_74 : pf_run 74 = true := by decide +kernel
theorem pf_m_75 : pf_run 75 = true := by decide +kernel
theorem pf_m_76 : pf_run 76 = true := by decide +kernel
theorem pf_m_77 : pf_run 77 = true := by decide +kernel
theorem pf_m_78 : pf_run 78 = true := by decide +kernel
theorem pf_m_79 : pf_run 79 = true := by decide +kernel
theorem pf_m_80 : pf_run 80 = true := by decide +kernel
theorem pf_m_81 : pf_run 81 = true := by decide +kernel
theorem pf_m_82 : pf_run 82 = true := by decide +kernel
theorem pf_m_83 : pf_run 83 = true := by decide +kernel
theorem pf_m_84 : pf_run 84 = true := by decide +kernel
theorem pf_m_85 : pf_run 85 = true := by decide +kernel
theorem pf_m_86 : pf_run 86 = true := by decide +kernel
theorem pf_m_87 : pf_run 87 = true := by decide +kernel
theorem pf_m_88 : pf_run 88 = true := by decide +kernel
theorem pf_m_89 : pf_run 89 = true := by decide +kernel
theorem pf_m_90 : pf_run 90 = true := by decide +kernel
theorem pf_m_91 : pf_run 91 = true := by decide +kernel
theorem pf_m_92 : pf_run 92 = true := by decide +kernel
theorem pf_m_93 : pf_run 93 = true := by decide +kernel
theorem pf_m_94 : pf_run 94 = true := by decide +kernel
theorem pf_m_95 : pf_run 95 = true := by decide +kernel
theorem pf_m_96 : pf_run 96 = true := by decide +kernel
theorem pf_m_97 : pf_run 97 = true := by decide +kernel
theorem pf_m_98 : pf_run 98 = true := by decide +kernel
theorem pf_m_99 : pf_run 99 = true := by decide +kernel
theorem pf_m_100 : pf_run 100 = true := by decide +kernel
theorem pf_m_101 : pf_run 101 = true := by decide +kernel
theorem pf_m_102 : pf_run 102 = true := by decide +kernel
theorem pf_m_103 : pf_run 103 = true := by decide +kernel
theorem pf_m_104 : pf_run 104 = true := by decide +kernel
theorem pf_m_105 : pf_run 105 = true := by decide +kernel
theorem pf_m_106 : pf_run 106 = true := by decide +kernel
theorem pf_m_107 : pf_run 107 = true := by decide +kernel
theorem pf_m_108 : pf_run 108 = true := by decide +kernel
theorem pf_m_109 : pf_run 109 = true := by decide +kernel
theorem pf_m_110 : pf_run 110 = true := by decide +kernel
theorem pf_m_111 : pf_run 111 = true := by decide +kernel
theorem pf_m_112 : pf_run 112 = true := by decide +kernel
theorem pf_m_113 : pf_run 113 = true := by decide +kernel
theorem pf_m_114 : pf_run 114 = true := by decide +kernel
theorem pf_m_115 : pf_run 115 = true := by decide +kernel
theorem pf_m_116 : pf_run 116 = true := by decide +kernel
theorem pf_m_117 : pf_run 117 = true := by decide +kernel
theorem pf_m_118 : pf_run 118 = true := by decide +kernel
theorem pf_m_119 : pf_run 119 = true := by decide +kernel
theorem pf_m_120 : pf_run 120 = true := by decide +kernel
theorem pf_m_121 : pf_run 121 = true := by decide +kernel
theorem pf_m_122 : pf_run 122 = true := by decide +kernel
theorem pf_m_123 : pf_run 123 = true := by decide +kernel
theorem pf_m_124 : pf_run 124 = true := by decide +kernel
theorem pf_m_125 : pf_run 125 = true := by decide +kernel
theorem pf_m_126 : pf_run 126 = true := by decide +kernel
theorem pf_m_127 : pf_run 127 = true := by decide +kernel
theorem pf_m_128 : pf_run 128 = true := by decide +kernel
theorem pf_m_129 : pf_run 129 = true := by decide +kernel
theorem pf_m_130 : pf_run 130 = true := by decide +kernel
theorem pf_m_131 : pf_run 131 = true := by decide +kernel
theorem pf_m_132 : pf_run 132 = true := by decide +kernel
theorem pf_m_133 : pf_run 133 = true := by decide +kernel
theorem pf_m_134 : pf_run 134 = true := by decide +kernel
theorem pf_m_135 : pf_run 135 = true := by decide +kernel
theorem pf_m_136 : pf_run 136 = true := by decide +kernel
theorem pf_m_137 : pf_run 137 = true := by decide +kernel
theorem pf_m_138 : pf_run 138 = true := by decide +kernel
theorem pf_m_139 : pf_run 139 = true := by decide +kernel
theorem pf_m_140 : pf_run 140 = true := by decide +kernel
theorem pf_m_141 : pf_run 141 = true := by decide +kernel
theorem pf_m_142 : pf_run 142 = true := by decide +kernel
theorem pf_m_143 : pf_run 143 = true := by decide +kernel
theorem pf_m_144 : pf_run 144 = true := by decide +kernel
theorem pf_m_145 : pf_run 145 = true := by decide +kernel
theorem pf_m_146 : pf_run 146 = true := by decide +kernel
theorem pf_m_147 : pf_run 147 = true := by decide +kernel
theorem pf_m_148 : pf_run 148 = true := by decide +kernel
theorem pf_m_149 : pf_run 149 = true := by decide +kernel
theorem pf_m_150 : pf_run 150 = true := by decide +kernel
theorem pf_m_151 : pf_run 151 = true := by decide +kernel
theorem pf_m_152 : pf_run 152 = true := by decide +kernel
theorem pf_m_153 : pf_run 153 = true := by decide +kernel
theorem pf_m_154 : pf_run 154 = true := by decide +kernel
theorem pf_m_155 : pf_run 155 = true := by decide +kernel
theorem pf_m_156 : pf_run 156 = true := by decide +kernel
theorem pf_m_157 : pf_run 157 = true := by decide +kernel
theorem pf_m_158 : pf_run 158 = true := by decide +kernel
theorem pf_m_159 : pf_run 159 = true := by decide +kernel
theorem pf_m_160 : pf_run 160 = true := by decide +kernel
theorem pf_m_161 : pf_run 161 = true := by decide +kernel
theorem pf_m_162 : pf_run 162 = true := by decide +kernel
theorem pf_m_163 : pf_run 163 = true := by decide +kernel
theorem pf_m_164 : pf_run 164 = true := by decide +kernel
theorem pf_m_165 : pf_run 165 = true := by decide +kernel
theorem pf_m_166 : pf_run 166 = true := by decide +kernel
theorem pf_m_167 : pf_run 167 = true := by decide +kernel
theorem pf_m_168 : pf_run 168 = true := by decide +kernel
theorem pf_m_169 : pf_run 169 = true := by decide +kernel
theorem pf_m_170 : pf_run 170 = true := by decide +kernel
theorem pf_m_171 : pf_run 171 = true := by decide +kernel
theorem pf_p_172_0 : pf_part 172 0 = true := by decide +kernel
theorem pf_p_172_1 : pf_part 172 1 = true := by decide +kernel
theorem pf_p_172_2 : pf_part 172 2 = true := by decide +kernel
theorem pf_p_172_3 : pf_part 172 3 = true := by decide +kernel
theorem pf_p_172_4 : pf_part 172 4 = true := by decide +kernel
theorem pf_p_172_5 : pf_part 172 5 = true := by decide +kernel
theorem pf_p_172_6 : pf_part 172 6 = true := by decide +kernel
theorem pf_p_172_7 : pf_part 172 7 = true := by decide +kernel
theorem pf_p_172_8 : pf_part 172 8 = true := by decide +kernel
theorem pf_p_172_9 : pf_part 172 9 = true := by decide +kernel
theorem pf_p_172_10 : pf_part 172 10 = true := by decide +kernel
theorem pf_p_172_11 : pf_part 172 11 = true := by decide +kernel
theorem pf_p_172_12 : pf_part 172 12 = true := by decide +kernel
theorem pf_m_172 : pf_run 172 = true := pf_run_of (n := 13) (by decide +kernel) rfl (fun j hj => match j, hj with
  | 0, _ => pf_p_172_0
  | 1, _ => pf_p_172_1
  | 2, _ => pf_p_172_2
  | 3, _ => pf_p_172_3
  | 4, _ => pf_p_172_4
  | 5, _ => pf_p_172_5
  | 6, _ => pf_p_172_6
  | 7, _ => pf_p_172_7
  | 8, _ => pf_p_172_8
  | 9, _ => pf_p_172_9
  | 10, _ => pf_p_172_10
  | 11, _ => pf_p_172_11
  | 12, _ => pf_p_172_12
  | j + 13, hj => absurd hj (by omega))
theorem pf_m_173 : pf_run 173 = true := by decide +kernel
theorem pf_m_174 : pf_run 174 = true := by decide +kernel
theorem pf_m_175 : pf_run 175 = true := by decide +kernel
theorem pf_m_176 : pf_run 176 = true := by decide +kernel
theorem pf_m_177 : pf_run 177 = true := by decide +kernel
theorem pf_m_178 : pf_run 178 = true := by decide +kernel
theorem pf_m_179 : pf_run 179 = true := by decide +kernel
theorem pf_m_180 : pf_run 180 = true := by decide +kernel
theorem pf_m_181 : pf_run 181 = true := by decide +kernel
theorem pf_m_182 : pf_run 182 = true := by decide +kernel
theorem pf_p_183_0 : pf_part 183 0 = true := by decide +kernel
theorem pf_p_183_1 : pf_part 183 1 = true := by decide +kernel
theorem pf_p_183_2 : pf_part 183 2 = true := by decide +kernel
theorem pf_p_183_3 : pf_part 183 3 = true := by decide +kernel
theorem pf_p_183_4 : pf_part 183 4 = true := by decide +kernel
theorem pf_p_183_5 : pf_part 183 5 = true := by decide +kernel
theorem pf_p_183_6 : pf_part 183 6 = true := by decide +kernel
theorem pf_p_183_7 : pf_part 183 7 = true := by decide +kernel
theorem pf_p_183_8 : pf_part 183 8 = true := by decide +kernel
theorem pf_p_183_9 : pf_part 183 9 = true := by decide +kernel
theorem pf_p_183_10 : pf_part 183 10 = true := by decide +kernel
theorem pf_p_183_11 : pf_part 183 11 = true := by decide +kernel
theorem pf_p_183_12 : pf_part 183 12 = true := by decide +kernel
theorem pf_p_183_13 : pf_part 183 13 = true := by decide +kernel
theorem pf_p_183_14 : pf_part 183 14 = true := by decide +kernel
theorem pf_p_183_15 : pf_part 183 15 = true := by decide +kernel
theorem pf_m_183 : pf_run 183 = true := pf_run_of (n := 16) (by decide +kernel) rfl (fun j hj => match j, hj with
  | 0, _ => pf_p_183_0
  | 1, _ => pf_p_183_1
  | 2, _ => pf_p_183_2
  | 3, _ => pf_p_183_3
  | 4, _ => pf_p_183_4
  | 5, _ => pf_p_183_5
  | 6, _ => pf_p_183_6
  | 7, _ => pf_p_183_7
  | 8, _ => pf_p_183_8
  | 9, _ => pf_p_183_9
  | 10, _ => pf_p_183_10
  | 11, _ => pf_p_183_11
  | 12, _ => pf_p_183_12
  | 13, _ => pf_p_183_13
  | 14, _ => pf_p_183_14
  | 15, _ => pf_p_183_15
  | j + 16, hj => absurd hj (by omega))
theorem pf_m_184 : pf_run 184 = true := by decide +kernel
theorem pf_m_185 : pf_run 185 = true := by decide +kernel
theorem pf_m_186 : pf_run 186 = true := by decide +kernel
theorem pf_m_187 : pf_run 187 = true := by decide +kernel
theorem pf_m_188 : pf_run 188 = true := by decide +kernel
theorem pf_m_189 : pf_run 189 = true := by decide +kernel
theorem pf_m_190 : pf_run 190 = true := by decide +kernel
theorem pf_m_191 : pf_run 191 = true := by decide +kernel
theorem pf_m_192 : pf_run 192 = true := by decide +kernel
theorem pf_m_193 : pf_run 193 = true := by decide +kernel
theorem pf_m_194 : pf_run 194 = true := by decide +kernel
theorem pf_m_195 : pf_run 195 = true := by decide +kernel
theorem pf_m_196 : pf_run 196 = true := by decide +kernel
theorem pf_m_197 : pf_run 197 = true := by decide +kernel
theorem pf_m_198 : pf_run 198 = true := by decide +kernel
theorem pf_m_199 : pf_run 199 = true := by decide +kernel
theorem pf_m_200 : pf_run 200 = true := by decide +kernel
theorem pf_m_201 : pf_run 201 = true := by decide +kernel
theorem pf_m_202 : pf_run 202 = true := by decide +kernel
theorem pf_m_203 : pf_run 203 = true := by decide +kernel
theorem pf_m_204 : pf_run 204 = true := by decide +kernel
theorem pf_m_205 : pf_run 205 = true := by decide +kernel
theorem pf_m_206 : pf_run 206 = true := by decide +kernel
theorem pf_m_207 : pf_run 207 = true := by decide +kernel
theorem pf_m_208 : pf_run 208 = true := by decide +kernel
theorem pf_m_209 : pf_run 209 = true := by decide +kernel
theorem pf_m_210 : pf_run 210 = true := by decide +kernel
theorem pf_m_211 : pf_run 211 = true := by decide +kernel
theorem pf_m_212 : pf_run 212 = true := by decide +kernel
theorem pf_m_213 : pf_run 213 = true := by decide +kernel
theorem pf_m_214 : pf_run 214 = true := by decide +kernel
theorem pf_m_215 : pf_run 215 = true := by decide +kernel
theorem pf_m_216 : pf_run 216 = true := by decide +kernel
theorem pf_m_217 : pf_run 217 = true := by decide +kernel
theorem pf_m_218 : pf_run 218 = true := by decide +kernel
theorem pf_m_219 : pf_run 219 = true := by decide +kernel
theorem pf_m_220 : pf_run 220 = true := by decide +kernel
theorem pf_m_221 : pf_run 221 = true := by decide +kernel
theorem pf_m_222 : pf_run 222 = true := by decide +kernel
theorem pf_m_223 : pf_run 223 = true := by decide +kernel
theorem pf_m_224 : pf_run 224 = true := by decide +kernel
theorem pf_m_225 : pf_run 225 = true := by decide +kernel
theorem pf_m_226 : pf_run 226 = true := by decide +kernel
theorem pf_m_227 : pf_run 227 = true := by decide +kernel
theorem pf_m_228 : pf_run 228 = true := by decide +kernel
theorem pf_m_229 : pf_run 229 = true := by decide +kernel
theorem pf_m_230 : pf_run 230 = true := by decide +kernel
theorem pf_m_231 : pf_run 231 = true := by decide +kernel
theorem pf_m_232 : pf_run 232 = true := by decide +kernel
theorem pf_m_233 : pf_run 233 = true := by decide +kernel
theorem pf_m_234 : pf_run 234 = true := by decide +kernel
theorem pf_m_235 : pf_run 235 = true := by decide +kernel
theorem pf_m_236 : pf_run 236 = true := by decide +kernel
theorem pf_m_237 : pf_run 237 = true := by decide +kernel
theorem pf_m_238 : pf_run 238 = true := by decide +kernel
theorem pf_m_239 : pf_run 239 = true := by decide +kernel
theorem pf_m_240 : pf_run 240 = true := by decide +kernel
theorem pf_m_241 : pf_run 241 = true := by decide +kernel
theorem pf_m_242 : pf_run 242 = true := by decide +kernel
theorem pf_m_243 : pf_run 243 = true := by decide +kernel

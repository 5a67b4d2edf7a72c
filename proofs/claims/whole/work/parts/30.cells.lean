/-! Layer 3. What a cell is, by its number; the pointers that never change -/
theorem kd_41 : rt_kd 41 = 31 := rfl
theorem ln_41 : rt_ln 41 = 14 := rfl
theorem kd_42 : rt_kd 42 = 28 := rfl
theorem ln_42 : rt_ln 42 = 6 := rfl
theorem kd_43 : rt_kd 43 = 4 := rfl
theorem ln_43 : rt_ln 43 = 1000 := rfl
theorem kd_44 : rt_kd 44 = 5 := rfl
theorem ln_44 : rt_ln 44 = 1001 := rfl
theorem kd_45 : rt_kd 45 = 1 := rfl
theorem ln_45 : rt_ln 45 = 1001 := rfl
theorem kd_46 : rt_kd 46 = 2 := rfl
theorem ln_46 : rt_ln 46 = 1001 := rfl
theorem kd_47 : rt_kd 47 = 23 := rfl
theorem ln_47 : rt_ln 47 = 3 := rfl
theorem kd_48 : rt_kd 48 = 20 := rfl
theorem ln_48 : rt_ln 48 = 5 := rfl
theorem kd_49 : rt_kd 49 = 27 := rfl
theorem ln_49 : rt_ln 49 = 3 := rfl
theorem kd_50 : rt_kd 50 = 1 := rfl
theorem ln_50 : rt_ln 50 = 6 := rfl
theorem kd_51 : rt_kd 51 = 1 := rfl
theorem ln_51 : rt_ln 51 = 6 := rfl
theorem kd_52 : rt_kd 52 = 30 := rfl
theorem ln_52 : rt_ln 52 = 4 := rfl
theorem kd_53 : rt_kd 53 = 5 := rfl
theorem ln_53 : rt_ln 53 = 40 := rfl
theorem kd_54 : rt_kd 54 = 1 := rfl
theorem ln_54 : rt_ln 54 = 40 := rfl
theorem kd_55 : rt_kd 55 = 1 := rfl
theorem ln_55 : rt_ln 55 = 40 := rfl
theorem kd_56 : rt_kd 56 = 26 := rfl
theorem ln_56 : rt_ln 56 = 4 := rfl
theorem kd_57 : rt_kd 57 = 1 := rfl
theorem ln_57 : rt_ln 57 = 8 := rfl
theorem kd_58 : rt_kd 58 = 1 := rfl
theorem ln_58 : rt_ln 58 = 8 := rfl
theorem kd_59 : rt_kd 59 = 3 := rfl
theorem ln_59 : rt_ln 59 = 8 := rfl
theorem kd_60 : rt_kd 60 = 1 := rfl
theorem ln_60 : rt_ln 60 = 6 := rfl
theorem kd_61 : rt_kd 61 = 7 := rfl
theorem ln_61 : rt_ln 61 = 4 := rfl
theorem kd_62 : rt_kd 62 = 8 := rfl
theorem ln_62 : rt_ln 62 = 16 := rfl
theorem kd_63 : rt_kd 63 = 24 := rfl
theorem ln_63 : rt_ln 63 = 12 := rfl
theorem kd_64 : rt_kd 64 = 2 := rfl
theorem ln_64 : rt_ln 64 = 6 := rfl
theorem kd_65 : rt_kd 65 = 2 := rfl
theorem ln_65 : rt_ln 65 = 6 := rfl
theorem kd_66 : rt_kd 66 = 6 := rfl
theorem ln_66 : rt_ln 66 = 6 := rfl
theorem kd_67 : rt_kd 67 = 1 := rfl
theorem ln_67 : rt_ln 67 = 3 := rfl
theorem kd_68 : rt_kd 68 = 1 := rfl
theorem ln_68 : rt_ln 68 = 3 := rfl
theorem kd_69 : rt_kd 69 = 1 := rfl
theorem ln_69 : rt_ln 69 = 3 := rfl
theorem kd_70 : rt_kd 70 = 1 := rfl
theorem ln_70 : rt_ln 70 = 3 := rfl
theorem kd_71 : rt_kd 71 = 1 := rfl
theorem ln_71 : rt_ln 71 = 3 := rfl
theorem kd_72 : rt_kd 72 = 1 := rfl
theorem ln_72 : rt_ln 72 = 3 := rfl
theorem kd_73 : rt_kd 73 = 6 := rfl
theorem ln_73 : rt_ln 73 = 6 := rfl
theorem kd_74 : rt_kd 74 = 1 := rfl
theorem ln_74 : rt_ln 74 = 4 := rfl
theorem kd_75 : rt_kd 75 = 1 := rfl
theorem ln_75 : rt_ln 75 = 4 := rfl
theorem kd_76 : rt_kd 76 = 1 := rfl
theorem ln_76 : rt_ln 76 = 4 := rfl
theorem kd_77 : rt_kd 77 = 1 := rfl
theorem ln_77 : rt_ln 77 = 4 := rfl
theorem kd_78 : rt_kd 78 = 1 := rfl
theorem ln_78 : rt_ln 78 = 4 := rfl
theorem kd_79 : rt_kd 79 = 1 := rfl
theorem ln_79 : rt_ln 79 = 4 := rfl
theorem kd_80 : rt_kd 80 = 1 := rfl
theorem ln_80 : rt_ln 80 = 12 := rfl
theorem kd_81 : rt_kd 81 = 22 := rfl
theorem ln_81 : rt_ln 81 = 7 := rfl
theorem kd_82 : rt_kd 82 = 1 := rfl
theorem ln_82 : rt_ln 82 = 1000 := rfl
theorem kd_83 : rt_kd 83 = 1 := rfl
theorem ln_83 : rt_ln 83 = 24 := rfl
theorem kd_84 : rt_kd 84 = 22 := rfl
theorem ln_84 : rt_ln 84 = 7 := rfl
theorem kd_85 : rt_kd 85 = 1 := rfl
theorem ln_85 : rt_ln 85 = 1000 := rfl
theorem kd_86 : rt_kd 86 = 1 := rfl
theorem ln_86 : rt_ln 86 = 24 := rfl
theorem kd_87 : rt_kd 87 = 24 := rfl
theorem ln_87 : rt_ln 87 = 12 := rfl
theorem kd_88 : rt_kd 88 = 2 := rfl
theorem ln_88 : rt_ln 88 = 6 := rfl
theorem kd_89 : rt_kd 89 = 2 := rfl
theorem ln_89 : rt_ln 89 = 6 := rfl
theorem kd_90 : rt_kd 90 = 6 := rfl
theorem ln_90 : rt_ln 90 = 6 := rfl
theorem kd_91 : rt_kd 91 = 1 := rfl
theorem ln_91 : rt_ln 91 = 3 := rfl
theorem kd_92 : rt_kd 92 = 1 := rfl
theorem ln_92 : rt_ln 92 = 3 := rfl
theorem kd_93 : rt_kd 93 = 1 := rfl
theorem ln_93 : rt_ln 93 = 3 := rfl
theorem kd_94 : rt_kd 94 = 1 := rfl
theorem ln_94 : rt_ln 94 = 3 := rfl
theorem kd_95 : rt_kd 95 = 1 := rfl
theorem ln_95 : rt_ln 95 = 3 := rfl
theorem kd_96 : rt_kd 96 = 1 := rfl
theorem ln_96 : rt_ln 96 = 3 := rfl
theorem kd_97 : rt_kd 97 = 6 := rfl
theorem ln_97 : rt_ln 97 = 6 := rfl
theorem kd_98 : rt_kd 98 = 1 := rfl
theorem ln_98 : rt_ln 98 = 4 := rfl
theorem kd_99 : rt_kd 99 = 1 := rfl
theorem ln_99 : rt_ln 99 = 4 := rfl
theorem kd_100 : rt_kd 100 = 1 := rfl
theorem ln_100 : rt_ln 100 = 4 := rfl
theorem kd_101 : rt_kd 101 = 1 := rfl
theorem ln_101 : rt_ln 101 = 4 := rfl
theorem kd_102 : rt_kd 102 = 1 := rfl
theorem ln_102 : rt_ln 102 = 4 := rfl
theorem kd_103 : rt_kd 103 = 1 := rfl
theorem ln_103 : rt_ln 103 = 4 := rfl
theorem kd_104 : rt_kd 104 = 1 := rfl
theorem ln_104 : rt_ln 104 = 12 := rfl
theorem kd_105 : rt_kd 105 = 22 := rfl
theorem ln_105 : rt_ln 105 = 7 := rfl
theorem kd_106 : rt_kd 106 = 1 := rfl
theorem ln_106 : rt_ln 106 = 1000 := rfl
theorem kd_107 : rt_kd 107 = 1 := rfl
theorem ln_107 : rt_ln 107 = 24 := rfl
theorem kd_108 : rt_kd 108 = 22 := rfl
theorem ln_108 : rt_ln 108 = 7 := rfl
theorem kd_109 : rt_kd 109 = 1 := rfl
theorem ln_109 : rt_ln 109 = 1000 := rfl
theorem kd_110 : rt_kd 110 = 1 := rfl
theorem ln_110 : rt_ln 110 = 24 := rfl
theorem kd_111 : rt_kd 111 = 30 := rfl
theorem ln_111 : rt_ln 111 = 4 := rfl
theorem kd_112 : rt_kd 112 = 5 := rfl
theorem ln_112 : rt_ln 112 = 40 := rfl
theorem kd_113 : rt_kd 113 = 1 := rfl
theorem ln_113 : rt_ln 113 = 40 := rfl
theorem kd_114 : rt_kd 114 = 1 := rfl
theorem ln_114 : rt_ln 114 = 40 := rfl
theorem kd_115 : rt_kd 115 = 27 := rfl
theorem ln_115 : rt_ln 115 = 3 := rfl
theorem kd_116 : rt_kd 116 = 1 := rfl
theorem ln_116 : rt_ln 116 = 6 := rfl
theorem kd_117 : rt_kd 117 = 1 := rfl
theorem ln_117 : rt_ln 117 = 6 := rfl
theorem kd_118 : rt_kd 118 = 21 := rfl
theorem ln_118 : rt_ln 118 = 7 := rfl
theorem kd_119 : rt_kd 119 = 6 := rfl
theorem ln_119 : rt_ln 119 = 6 := rfl
theorem kd_120 : rt_kd 120 = 1 := rfl
theorem ln_120 : rt_ln 120 = 6 := rfl
theorem kd_121 : rt_kd 121 = 1 := rfl
theorem ln_121 : rt_ln 121 = 6 := rfl
theorem kd_122 : rt_kd 122 = 1 := rfl
theorem ln_122 : rt_ln 122 = 6 := rfl
theorem kd_123 : rt_kd 123 = 1 := rfl
theorem ln_123 : rt_ln 123 = 6 := rfl
theorem kd_124 : rt_kd 124 = 1 := rfl
theorem ln_124 : rt_ln 124 = 6 := rfl
theorem kd_125 : rt_kd 125 = 1 := rfl
theorem ln_125 : rt_ln 125 = 6 := rfl
theorem kd_126 : rt_kd 126 = 1 := rfl
theorem ln_126 : rt_ln 126 = 64 := rfl
theorem kd_127 : rt_kd 127 = 1 := rfl
theorem ln_127 : rt_ln 127 = 10 := rfl
theorem kd_128 : rt_kd 128 = 1 := rfl
theorem ln_128 : rt_ln 128 = 6 := rfl
theorem kd_129 : rt_kd 129 = 1 := rfl
theorem ln_129 : rt_ln 129 = 6 := rfl
theorem kd_130 : rt_kd 130 = 25 := rfl
theorem ln_130 : rt_ln 130 = 6 := rfl
theorem kd_131 : rt_kd 131 = 1 := rfl
theorem ln_131 : rt_ln 131 = 6 := rfl
theorem kd_132 : rt_kd 132 = 6 := rfl
theorem ln_132 : rt_ln 132 = 6 := rfl
theorem kd_133 : rt_kd 133 = 1 := rfl
theorem ln_133 : rt_ln 133 = 6 := rfl
theorem kd_134 : rt_kd 134 = 1 := rfl
theorem ln_134 : rt_ln 134 = 6 := rfl
theorem kd_135 : rt_kd 135 = 1 := rfl
theorem ln_135 : rt_ln 135 = 6 := rfl
theorem kd_136 : rt_kd 136 = 1 := rfl
theorem ln_136 : rt_ln 136 = 6 := rfl
theorem kd_137 : rt_kd 137 = 1 := rfl
theorem ln_137 : rt_ln 137 = 6 := rfl
theorem kd_138 : rt_kd 138 = 1 := rfl
theorem ln_138 : rt_ln 138 = 6 := rfl
theorem kd_139 : rt_kd 139 = 6 := rfl
theorem ln_139 : rt_ln 139 = 7 := rfl
theorem kd_140 : rt_kd 140 = 1 := rfl
theorem ln_140 : rt_ln 140 = 64 := rfl
theorem kd_141 : rt_kd 141 = 1 := rfl
theorem ln_141 : rt_ln 141 = 64 := rfl
theorem kd_142 : rt_kd 142 = 1 := rfl
theorem ln_142 : rt_ln 142 = 64 := rfl
theorem kd_143 : rt_kd 143 = 1 := rfl
theorem ln_143 : rt_ln 143 = 64 := rfl
theorem kd_144 : rt_kd 144 = 1 := rfl
theorem ln_144 : rt_ln 144 = 64 := rfl
theorem kd_145 : rt_kd 145 = 1 := rfl
theorem ln_145 : rt_ln 145 = 64 := rfl
theorem kd_146 : rt_kd 146 = 1 := rfl
theorem ln_146 : rt_ln 146 = 64 := rfl
theorem kd_147 : rt_kd 147 = 1 := rfl
theorem ln_147 : rt_ln 147 = 6 := rfl
theorem kd_148 : rt_kd 148 = 20 := rfl
theorem ln_148 : rt_ln 148 = 5 := rfl
theorem kd_149 : rt_kd 149 = 27 := rfl
theorem ln_149 : rt_ln 149 = 3 := rfl
theorem kd_150 : rt_kd 150 = 1 := rfl
theorem ln_150 : rt_ln 150 = 6 := rfl
theorem kd_151 : rt_kd 151 = 1 := rfl
theorem ln_151 : rt_ln 151 = 6 := rfl
theorem kd_152 : rt_kd 152 = 30 := rfl
theorem ln_152 : rt_ln 152 = 4 := rfl
theorem kd_153 : rt_kd 153 = 5 := rfl
theorem ln_153 : rt_ln 153 = 40 := rfl
theorem kd_154 : rt_kd 154 = 1 := rfl
theorem ln_154 : rt_ln 154 = 40 := rfl
theorem kd_155 : rt_kd 155 = 1 := rfl
theorem ln_155 : rt_ln 155 = 40 := rfl
theorem kd_156 : rt_kd 156 = 26 := rfl
theorem ln_156 : rt_ln 156 = 4 := rfl
theorem kd_157 : rt_kd 157 = 1 := rfl
theorem ln_157 : rt_ln 157 = 8 := rfl
theorem kd_158 : rt_kd 158 = 1 := rfl
theorem ln_158 : rt_ln 158 = 8 := rfl
theorem kd_159 : rt_kd 159 = 3 := rfl
theorem ln_159 : rt_ln 159 = 8 := rfl
theorem kd_160 : rt_kd 160 = 1 := rfl
theorem ln_160 : rt_ln 160 = 6 := rfl
theorem kd_161 : rt_kd 161 = 20 := rfl
theorem ln_161 : rt_ln 161 = 5 := rfl
theorem kd_162 : rt_kd 162 = 27 := rfl
theorem ln_162 : rt_ln 162 = 3 := rfl
theorem kd_163 : rt_kd 163 = 1 := rfl
theorem ln_163 : rt_ln 163 = 6 := rfl
theorem kd_164 : rt_kd 164 = 1 := rfl
theorem ln_164 : rt_ln 164 = 6 := rfl
theorem kd_165 : rt_kd 165 = 30 := rfl
theorem ln_165 : rt_ln 165 = 4 := rfl
theorem kd_166 : rt_kd 166 = 5 := rfl
theorem ln_166 : rt_ln 166 = 40 := rfl
theorem kd_167 : rt_kd 167 = 1 := rfl
theorem ln_167 : rt_ln 167 = 40 := rfl
theorem kd_168 : rt_kd 168 = 1 := rfl
theorem ln_168 : rt_ln 168 = 40 := rfl
theorem kd_169 : rt_kd 169 = 26 := rfl
theorem ln_169 : rt_ln 169 = 4 := rfl
theorem kd_170 : rt_kd 170 = 1 := rfl
theorem ln_170 : rt_ln 170 = 8 := rfl
theorem kd_171 : rt_kd 171 = 1 := rfl
theorem ln_171 : rt_ln 171 = 8 := rfl
theorem kd_172 : rt_kd 172 = 3 := rfl
theorem ln_172 : rt_ln 172 = 8 := rfl
theorem kd_173 : rt_kd 173 = 1 := rfl
theorem ln_173 : rt_ln 173 = 6 := rfl
theorem kd_174 : rt_kd 174 = 20 := rfl
theorem ln_174 : rt_ln 174 = 5 := rfl
theorem kd_175 : rt_kd 175 = 27 := rfl
theorem ln_175 : rt_ln 175 = 3 := rfl
theorem kd_176 : rt_kd 176 = 1 := rfl
theorem ln_176 : rt_ln 176 = 6 := rfl
theorem kd_177 : rt_kd 177 = 1 := rfl
theorem ln_177 : rt_ln 177 = 6 := rfl
theorem kd_178 : rt_kd 178 = 30 := rfl
theorem ln_178 : rt_ln 178 = 4 := rfl
theorem kd_179 : rt_kd 179 = 5 := rfl
theorem ln_179 : rt_ln 179 = 40 := rfl
theorem kd_180 : rt_kd 180 = 1 := rfl
theorem ln_180 : rt_ln 180 = 40 := rfl
theorem kd_181 : rt_kd 181 = 1 := rfl
theorem ln_181 : rt_ln 181 = 40 := rfl
theorem kd_182 : rt_kd 182 = 26 := rfl
theorem ln_182 : rt_ln 182 = 4 := rfl
theorem kd_183 : rt_kd 183 = 1 := rfl
theorem ln_183 : rt_ln 183 = 8 := rfl
theorem kd_184 : rt_kd 184 = 1 := rfl
theorem ln_184 : rt_ln 184 = 8 := rfl
theorem kd_185 : rt_kd 185 = 3 := rfl
theorem ln_185 : rt_ln 185 = 8 := rfl
theorem kd_186 : rt_kd 186 = 1 := rfl
theorem ln_186 : rt_ln 186 = 6 := rfl
theorem kd_187 : rt_kd 187 = 20 := rfl
theorem ln_187 : rt_ln 187 = 5 := rfl
theorem kd_188 : rt_kd 188 = 27 := rfl
theorem ln_188 : rt_ln 188 = 3 := rfl
theorem kd_189 : rt_kd 189 = 1 := rfl
theorem ln_189 : rt_ln 189 = 6 := rfl
theorem kd_190 : rt_kd 190 = 1 := rfl
theorem ln_190 : rt_ln 190 = 6 := rfl
theorem kd_191 : rt_kd 191 = 30 := rfl
theorem ln_191 : rt_ln 191 = 4 := rfl
theorem kd_192 : rt_kd 192 = 5 := rfl
theorem ln_192 : rt_ln 192 = 40 := rfl
theorem kd_193 : rt_kd 193 = 1 := rfl
theorem ln_193 : rt_ln 193 = 40 := rfl
theorem kd_194 : rt_kd 194 = 1 := rfl
theorem ln_194 : rt_ln 194 = 40 := rfl
theorem kd_195 : rt_kd 195 = 26 := rfl
theorem ln_195 : rt_ln 195 = 4 := rfl
theorem kd_196 : rt_kd 196 = 1 := rfl
theorem ln_196 : rt_ln 196 = 8 := rfl
theorem kd_197 : rt_kd 197 = 1 := rfl
theorem ln_197 : rt_ln 197 = 8 := rfl
theorem kd_198 : rt_kd 198 = 3 := rfl
theorem ln_198 : rt_ln 198 = 8 := rfl
theorem kd_199 : rt_kd 199 = 1 := rfl
theorem ln_199 : rt_ln 199 = 6 := rfl
theorem kd_200 : rt_kd 200 = 27 := rfl
theorem ln_200 : rt_ln 200 = 3 := rfl
theorem kd_201 : rt_kd 201 = 1 := rfl
theorem ln_201 : rt_ln 201 = 6 := rfl
theorem kd_202 : rt_kd 202 = 1 := rfl
theorem ln_202 : rt_ln 202 = 6 := rfl
theorem kd_203 : rt_kd 203 = 27 := rfl
theorem ln_203 : rt_ln 203 = 3 := rfl
theorem kd_204 : rt_kd 204 = 1 := rfl
theorem ln_204 : rt_ln 204 = 6 := rfl
theorem kd_205 : rt_kd 205 = 1 := rfl
theorem ln_205 : rt_ln 205 = 6 := rfl
theorem kd_206 : rt_kd 206 = 27 := rfl
theorem ln_206 : rt_ln 206 = 3 := rfl
theorem kd_207 : rt_kd 207 = 1 := rfl
theorem ln_207 : rt_ln 207 = 6 := rfl
theorem kd_208 : rt_kd 208 = 1 := rfl
theorem ln_208 : rt_ln 208 = 6 := rfl
theorem kd_209 : rt_kd 209 = 27 := rfl
theorem ln_209 : rt_ln 209 = 3 := rfl
theorem kd_210 : rt_kd 210 = 1 := rfl
theorem ln_210 : rt_ln 210 = 6 := rfl
theorem kd_211 : rt_kd 211 = 1 := rfl
theorem ln_211 : rt_ln 211 = 6 := rfl
theorem kd_212 : rt_kd 212 = 27 := rfl
theorem ln_212 : rt_ln 212 = 3 := rfl
theorem kd_213 : rt_kd 213 = 1 := rfl
theorem ln_213 : rt_ln 213 = 6 := rfl
theorem kd_214 : rt_kd 214 = 1 := rfl
theorem ln_214 : rt_ln 214 = 6 := rfl
theorem kd_215 : rt_kd 215 = 27 := rfl
theorem ln_215 : rt_ln 215 = 3 := rfl
theorem kd_216 : rt_kd 216 = 1 := rfl
theorem ln_216 : rt_ln 216 = 6 := rfl
theorem kd_217 : rt_kd 217 = 1 := rfl
theorem ln_217 : rt_ln 217 = 6 := rfl
theorem kd_218 : rt_kd 218 = 27 := rfl
theorem ln_218 : rt_ln 218 = 3 := rfl
theorem kd_219 : rt_kd 219 = 1 := rfl
theorem ln_219 : rt_ln 219 = 6 := rfl
theorem kd_220 : rt_kd 220 = 1 := rfl
theorem ln_220 : rt_ln 220 = 6 := rfl
theorem kd_221 : rt_kd 221 = 27 := rfl
theorem ln_221 : rt_ln 221 = 3 := rfl
theorem kd_222 : rt_kd 222 = 1 := rfl
theorem ln_222 : rt_ln 222 = 6 := rfl
theorem kd_223 : rt_kd 223 = 1 := rfl
theorem ln_223 : rt_ln 223 = 6 := rfl
theorem kd_224 : rt_kd 224 = 27 := rfl
theorem ln_224 : rt_ln 224 = 3 := rfl
theorem kd_225 : rt_kd 225 = 1 := rfl
theorem ln_225 : rt_ln 225 = 6 := rfl
theorem kd_226 : rt_kd 226 = 1 := rfl
theorem ln_226 : rt_ln 226 = 6 := rfl
theorem kd_227 : rt_kd 227 = 27 := rfl
theorem ln_227 : rt_ln 227 = 3 := rfl
theorem kd_228 : rt_kd 228 = 1 := rfl
theorem ln_228 : rt_ln 228 = 6 := rfl
theorem kd_229 : rt_kd 229 = 1 := rfl
theorem ln_229 : rt_ln 229 = 6 := rfl
theorem kd_230 : rt_kd 230 = 27 := rfl
theorem ln_230 : rt_ln 230 = 3 := rfl
theorem kd_231 : rt_kd 231 = 1 := rfl
theorem ln_231 : rt_ln 231 = 6 := rfl
theorem kd_232 : rt_kd 232 = 1 := rfl
theorem ln_232 : rt_ln 232 = 6 := rfl
theorem kd_233 : rt_kd 233 = 27 := rfl
theorem ln_233 : rt_ln 233 = 3 := rfl
theorem kd_234 : rt_kd 234 = 1 := rfl
theorem ln_234 : rt_ln 234 = 6 := rfl
theorem kd_235 : rt_kd 235 = 1 := rfl
theorem ln_235 : rt_ln 235 = 6 := rfl
theorem kd_236 : rt_kd 236 = 27 := rfl
theorem ln_236 : rt_ln 236 = 3 := rfl
theorem kd_237 : rt_kd 237 = 1 := rfl
theorem ln_237 : rt_ln 237 = 6 := rfl
theorem kd_238 : rt_kd 238 = 1 := rfl
theorem ln_238 : rt_ln 238 = 6 := rfl
theorem kd_239 : rt_kd 239 = 27 := rfl
theorem ln_239 : rt_ln 239 = 3 := rfl
theorem kd_240 : rt_kd 240 = 1 := rfl
theorem ln_240 : rt_ln 240 = 6 := rfl
theorem kd_241 : rt_kd 241 = 1 := rfl
theorem ln_241 : rt_ln 241 = 6 := rfl
theorem kd_242 : rt_kd 242 = 27 := rfl
theorem ln_242 : rt_ln 242 = 3 := rfl
theorem kd_243 : rt_kd 243 = 1 := rfl
theorem ln_243 : rt_ln 243 = 6 := rfl
theorem kd_244 : rt_kd 244 = 1 := rfl
theorem ln_244 : rt_ln 244 = 6 := rfl
theorem kd_245 : rt_kd 245 = 27 := rfl
theorem ln_245 : rt_ln 245 = 3 := rfl
theorem kd_246 : rt_kd 246 = 1 := rfl
theorem ln_246 : rt_ln 246 = 6 := rfl
theorem kd_247 : rt_kd 247 = 1 := rfl
theorem ln_247 : rt_ln 247 = 6 := rfl
theorem kd_248 : rt_kd 248 = 32 := rfl
theorem ln_248 : rt_ln 248 = 72 := rfl
theorem kd_249 : rt_kd 249 = 1 := rfl
theorem ln_249 : rt_ln 249 = 1000 := rfl
theorem kd_250 : rt_kd 250 = 1 := rfl
theorem ln_250 : rt_ln 250 = 8 := rfl
theorem kd_251 : rt_kd 251 = 2 := rfl
theorem ln_251 : rt_ln 251 = 12 := rfl
theorem kd_252 : rt_kd 252 = 2 := rfl
theorem ln_252 : rt_ln 252 = 12 := rfl
theorem kd_253 : rt_kd 253 = 1 := rfl
theorem ln_253 : rt_ln 253 = 12 := rfl
theorem kd_254 : rt_kd 254 = 1 := rfl
theorem ln_254 : rt_ln 254 = 12 := rfl
theorem kd_255 : rt_kd 255 = 1 := rfl
theorem ln_255 : rt_ln 255 = 12 := rfl
theorem kd_256 : rt_kd 256 = 1 := rfl
theorem ln_256 : rt_ln 256 = 12 := rfl
theorem kd_257 : rt_kd 257 = 1 := rfl
theorem ln_257 : rt_ln 257 = 12 := rfl
theorem kd_258 : rt_kd 258 = 1 := rfl
theorem ln_258 : rt_ln 258 = 12 := rfl
theorem kd_259 : rt_kd 259 = 1 := rfl
theorem ln_259 : rt_ln 259 = 12 := rfl
theorem kd_260 : rt_kd 260 = 1 := rfl
theorem ln_260 : rt_ln 260 = 24 := rfl
theorem kd_261 : rt_kd 261 = 1 := rfl
theorem ln_261 : rt_ln 261 = 4 := rfl
theorem kd_262 : rt_kd 262 = 1 := rfl
theorem ln_262 : rt_ln 262 = 4 := rfl
theorem kd_263 : rt_kd 263 = 1 := rfl
theorem ln_263 : rt_ln 263 = 2000 := rfl
theorem kd_264 : rt_kd 264 = 1 := rfl
theorem ln_264 : rt_ln 264 = 7 := rfl
theorem kd_265 : rt_kd 265 = 3 := rfl
theorem ln_265 : rt_ln 265 = 7 := rfl
theorem kd_266 : rt_kd 266 = 1 := rfl
theorem ln_266 : rt_ln 266 = 7 := rfl
theorem kd_267 : rt_kd 267 = 1 := rfl
theorem ln_267 : rt_ln 267 = 7 := rfl
theorem kd_268 : rt_kd 268 = 1 := rfl
theorem ln_268 : rt_ln 268 = 7 := rfl
theorem kd_269 : rt_kd 269 = 1 := rfl
theorem ln_269 : rt_ln 269 = 7 := rfl
theorem kd_270 : rt_kd 270 = 1 := rfl
theorem ln_270 : rt_ln 270 = 7 := rfl
theorem kd_271 : rt_kd 271 = 1 := rfl
theorem ln_271 : rt_ln 271 = 7 := rfl
theorem kd_272 : rt_kd 272 = 1 := rfl
theorem ln_272 : rt_ln 272 = 7 := rfl
theorem kd_273 : rt_kd 273 = 1 := rfl
theorem ln_273 : rt_ln 273 = 7 := rfl
theorem kd_274 : rt_kd 274 = 1 := rfl
theorem ln_274 : rt_ln 274 = 7 := rfl
theorem kd_275 : rt_kd 275 = 1 := rfl
theorem ln_275 : rt_ln 275 = 20 := rfl
theorem kd_276 : rt_kd 276 = 1 := rfl
theorem ln_276 : rt_ln 276 = 6 := rfl
theorem kd_277 : rt_kd 277 = 1 := rfl
theorem ln_277 : rt_ln 277 = 240 := rfl
theorem kd_278 : rt_kd 278 = 1 := rfl
theorem ln_278 : rt_ln 278 = 240 := rfl
theorem kd_279 : rt_kd 279 = 1 := rfl
theorem ln_279 : rt_ln 279 = 240 := rfl
theorem kd_280 : rt_kd 280 = 1 := rfl
theorem ln_280 : rt_ln 280 = 5 := rfl
theorem kd_281 : rt_kd 281 = 1 := rfl
theorem ln_281 : rt_ln 281 = 40 := rfl
theorem kd_282 : rt_kd 282 = 1 := rfl
theorem ln_282 : rt_ln 282 = 40 := rfl
theorem kd_283 : rt_kd 283 = 3 := rfl
theorem ln_283 : rt_ln 283 = 40 := rfl
theorem kd_284 : rt_kd 284 = 1 := rfl
theorem ln_284 : rt_ln 284 = 30 := rfl
theorem kd_285 : rt_kd 285 = 1 := rfl
theorem ln_285 : rt_ln 285 = 13 := rfl
theorem kd_286 : rt_kd 286 = 1 := rfl
theorem ln_286 : rt_ln 286 = 13 := rfl
theorem kd_287 : rt_kd 287 = 1 := rfl
theorem ln_287 : rt_ln 287 = 52 := rfl
theorem kd_288 : rt_kd 288 = 1 := rfl
theorem ln_288 : rt_ln 288 = 208 := rfl
theorem kd_289 : rt_kd 289 = 3 := rfl
theorem ln_289 : rt_ln 289 = 4 := rfl
theorem kd_290 : rt_kd 290 = 1 := rfl
theorem ln_290 : rt_ln 290 = 6 := rfl
theorem kd_291 : rt_kd 291 = 1 := rfl
theorem ln_291 : rt_ln 291 = 6 := rfl
theorem kd_292 : rt_kd 292 = 3 := rfl
theorem ln_292 : rt_ln 292 = 36 := rfl
theorem kd_293 : rt_kd 293 = 1 := rfl
theorem ln_293 : rt_ln 293 = 65 := rfl
theorem kd_294 : rt_kd 294 = 1 := rfl
theorem ln_294 : rt_ln 294 = 4 := rfl
theorem kd_295 : rt_kd 295 = 1 := rfl
theorem ln_295 : rt_ln 295 = 4 := rfl
theorem kd_296 : rt_kd 296 = 1 := rfl
theorem ln_296 : rt_ln 296 = 6 := rfl
theorem kd_297 : rt_kd 297 = 1 := rfl
theorem ln_297 : rt_ln 297 = 10 := rfl
theorem kd_298 : rt_kd 298 = 1 := rfl
theorem ln_298 : rt_ln 298 = 6 := rfl
theorem kd_299 : rt_kd 299 = 1 := rfl
theorem ln_299 : rt_ln 299 = 6 := rfl
def rq_P : List (Nat × Nat × Int) := [(41, 0, 42), (41, 1, 47), (41, 2, 48), (41, 3, 61), (41, 4, 62), (41, 9, 111), (41, 10, 115), (41, 11, 118), (41, 12, 130), (42, 0, 43), (42, 2, 44), (42, 3, 45), (42, 4, 46), (47, 0, 42), (48, 0, 49), (48, 1, 52), (48, 2, 56), (48, 3, 60), (49, 1, 50), (49, 2, 51), (52, 1, 53), (52, 2, 54), (52, 3, 55), (56, 1, 57), (56, 2, 58), (56, 3, 59), (61, 0, 148), (61, 1, 161), (61, 2, 174), (61, 3, 187), (62, 0, 200), (62, 1, 203), (62, 2, 206), (62, 3, 209), (62, 4, 212), (62, 5, 215), (62, 6, 218), (62, 7, 221), (62, 8, 224), (62, 9, 227), (62, 10, 230), (62, 11, 233), (62, 12, 236), (62, 13, 239), (62, 14, 242), (62, 15, 245), (63, 2, 64), (63, 3, 65), (63, 4, 66), (63, 5, 73), (63, 6, 80), (63, 10, 81), (63, 11, 84), (66, 0, 67), (66, 1, 68), (66, 2, 69), (66, 3, 70), (66, 4, 71), (66, 5, 72), (73, 0, 74), (73, 1, 75), (73, 2, 76), (73, 3, 77), (73, 4, 78), (73, 5, 79), (81, 0, 21), (81, 1, 22), (81, 2, 23), (81, 3, 82), (81, 4, 83), (84, 0, 24), (84, 1, 25), (84, 2, 26), (84, 3, 85), (84, 4, 86), (87, 2, 88), (87, 3, 89), (87, 4, 90), (87, 5, 97), (87, 6, 104), (87, 10, 105), (87, 11, 108), (90, 0, 91), (90, 1, 92), (90, 2, 93), (90, 3, 94), (90, 4, 95), (90, 5, 96), (97, 0, 98), (97, 1, 99), (97, 2, 100), (97, 3, 101), (97, 4, 102), (97, 5, 103), (105, 0, 21), (105, 1, 22), (105, 2, 23), (105, 3, 106), (105, 4, 107), (108, 0, 24), (108, 1, 25), (108, 2, 26), (108, 3, 109), (108, 4, 110), (111, 1, 112), (111, 2, 113), (111, 3, 114), (115, 1, 116), (115, 2, 117), (118, 2, 119), (118, 3, 126), (118, 4, 127), (118, 5, 128), (118, 6, 129), (119, 0, 120), (119, 1, 121), (119, 2, 122), (119, 3, 123), (119, 4, 124), (119, 5, 125), (130, 2, 131), (130, 3, 132), (130, 4, 139), (130, 5, 147), (132, 0, 133), (132, 1, 134), (132, 2, 135), (132, 3, 136), (132, 4, 137), (132, 5, 138), (139, 0, 140), (139, 1, 141), (139, 2, 142), (139, 3, 143), (139, 4, 144), (139, 5, 145), (139, 6, 146), (148, 0, 149), (148, 1, 152), (148, 2, 156), (148, 3, 160), (149, 1, 150), (149, 2, 151), (152, 1, 153), (152, 2, 154), (152, 3, 155), (156, 1, 157), (156, 2, 158), (156, 3, 159), (161, 0, 162), (161, 1, 165), (161, 2, 169), (161, 3, 173), (162, 1, 163), (162, 2, 164), (165, 1, 166), (165, 2, 167), (165, 3, 168), (169, 1, 170), (169, 2, 171), (169, 3, 172), (174, 0, 175), (174, 1, 178), (174, 2, 182), (174, 3, 186), (175, 1, 176), (175, 2, 177), (178, 1, 179), (178, 2, 180), (178, 3, 181), (182, 1, 183), (182, 2, 184), (182, 3, 185), (187, 0, 188), (187, 1, 191), (187, 2, 195), (187, 3, 199), (188, 1, 189), (188, 2, 190), (191, 1, 192), (191, 2, 193), (191, 3, 194), (195, 1, 196), (195, 2, 197), (195, 3, 198), (200, 1, 201), (200, 2, 202), (203, 1, 204), (203, 2, 205), (206, 1, 207), (206, 2, 208), (209, 1, 210), (209, 2, 211), (212, 1, 213), (212, 2, 214), (215, 1, 216), (215, 2, 217), (218, 1, 219), (218, 2, 220), (221, 1, 222), (221, 2, 223), (224, 1, 225), (224, 2, 226), (227, 1, 228), (227, 2, 229), (230, 1, 231), (230, 2, 232), (233, 1, 234), (233, 2, 235), (236, 1, 237), (236, 2, 238), (239, 1, 240), (239, 2, 241), (242, 1, 243), (242, 2, 244), (245, 1, 246), (245, 2, 247), (248, 2, 249), (248, 10, 250), (248, 11, 251), (248, 12, 252), (248, 13, 253), (248, 14, 254), (248, 15, 255), (248, 16, 256), (248, 17, 257), (248, 18, 258), (248, 19, 259), (248, 20, 260), (248, 21, 261), (248, 22, 262), (248, 23, 263), (248, 27, 264), (248, 28, 265), (248, 29, 266), (248, 30, 267), (248, 31, 268), (248, 32, 269), (248, 33, 270), (248, 34, 271), (248, 35, 272), (248, 36, 273), (248, 37, 274), (248, 38, 275), (248, 41, 276), (248, 42, 277), (248, 43, 278), (248, 44, 279), (248, 45, 280), (248, 46, 281), (248, 47, 282), (248, 48, 283), (248, 49, 284), (248, 50, 285), (248, 51, 286), (248, 52, 287), (248, 53, 288), (248, 54, 289), (248, 56, 290), (248, 57, 291), (248, 60, 292), (248, 61, 293), (248, 62, 294), (248, 63, 295), (248, 66, 296), (248, 68, 297), (248, 69, 298), (248, 70, 299)]
def rq_st (mem : rt_M) : Prop := ∀ q ∈ rq_P, mem q.1 q.2.1 = q.2.2
theorem pt_41_0 {mem : rt_M} (h : rq_st mem) : mem 41 0 = 42 := h (41, 0, 42) (List.mem_of_getElem? (i := 0) rfl)
theorem pt_41_1 {mem : rt_M} (h : rq_st mem) : mem 41 1 = 47 := h (41, 1, 47) (List.mem_of_getElem? (i := 1) rfl)
theorem pt_41_2 {mem : rt_M} (h : rq_st mem) : mem 41 2 = 48 := h (41, 2, 48) (List.mem_of_getElem? (i := 2) rfl)
theorem pt_41_3 {mem : rt_M} (h : rq_st mem) : mem 41 3 = 61 := h (41, 3, 61) (List.mem_of_getElem? (i := 3) rfl)
theorem pt_41_4 {mem : rt_M} (h : rq_st mem) : mem 41 4 = 62 := h (41, 4, 62) (List.mem_of_getElem? (i := 4) rfl)
theorem pt_41_9 {mem : rt_M} (h : rq_st mem) : mem 41 9 = 111 := h (41, 9, 111) (List.mem_of_getElem? (i := 5) rfl)
theorem pt_41_10 {mem : rt_M} (h : rq_st mem) : mem 41 10 = 115 := h (41, 10, 115) (List.mem_of_getElem? (i := 6) rfl)
theorem pt_41_11 {mem : rt_M} (h : rq_st mem) : mem 41 11 = 118 := h (41, 11, 118) (List.mem_of_getElem? (i := 7) rfl)
theorem pt_41_12 {mem : rt_M} (h : rq_st mem) : mem 41 12 = 130 := h (41, 12, 130) (List.mem_of_getElem? (i := 8) rfl)
theorem pt_42_0 {mem : rt_M} (h : rq_st mem) : mem 42 0 = 43 := h (42, 0, 43) (List.mem_of_getElem? (i := 9) rfl)
theorem pt_42_2 {mem : rt_M} (h : rq_st mem) : mem 42 2 = 44 := h (42, 2, 44) (List.mem_of_getElem? (i := 10) rfl)
theorem pt_42_3 {mem : rt_M} (h : rq_st mem) : mem 42 3 = 45 := h (42, 3, 45) (List.mem_of_getElem? (i := 11) rfl)
theorem pt_42_4 {mem : rt_M} (h : rq_st mem) : mem 42 4 = 46 := h (42, 4, 46) (List.mem_of_getElem? (i := 12) rfl)
theorem pt_47_0 {mem : rt_M} (h : rq_st mem) : mem 47 0 = 42 := h (47, 0, 42) (List.mem_of_getElem? (i := 13) rfl)
theorem pt_48_0 {mem : rt_M} (h : rq_st mem) : mem 48 0 = 49 := h (48, 0, 49) (List.mem_of_getElem? (i := 14) rfl)
theorem pt_48_1 {mem : rt_M} (h : rq_st mem) : mem 48 1 = 52 := h (48, 1, 52) (List.mem_of_getElem? (i := 15) rfl)
theorem pt_48_2 {mem : rt_M} (h : rq_st mem) : mem 48 2 = 56 := h (48, 2, 56) (List.mem_of_getElem? (i := 16) rfl)
theorem pt_48_3 {mem : rt_M} (h : rq_st mem) : mem 48 3 = 60 := h (48, 3, 60) (List.mem_of_getElem? (i := 17) rfl)
theorem pt_49_1 {mem : rt_M} (h : rq_st mem) : mem 49 1 = 50 := h (49, 1, 50) (List.mem_of_getElem? (i := 18) rfl)
theorem pt_49_2 {mem : rt_M} (h : rq_st mem) : mem 49 2 = 51 := h (49, 2, 51) (List.mem_of_getElem? (i := 19) rfl)
theorem pt_52_1 {mem : rt_M} (h : rq_st mem) : mem 52 1 = 53 := h (52, 1, 53) (List.mem_of_getElem? (i := 20) rfl)
theorem pt_52_2 {mem : rt_M} (h : rq_st mem) : mem 52 2 = 54 := h (52, 2, 54) (List.mem_of_getElem? (i := 21) rfl)
theorem pt_52_3 {mem : rt_M} (h : rq_st mem) : mem 52 3 = 55 := h (52, 3, 55) (List.mem_of_getElem? (i := 22) rfl)
theorem pt_56_1 {mem : rt_M} (h : rq_st mem) : mem 56 1 = 57 := h (56, 1, 57) (List.mem_of_getElem? (i := 23) rfl)
theorem pt_56_2 {mem : rt_M} (h : rq_st mem) : mem 56 2 = 58 := h (56, 2, 58) (List.mem_of_getElem? (i := 24) rfl)
theorem pt_56_3 {mem : rt_M} (h : rq_st mem) : mem 56 3 = 59 := h (56, 3, 59) (List.mem_of_getElem? (i := 25) rfl)
theorem pt_61_0 {mem : rt_M} (h : rq_st mem) : mem 61 0 = 148 := h (61, 0, 148) (List.mem_of_getElem? (i := 26) rfl)
theorem pt_61_1 {mem : rt_M} (h : rq_st mem) : mem 61 1 = 161 := h (61, 1, 161) (List.mem_of_getElem? (i := 27) rfl)
theorem pt_61_2 {mem : rt_M} (h : rq_st mem) : mem 61 2 = 174 := h (61, 2, 174) (List.mem_of_getElem? (i := 28) rfl)
theorem pt_61_3 {mem : rt_M} (h : rq_st mem) : mem 61 3 = 187 := h (61, 3, 187) (List.mem_of_getElem? (i := 29) rfl)
theorem pt_62_0 {mem : rt_M} (h : rq_st mem) : mem 62 0 = 200 := h (62, 0, 200) (List.mem_of_getElem? (i := 30) rfl)
theorem pt_62_1 {mem : rt_M} (h : rq_st mem) : mem 62 1 = 203 := h (62, 1, 203) (List.mem_of_getElem? (i := 31) rfl)
theorem pt_62_2 {mem : rt_M} (h : rq_st mem) : mem 62 2 = 206 := h (62, 2, 206) (List.mem_of_getElem? (i := 32) rfl)
theorem pt_62_3 {mem : rt_M} (h : rq_st mem) : mem 62 3 = 209 := h (62, 3, 209) (List.mem_of_getElem? (i := 33) rfl)
theorem pt_62_4 {mem : rt_M} (h : rq_st mem) : mem 62 4 = 212 := h (62, 4, 212) (List.mem_of_getElem? (i := 34) rfl)
theorem pt_62_5 {mem : rt_M} (h : rq_st mem) : mem 62 5 = 215 := h (62, 5, 215) (List.mem_of_getElem? (i := 35) rfl)
theorem pt_62_6 {mem : rt_M} (h : rq_st mem) : mem 62 6 = 218 := h (62, 6, 218) (List.mem_of_getElem? (i := 36) rfl)
theorem pt_62_7 {mem : rt_M} (h : rq_st mem) : mem 62 7 = 221 := h (62, 7, 221) (List.mem_of_getElem? (i := 37) rfl)
theorem pt_62_8 {mem : rt_M} (h : rq_st mem) : mem 62 8 = 224 := h (62, 8, 224) (List.mem_of_getElem? (i := 38) rfl)
theorem pt_62_9 {mem : rt_M} (h : rq_st mem) : mem 62 9 = 227 := h (62, 9, 227) (List.mem_of_getElem? (i := 39) rfl)
theorem pt_62_10 {mem : rt_M} (h : rq_st mem) : mem 62 10 = 230 := h (62, 10, 230) (List.mem_of_getElem? (i := 40) rfl)
theorem pt_62_11 {mem : rt_M} (h : rq_st mem) : mem 62 11 = 233 := h (62, 11, 233) (List.mem_of_getElem? (i := 41) rfl)
theorem pt_62_12 {mem : rt_M} (h : rq_st mem) : mem 62 12 = 236 := h (62, 12, 236) (List.mem_of_getElem? (i := 42) rfl)
theorem pt_62_13 {mem : rt_M} (h : rq_st mem) : mem 62 13 = 239 := h (62, 13, 239) (List.mem_of_getElem? (i := 43) rfl)
theorem pt_62_14 {mem : rt_M} (h : rq_st mem) : mem 62 14 = 242 := h (62, 14, 242) (List.mem_of_getElem? (i := 44) rfl)
theorem pt_62_15 {mem : rt_M} (h : rq_st mem) : mem 62 15 = 245 := h (62, 15, 245) (List.mem_of_getElem? (i := 45) rfl)
theorem pt_63_2 {mem : rt_M} (h : rq_st mem) : mem 63 2 = 64 := h (63, 2, 64) (List.mem_of_getElem? (i := 46) rfl)
theorem pt_63_3 {mem : rt_M} (h : rq_st mem) : mem 63 3 = 65 := h (63, 3, 65) (List.mem_of_getElem? (i := 47) rfl)
theorem pt_63_4 {mem : rt_M} (h : rq_st mem) : mem 63 4 = 66 := h (63, 4, 66) (List.mem_of_getElem? (i := 48) rfl)
theorem pt_63_5 {mem : rt_M} (h : rq_st mem) : mem 63 5 = 73 := h (63, 5, 73) (List.mem_of_getElem? (i := 49) rfl)
theorem pt_63_6 {mem : rt_M} (h : rq_st mem) : mem 63 6 = 80 := h (63, 6, 80) (List.mem_of_getElem? (i := 50) rfl)
theorem pt_63_10 {mem : rt_M} (h : rq_st mem) : mem 63 10 = 81 := h (63, 10, 81) (List.mem_of_getElem? (i := 51) rfl)
theorem pt_63_11 {mem : rt_M} (h : rq_st mem) : mem 63 11 = 84 := h (63, 11, 84) (List.mem_of_getElem? (i := 52) rfl)
theorem pt_66_0 {mem : rt_M} (h : rq_st mem) : mem 66 0 = 67 := h (66, 0, 67) (List.mem_of_getElem? (i := 53) rfl)
theorem pt_66_1 {mem : rt_M} (h : rq_st mem) : mem 66 1 = 68 := h (66, 1, 68) (List.mem_of_getElem? (i := 54) rfl)
theorem pt_66_2 {mem : rt_M} (h : rq_st mem) : mem 66 2 = 69 := h (66, 2, 69) (List.mem_of_getElem? (i := 55) rfl)
theorem pt_66_3 {mem : rt_M} (h : rq_st mem) : mem 66 3 = 70 := h (66, 3, 70) (List.mem_of_getElem? (i := 56) rfl)
theorem pt_66_4 {mem : rt_M} (h : rq_st mem) : mem 66 4 = 71 := h (66, 4, 71) (List.mem_of_getElem? (i := 57) rfl)
theorem pt_66_5 {mem : rt_M} (h : rq_st mem) : mem 66 5 = 72 := h (66, 5, 72) (List.mem_of_getElem? (i := 58) rfl)
theorem pt_73_0 {mem : rt_M} (h : rq_st mem) : mem 73 0 = 74 := h (73, 0, 74) (List.mem_of_getElem? (i := 59) rfl)
theorem pt_73_1 {mem : rt_M} (h : rq_st mem) : mem 73 1 = 75 := h (73, 1, 75) (List.mem_of_getElem? (i := 60) rfl)
theorem pt_73_2 {mem : rt_M} (h : rq_st mem) : mem 73 2 = 76 := h (73, 2, 76) (List.mem_of_getElem? (i := 61) rfl)
theorem pt_73_3 {mem : rt_M} (h : rq_st mem) : mem 73 3 = 77 := h (73, 3, 77) (List.mem_of_getElem? (i := 62) rfl)
theorem pt_73_4 {mem : rt_M} (h : rq_st mem) : mem 73 4 = 78 := h (73, 4, 78) (List.mem_of_getElem? (i := 63) rfl)
theorem pt_73_5 {mem : rt_M} (h : rq_st mem) : mem 73 5 = 79 := h (73, 5, 79) (List.mem_of_getElem? (i := 64) rfl)
theorem pt_81_0 {mem : rt_M} (h : rq_st mem) : mem 81 0 = 21 := h (81, 0, 21) (List.mem_of_getElem? (i := 65) rfl)
theorem pt_81_1 {mem : rt_M} (h : rq_st mem) : mem 81 1 = 22 := h (81, 1, 22) (List.mem_of_getElem? (i := 66) rfl)
theorem pt_81_2 {mem : rt_M} (h : rq_st mem) : mem 81 2 = 23 := h (81, 2, 23) (List.mem_of_getElem? (i := 67) rfl)
theorem pt_81_3 {mem : rt_M} (h : rq_st mem) : mem 81 3 = 82 := h (81, 3, 82) (List.mem_of_getElem? (i := 68) rfl)
theorem pt_81_4 {mem : rt_M} (h : rq_st mem) : mem 81 4 = 83 := h (81, 4, 83) (List.mem_of_getElem? (i := 69) rfl)
theorem pt_84_0 {mem : rt_M} (h : rq_st mem) : mem 84 0 = 24 := h (84, 0, 24) (List.mem_of_getElem? (i := 70) rfl)
theorem pt_84_1 {mem : rt_M} (h : rq_st mem) : mem 84 1 = 25 := h (84, 1, 25) (List.mem_of_getElem? (i := 71) rfl)
theorem pt_84_2 {mem : rt_M} (h : rq_st mem) : mem 84 2 = 26 := h (84, 2, 26) (List.mem_of_getElem? (i := 72) rfl)
theorem pt_84_3 {mem : rt_M} (h : rq_st mem) : mem 84 3 = 85 := h (84, 3, 85) (List.mem_of_getElem? (i := 73) rfl)
theorem pt_84_4 {mem : rt_M} (h : rq_st mem) : mem 84 4 = 86 := h (84, 4, 86) (List.mem_of_getElem? (i := 74) rfl)
theorem pt_87_2 {mem : rt_M} (h : rq_st mem) : mem 87 2 = 88 := h (87, 2, 88) (List.mem_of_getElem? (i := 75) rfl)
theorem pt_87_3 {mem : rt_M} (h : rq_st mem) : mem 87 3 = 89 := h (87, 3, 89) (List.mem_of_getElem? (i := 76) rfl)
theorem pt_87_4 {mem : rt_M} (h : rq_st mem) : mem 87 4 = 90 := h (87, 4, 90) (List.mem_of_getElem? (i := 77) rfl)
theorem pt_87_5 {mem : rt_M} (h : rq_st mem) : mem 87 5 = 97 := h (87, 5, 97) (List.mem_of_getElem? (i := 78) rfl)
theorem pt_87_6 {mem : rt_M} (h : rq_st mem) : mem 87 6 = 104 := h (87, 6, 104) (List.mem_of_getElem? (i := 79) rfl)
theorem pt_87_10 {mem : rt_M} (h : rq_st mem) : mem 87 10 = 105 := h (87, 10, 105) (List.mem_of_getElem? (i := 80) rfl)
theorem pt_87_11 {mem : rt_M} (h : rq_st mem) : mem 87 11 = 108 := h (87, 11, 108) (List.mem_of_getElem? (i := 81) rfl)
theorem pt_90_0 {mem : rt_M} (h : rq_st mem) : mem 90 0 = 91 := h (90, 0, 91) (List.mem_of_getElem? (i := 82) rfl)
theorem pt_90_1 {mem : rt_M} (h : rq_st mem) : mem 90 1 = 92 := h (90, 1, 92) (List.mem_of_getElem? (i := 83) rfl)
theorem pt_90_2 {mem : rt_M} (h : rq_st mem) : mem 90 2 = 93 := h (90, 2, 93) (List.mem_of_getElem? (i := 84) rfl)
theorem pt_90_3 {mem : rt_M} (h : rq_st mem) : mem 90 3 = 94 := h (90, 3, 94) (List.mem_of_getElem? (i := 85) rfl)
theorem pt_90_4 {mem : rt_M} (h : rq_st mem) : mem 90 4 = 95 := h (90, 4, 95) (List.mem_of_getElem? (i := 86) rfl)
theorem pt_90_5 {mem : rt_M} (h : rq_st mem) : mem 90 5 = 96 := h (90, 5, 96) (List.mem_of_getElem? (i := 87) rfl)
theorem pt_97_0 {mem : rt_M} (h : rq_st mem) : mem 97 0 = 98 := h (97, 0, 98) (List.mem_of_getElem? (i := 88) rfl)
theorem pt_97_1 {mem : rt_M} (h : rq_st mem) : mem 97 1 = 99 := h (97, 1, 99) (List.mem_of_getElem? (i := 89) rfl)
theorem pt_97_2 {mem : rt_M} (h : rq_st mem) : mem 97 2 = 100 := h (97, 2, 100) (List.mem_of_getElem? (i := 90) rfl)
theorem pt_97_3 {mem : rt_M} (h : rq_st mem) : mem 97 3 = 101 := h (97, 3, 101) (List.mem_of_getElem? (i := 91) rfl)
theorem pt_97_4 {mem : rt_M} (h : rq_st mem) : mem 97 4 = 102 := h (97, 4, 102) (List.mem_of_getElem? (i := 92) rfl)
theorem pt_97_5 {mem : rt_M} (h : rq_st mem) : mem 97 5 = 103 := h (97, 5, 103) (List.mem_of_getElem? (i := 93) rfl)
theorem pt_105_0 {mem : rt_M} (h : rq_st mem) : mem 105 0 = 21 := h (105, 0, 21) (List.mem_of_getElem? (i := 94) rfl)
theorem pt_105_1 {mem : rt_M} (h : rq_st mem) : mem 105 1 = 22 := h (105, 1, 22) (List.mem_of_getElem? (i := 95) rfl)
theorem pt_105_2 {mem : rt_M} (h : rq_st mem) : mem 105 2 = 23 := h (105, 2, 23) (List.mem_of_getElem? (i := 96) rfl)
theorem pt_105_3 {mem : rt_M} (h : rq_st mem) : mem 105 3 = 106 := h (105, 3, 106) (List.mem_of_getElem? (i := 97) rfl)
theorem pt_105_4 {mem : rt_M} (h : rq_st mem) : mem 105 4 = 107 := h (105, 4, 107) (List.mem_of_getElem? (i := 98) rfl)
theorem pt_108_0 {mem : rt_M} (h : rq_st mem) : mem 108 0 = 24 := h (108, 0, 24) (List.mem_of_getElem? (i := 99) rfl)
theorem pt_108_1 {mem : rt_M} (h : rq_st mem) : mem 108 1 = 25 := h (108, 1, 25) (List.mem_of_getElem? (i := 100) rfl)
theorem pt_108_2 {mem : rt_M} (h : rq_st mem) : mem 108 2 = 26 := h (108, 2, 26) (List.mem_of_getElem? (i := 101) rfl)
theorem pt_108_3 {mem : rt_M} (h : rq_st mem) : mem 108 3 = 109 := h (108, 3, 109) (List.mem_of_getElem? (i := 102) rfl)
theorem pt_108_4 {mem : rt_M} (h : rq_st mem) : mem 108 4 = 110 := h (108, 4, 110) (List.mem_of_getElem? (i := 103) rfl)
theorem pt_111_1 {mem : rt_M} (h : rq_st mem) : mem 111 1 = 112 := h (111, 1, 112) (List.mem_of_getElem? (i := 104) rfl)
theorem pt_111_2 {mem : rt_M} (h : rq_st mem) : mem 111 2 = 113 := h (111, 2, 113) (List.mem_of_getElem? (i := 105) rfl)
theorem pt_111_3 {mem : rt_M} (h : rq_st mem) : mem 111 3 = 114 := h (111, 3, 114) (List.mem_of_getElem? (i := 106) rfl)
theorem pt_115_1 {mem : rt_M} (h : rq_st mem) : mem 115 1 = 116 := h (115, 1, 116) (List.mem_of_getElem? (i := 107) rfl)
theorem pt_115_2 {mem : rt_M} (h : rq_st mem) : mem 115 2 = 117 := h (115, 2, 117) (List.mem_of_getElem? (i := 108) rfl)
theorem pt_118_2 {mem : rt_M} (h : rq_st mem) : mem 118 2 = 119 := h (118, 2, 119) (List.mem_of_getElem? (i := 109) rfl)
theorem pt_118_3 {mem : rt_M} (h : rq_st mem) : mem 118 3 = 126 := h (118, 3, 126) (List.mem_of_getElem? (i := 110) rfl)
theorem pt_118_4 {mem : rt_M} (h : rq_st mem) : mem 118 4 = 127 := h (118, 4, 127) (List.mem_of_getElem? (i := 111) rfl)
theorem pt_118_5 {mem : rt_M} (h : rq_st mem) : mem 118 5 = 128 := h (118, 5, 128) (List.mem_of_getElem? (i := 112) rfl)
theorem pt_118_6 {mem : rt_M} (h : rq_st mem) : mem 118 6 = 129 := h (118, 6, 129) (List.mem_of_getElem? (i := 113) rfl)
theorem pt_119_0 {mem : rt_M} (h : rq_st mem) : mem 119 0 = 120 := h (119, 0, 120) (List.mem_of_getElem? (i := 114) rfl)
theorem pt_119_1 {mem : rt_M} (h : rq_st mem) : mem 119 1 = 121 := h (119, 1, 121) (List.mem_of_getElem? (i := 115) rfl)
theorem pt_119_2 {mem : rt_M} (h : rq_st mem) : mem 119 2 = 122 := h (119, 2, 122) (List.mem_of_getElem? (i := 116) rfl)
theorem pt_119_3 {mem : rt_M} (h : rq_st mem) : mem 119 3 = 123 := h (119, 3, 123) (List.mem_of_getElem? (i := 117) rfl)
theorem pt_119_4 {mem : rt_M} (h : rq_st mem) : mem 119 4 = 124 := h (119, 4, 124) (List.mem_of_getElem? (i := 118) rfl)
theorem pt_119_5 {mem : rt_M} (h : rq_st mem) : mem 119 5 = 125 := h (119, 5, 125) (List.mem_of_getElem? (i := 119) rfl)
theorem pt_130_2 {mem : rt_M} (h : rq_st mem) : mem 130 2 = 131 := h (130, 2, 131) (List.mem_of_getElem? (i := 120) rfl)
theorem pt_130_3 {mem : rt_M} (h : rq_st mem) : mem 130 3 = 132 := h (130, 3, 132) (List.mem_of_getElem? (i := 121) rfl)
theorem pt_130_4 {mem : rt_M} (h : rq_st mem) : mem 130 4 = 139 := h (130, 4, 139) (List.mem_of_getElem? (i := 122) rfl)
theorem pt_130_5 {mem : rt_M} (h : rq_st mem) : mem 130 5 = 147 := h (130, 5, 147) (List.mem_of_getElem? (i := 123) rfl)
theorem pt_132_0 {mem : rt_M} (h : rq_st mem) : mem 132 0 = 133 := h (132, 0, 133) (List.mem_of_getElem? (i := 124) rfl)
theorem pt_132_1 {mem : rt_M} (h : rq_st mem) : mem 132 1 = 134 := h (132, 1, 134) (List.mem_of_getElem? (i := 125) rfl)
theorem pt_132_2 {mem : rt_M} (h : rq_st mem) : mem 132 2 = 135 := h (132, 2, 135) (List.mem_of_getElem? (i := 126) rfl)
theorem pt_132_3 {mem : rt_M} (h : rq_st mem) : mem 132 3 = 136 := h (132, 3, 136) (List.mem_of_getElem? (i := 127) rfl)
theorem pt_132_4 {mem : rt_M} (h : rq_st mem) : mem 132 4 = 137 := h (132, 4, 137) (List.mem_of_getElem? (i := 128) rfl)
theorem pt_132_5 {mem : rt_M} (h : rq_st mem) : mem 132 5 = 138 := h (132, 5, 138) (List.mem_of_getElem? (i := 129) rfl)
theorem pt_139_0 {mem : rt_M} (h : rq_st mem) : mem 139 0 = 140 := h (139, 0, 140) (List.mem_of_getElem? (i := 130) rfl)
theorem pt_139_1 {mem : rt_M} (h : rq_st mem) : mem 139 1 = 141 := h (139, 1, 141) (List.mem_of_getElem? (i := 131) rfl)
theorem pt_139_2 {mem : rt_M} (h : rq_st mem) : mem 139 2 = 142 := h (139, 2, 142) (List.mem_of_getElem? (i := 132) rfl)
theorem pt_139_3 {mem : rt_M} (h : rq_st mem) : mem 139 3 = 143 := h (139, 3, 143) (List.mem_of_getElem? (i := 133) rfl)
theorem pt_139_4 {mem : rt_M} (h : rq_st mem) : mem 139 4 = 144 := h (139, 4, 144) (List.mem_of_getElem? (i := 134) rfl)
theorem pt_139_5 {mem : rt_M} (h : rq_st mem) : mem 139 5 = 145 := h (139, 5, 145) (List.mem_of_getElem? (i := 135) rfl)
theorem pt_139_6 {mem : rt_M} (h : rq_st mem) : mem 139 6 = 146 := h (139, 6, 146) (List.mem_of_getElem? (i := 136) rfl)
theorem pt_148_0 {mem : rt_M} (h : rq_st mem) : mem 148 0 = 149 := h (148, 0, 149) (List.mem_of_getElem? (i := 137) rfl)
theorem pt_148_1 {mem : rt_M} (h : rq_st mem) : mem 148 1 = 152 := h (148, 1, 152) (List.mem_of_getElem? (i := 138) rfl)
theorem pt_148_2 {mem : rt_M} (h : rq_st mem) : mem 148 2 = 156 := h (148, 2, 156) (List.mem_of_getElem? (i := 139) rfl)
theorem pt_148_3 {mem : rt_M} (h : rq_st mem) : mem 148 3 = 160 := h (148, 3, 160) (List.mem_of_getElem? (i := 140) rfl)
theorem pt_149_1 {mem : rt_M} (h : rq_st mem) : mem 149 1 = 150 := h (149, 1, 150) (List.mem_of_getElem? (i := 141) rfl)
theorem pt_149_2 {mem : rt_M} (h : rq_st mem) : mem 149 2 = 151 := h (149, 2, 151) (List.mem_of_getElem? (i := 142) rfl)
theorem pt_152_1 {mem : rt_M} (h : rq_st mem) : mem 152 1 = 153 := h (152, 1, 153) (List.mem_of_getElem? (i := 143) rfl)
theorem pt_152_2 {mem : rt_M} (h : rq_st mem) : mem 152 2 = 154 := h (152, 2, 154) (List.mem_of_getElem? (i := 144) rfl)
theorem pt_152_3 {mem : rt_M} (h : rq_st mem) : mem 152 3 = 155 := h (152, 3, 155) (List.mem_of_getElem? (i := 145) rfl)
theorem pt_156_1 {mem : rt_M} (h : rq_st mem) : mem 156 1 = 157 := h (156, 1, 157) (List.mem_of_getElem? (i := 146) rfl)
theorem pt_156_2 {mem : rt_M} (h : rq_st mem) : mem 156 2 = 158 := h (156, 2, 158) (List.mem_of_getElem? (i := 147) rfl)
theorem pt_156_3 {mem : rt_M} (h : rq_st mem) : mem 156 3 = 159 := h (156, 3, 159) (List.mem_of_getElem? (i := 148) rfl)
theorem pt_161_0 {mem : rt_M} (h : rq_st mem) : mem 161 0 = 162 := h (161, 0, 162) (List.mem_of_getElem? (i := 149) rfl)
theorem pt_161_1 {mem : rt_M} (h : rq_st mem) : mem 161 1 = 165 := h (161, 1, 165) (List.mem_of_getElem? (i := 150) rfl)
theorem pt_161_2 {mem : rt_M} (h : rq_st mem) : mem 161 2 = 169 := h (161, 2, 169) (List.mem_of_getElem? (i := 151) rfl)
theorem pt_161_3 {mem : rt_M} (h : rq_st mem) : mem 161 3 = 173 := h (161, 3, 173) (List.mem_of_getElem? (i := 152) rfl)
theorem pt_162_1 {mem : rt_M} (h : rq_st mem) : mem 162 1 = 163 := h (162, 1, 163) (List.mem_of_getElem? (i := 153) rfl)
theorem pt_162_2 {mem : rt_M} (h : rq_st mem) : mem 162 2 = 164 := h (162, 2, 164) (List.mem_of_getElem? (i := 154) rfl)
theorem pt_165_1 {mem : rt_M} (h : rq_st mem) : mem 165 1 = 166 := h (165, 1, 166) (List.mem_of_getElem? (i := 155) rfl)
theorem pt_165_2 {mem : rt_M} (h : rq_st mem) : mem 165 2 = 167 := h (165, 2, 167) (List.mem_of_getElem? (i := 156) rfl)
theorem pt_165_3 {mem : rt_M} (h : rq_st mem) : mem 165 3 = 168 := h (165, 3, 168) (List.mem_of_getElem? (i := 157) rfl)
theorem pt_169_1 {mem : rt_M} (h : rq_st mem) : mem 169 1 = 170 := h (169, 1, 170) (List.mem_of_getElem? (i := 158) rfl)
theorem pt_169_2 {mem : rt_M} (h : rq_st mem) : mem 169 2 = 171 := h (169, 2, 171) (List.mem_of_getElem? (i := 159) rfl)
theorem pt_169_3 {mem : rt_M} (h : rq_st mem) : mem 169 3 = 172 := h (169, 3, 172) (List.mem_of_getElem? (i := 160) rfl)
theorem pt_174_0 {mem : rt_M} (h : rq_st mem) : mem 174 0 = 175 := h (174, 0, 175) (List.mem_of_getElem? (i := 161) rfl)
theorem pt_174_1 {mem : rt_M} (h : rq_st mem) : mem 174 1 = 178 := h (174, 1, 178) (List.mem_of_getElem? (i := 162) rfl)
theorem pt_174_2 {mem : rt_M} (h : rq_st mem) : mem 174 2 = 182 := h (174, 2, 182) (List.mem_of_getElem? (i := 163) rfl)
theorem pt_174_3 {mem : rt_M} (h : rq_st mem) : mem 174 3 = 186 := h (174, 3, 186) (List.mem_of_getElem? (i := 164) rfl)
theorem pt_175_1 {mem : rt_M} (h : rq_st mem) : mem 175 1 = 176 := h (175, 1, 176) (List.mem_of_getElem? (i := 165) rfl)
theorem pt_175_2 {mem : rt_M} (h : rq_st mem) : mem 175 2 = 177 := h (175, 2, 177) (List.mem_of_getElem? (i := 166) rfl)
theorem pt_178_1 {mem : rt_M} (h : rq_st mem) : mem 178 1 = 179 := h (178, 1, 179) (List.mem_of_getElem? (i := 167) rfl)
theorem pt_178_2 {mem : rt_M} (h : rq_st mem) : mem 178 2 = 180 := h (178, 2, 180) (List.mem_of_getElem? (i := 168) rfl)
theorem pt_178_3 {mem : rt_M} (h : rq_st mem) : mem 178 3 = 181 := h (178, 3, 181) (List.mem_of_getElem? (i := 169) rfl)
theorem pt_182_1 {mem : rt_M} (h : rq_st mem) : mem 182 1 = 183 := h (182, 1, 183) (List.mem_of_getElem? (i := 170) rfl)
theorem pt_182_2 {mem : rt_M} (h : rq_st mem) : mem 182 2 = 184 := h (182, 2, 184) (List.mem_of_getElem? (i := 171) rfl)
theorem pt_182_3 {mem : rt_M} (h : rq_st mem) : mem 182 3 = 185 := h (182, 3, 185) (List.mem_of_getElem? (i := 172) rfl)
theorem pt_187_0 {mem : rt_M} (h : rq_st mem) : mem 187 0 = 188 := h (187, 0, 188) (List.mem_of_getElem? (i := 173) rfl)
theorem pt_187_1 {mem : rt_M} (h : rq_st mem) : mem 187 1 = 191 := h (187, 1, 191) (List.mem_of_getElem? (i := 174) rfl)
theorem pt_187_2 {mem : rt_M} (h : rq_st mem) : mem 187 2 = 195 := h (187, 2, 195) (List.mem_of_getElem? (i := 175) rfl)
theorem pt_187_3 {mem : rt_M} (h : rq_st mem) : mem 187 3 = 199 := h (187, 3, 199) (List.mem_of_getElem? (i := 176) rfl)
theorem pt_188_1 {mem : rt_M} (h : rq_st mem) : mem 188 1 = 189 := h (188, 1, 189) (List.mem_of_getElem? (i := 177) rfl)
theorem pt_188_2 {mem : rt_M} (h : rq_st mem) : mem 188 2 = 190 := h (188, 2, 190) (List.mem_of_getElem? (i := 178) rfl)
theorem pt_191_1 {mem : rt_M} (h : rq_st mem) : mem 191 1 = 192 := h (191, 1, 192) (List.mem_of_getElem? (i := 179) rfl)
theorem pt_191_2 {mem : rt_M} (h : rq_st mem) : mem 191 2 = 193 := h (191, 2, 193) (List.mem_of_getElem? (i := 180) rfl)
theorem pt_191_3 {mem : rt_M} (h : rq_st mem) : mem 191 3 = 194 := h (191, 3, 194) (List.mem_of_getElem? (i := 181) rfl)
theorem pt_195_1 {mem : rt_M} (h : rq_st mem) : mem 195 1 = 196 := h (195, 1, 196) (List.mem_of_getElem? (i := 182) rfl)
theorem pt_195_2 {mem : rt_M} (h : rq_st mem) : mem 195 2 = 197 := h (195, 2, 197) (List.mem_of_getElem? (i := 183) rfl)
theorem pt_195_3 {mem : rt_M} (h : rq_st mem) : mem 195 3 = 198 := h (195, 3, 198) (List.mem_of_getElem? (i := 184) rfl)
theorem pt_200_1 {mem : rt_M} (h : rq_st mem) : mem 200 1 = 201 := h (200, 1, 201) (List.mem_of_getElem? (i := 185) rfl)
theorem pt_200_2 {mem : rt_M} (h : rq_st mem) : mem 200 2 = 202 := h (200, 2, 202) (List.mem_of_getElem? (i := 186) rfl)
theorem pt_203_1 {mem : rt_M} (h : rq_st mem) : mem 203 1 = 204 := h (203, 1, 204) (List.mem_of_getElem? (i := 187) rfl)
theorem pt_203_2 {mem : rt_M} (h : rq_st mem) : mem 203 2 = 205 := h (203, 2, 205) (List.mem_of_getElem? (i := 188) rfl)
theorem pt_206_1 {mem : rt_M} (h : rq_st mem) : mem 206 1 = 207 := h (206, 1, 207) (List.mem_of_getElem? (i := 189) rfl)
theorem pt_206_2 {mem : rt_M} (h : rq_st mem) : mem 206 2 = 208 := h (206, 2, 208) (List.mem_of_getElem? (i := 190) rfl)
theorem pt_209_1 {mem : rt_M} (h : rq_st mem) : mem 209 1 = 210 := h (209, 1, 210) (List.mem_of_getElem? (i := 191) rfl)
theorem pt_209_2 {mem : rt_M} (h : rq_st mem) : mem 209 2 = 211 := h (209, 2, 211) (List.mem_of_getElem? (i := 192) rfl)
theorem pt_212_1 {mem : rt_M} (h : rq_st mem) : mem 212 1 = 213 := h (212, 1, 213) (List.mem_of_getElem? (i := 193) rfl)
theorem pt_212_2 {mem : rt_M} (h : rq_st mem) : mem 212 2 = 214 := h (212, 2, 214) (List.mem_of_getElem? (i := 194) rfl)
theorem pt_215_1 {mem : rt_M} (h : rq_st mem) : mem 215 1 = 216 := h (215, 1, 216) (List.mem_of_getElem? (i := 195) rfl)
theorem pt_215_2 {mem : rt_M} (h : rq_st mem) : mem 215 2 = 217 := h (215, 2, 217) (List.mem_of_getElem? (i := 196) rfl)
theorem pt_218_1 {mem : rt_M} (h : rq_st mem) : mem 218 1 = 219 := h (218, 1, 219) (List.mem_of_getElem? (i := 197) rfl)
theorem pt_218_2 {mem : rt_M} (h : rq_st mem) : mem 218 2 = 220 := h (218, 2, 220) (List.mem_of_getElem? (i := 198) rfl)
theorem pt_221_1 {mem : rt_M} (h : rq_st mem) : mem 221 1 = 222 := h (221, 1, 222) (List.mem_of_getElem? (i := 199) rfl)
theorem pt_221_2 {mem : rt_M} (h : rq_st mem) : mem 221 2 = 223 := h (221, 2, 223) (List.mem_of_getElem? (i := 200) rfl)
theorem pt_224_1 {mem : rt_M} (h : rq_st mem) : mem 224 1 = 225 := h (224, 1, 225) (List.mem_of_getElem? (i := 201) rfl)
theorem pt_224_2 {mem : rt_M} (h : rq_st mem) : mem 224 2 = 226 := h (224, 2, 226) (List.mem_of_getElem? (i := 202) rfl)
theorem pt_227_1 {mem : rt_M} (h : rq_st mem) : mem 227 1 = 228 := h (227, 1, 228) (List.mem_of_getElem? (i := 203) rfl)
theorem pt_227_2 {mem : rt_M} (h : rq_st mem) : mem 227 2 = 229 := h (227, 2, 229) (List.mem_of_getElem? (i := 204) rfl)
theorem pt_230_1 {mem : rt_M} (h : rq_st mem) : mem 230 1 = 231 := h (230, 1, 231) (List.mem_of_getElem? (i := 205) rfl)
theorem pt_230_2 {mem : rt_M} (h : rq_st mem) : mem 230 2 = 232 := h (230, 2, 232) (List.mem_of_getElem? (i := 206) rfl)
theorem pt_233_1 {mem : rt_M} (h : rq_st mem) : mem 233 1 = 234 := h (233, 1, 234) (List.mem_of_getElem? (i := 207) rfl)
theorem pt_233_2 {mem : rt_M} (h : rq_st mem) : mem 233 2 = 235 := h (233, 2, 235) (List.mem_of_getElem? (i := 208) rfl)
theorem pt_236_1 {mem : rt_M} (h : rq_st mem) : mem 236 1 = 237 := h (236, 1, 237) (List.mem_of_getElem? (i := 209) rfl)
theorem pt_236_2 {mem : rt_M} (h : rq_st mem) : mem 236 2 = 238 := h (236, 2, 238) (List.mem_of_getElem? (i := 210) rfl)
theorem pt_239_1 {mem : rt_M} (h : rq_st mem) : mem 239 1 = 240 := h (239, 1, 240) (List.mem_of_getElem? (i := 211) rfl)
theorem pt_239_2 {mem : rt_M} (h : rq_st mem) : mem 239 2 = 241 := h (239, 2, 241) (List.mem_of_getElem? (i := 212) rfl)
theorem pt_242_1 {mem : rt_M} (h : rq_st mem) : mem 242 1 = 243 := h (242, 1, 243) (List.mem_of_getElem? (i := 213) rfl)
theorem pt_242_2 {mem : rt_M} (h : rq_st mem) : mem 242 2 = 244 := h (242, 2, 244) (List.mem_of_getElem? (i := 214) rfl)
theorem pt_245_1 {mem : rt_M} (h : rq_st mem) : mem 245 1 = 246 := h (245, 1, 246) (List.mem_of_getElem? (i := 215) rfl)
theorem pt_245_2 {mem : rt_M} (h : rq_st mem) : mem 245 2 = 247 := h (245, 2, 247) (List.mem_of_getElem? (i := 216) rfl)
theorem pt_248_2 {mem : rt_M} (h : rq_st mem) : mem 248 2 = 249 := h (248, 2, 249) (List.mem_of_getElem? (i := 217) rfl)
theorem pt_248_10 {mem : rt_M} (h : rq_st mem) : mem 248 10 = 250 := h (248, 10, 250) (List.mem_of_getElem? (i := 218) rfl)
theorem pt_248_11 {mem : rt_M} (h : rq_st mem) : mem 248 11 = 251 := h (248, 11, 251) (List.mem_of_getElem? (i := 219) rfl)
theorem pt_248_12 {mem : rt_M} (h : rq_st mem) : mem 248 12 = 252 := h (248, 12, 252) (List.mem_of_getElem? (i := 220) rfl)
theorem pt_248_13 {mem : rt_M} (h : rq_st mem) : mem 248 13 = 253 := h (248, 13, 253) (List.mem_of_getElem? (i := 221) rfl)
theorem pt_248_14 {mem : rt_M} (h : rq_st mem) : mem 248 14 = 254 := h (248, 14, 254) (List.mem_of_getElem? (i := 222) rfl)
theorem pt_248_15 {mem : rt_M} (h : rq_st mem) : mem 248 15 = 255 := h (248, 15, 255) (List.mem_of_getElem? (i := 223) rfl)
theorem pt_248_16 {mem : rt_M} (h : rq_st mem) : mem 248 16 = 256 := h (248, 16, 256) (List.mem_of_getElem? (i := 224) rfl)
theorem pt_248_17 {mem : rt_M} (h : rq_st mem) : mem 248 17 = 257 := h (248, 17, 257) (List.mem_of_getElem? (i := 225) rfl)
theorem pt_248_18 {mem : rt_M} (h : rq_st mem) : mem 248 18 = 258 := h (248, 18, 258) (List.mem_of_getElem? (i := 226) rfl)
theorem pt_248_19 {mem : rt_M} (h : rq_st mem) : mem 248 19 = 259 := h (248, 19, 259) (List.mem_of_getElem? (i := 227) rfl)
theorem pt_248_20 {mem : rt_M} (h : rq_st mem) : mem 248 20 = 260 := h (248, 20, 260) (List.mem_of_getElem? (i := 228) rfl)
theorem pt_248_21 {mem : rt_M} (h : rq_st mem) : mem 248 21 = 261 := h (248, 21, 261) (List.mem_of_getElem? (i := 229) rfl)
theorem pt_248_22 {mem : rt_M} (h : rq_st mem) : mem 248 22 = 262 := h (248, 22, 262) (List.mem_of_getElem? (i := 230) rfl)
theorem pt_248_23 {mem : rt_M} (h : rq_st mem) : mem 248 23 = 263 := h (248, 23, 263) (List.mem_of_getElem? (i := 231) rfl)
theorem pt_248_27 {mem : rt_M} (h : rq_st mem) : mem 248 27 = 264 := h (248, 27, 264) (List.mem_of_getElem? (i := 232) rfl)
theorem pt_248_28 {mem : rt_M} (h : rq_st mem) : mem 248 28 = 265 := h (248, 28, 265) (List.mem_of_getElem? (i := 233) rfl)
theorem pt_248_29 {mem : rt_M} (h : rq_st mem) : mem 248 29 = 266 := h (248, 29, 266) (List.mem_of_getElem? (i := 234) rfl)
theorem pt_248_30 {mem : rt_M} (h : rq_st mem) : mem 248 30 = 267 := h (248, 30, 267) (List.mem_of_getElem? (i := 235) rfl)
theorem pt_248_31 {mem : rt_M} (h : rq_st mem) : mem 248 31 = 268 := h (248, 31, 268) (List.mem_of_getElem? (i := 236) rfl)
theorem pt_248_32 {mem : rt_M} (h : rq_st mem) : mem 248 32 = 269 := h (248, 32, 269) (List.mem_of_getElem? (i := 237) rfl)
theorem pt_248_33 {mem : rt_M} (h : rq_st mem) : mem 248 33 = 270 := h (248, 33, 270) (List.mem_of_getElem? (i := 238) rfl)
theorem pt_248_34 {mem : rt_M} (h : rq_st mem) : mem 248 34 = 271 := h (248, 34, 271) (List.mem_of_getElem? (i := 239) rfl)
theorem pt_248_35 {mem : rt_M} (h : rq_st mem) : mem 248 35 = 272 := h (248, 35, 272) (List.mem_of_getElem? (i := 240) rfl)
theorem pt_248_36 {mem : rt_M} (h : rq_st mem) : mem 248 36 = 273 := h (248, 36, 273) (List.mem_of_getElem? (i := 241) rfl)
theorem pt_248_37 {mem : rt_M} (h : rq_st mem) : mem 248 37 = 274 := h (248, 37, 274) (List.mem_of_getElem? (i := 242) rfl)
theorem pt_248_38 {mem : rt_M} (h : rq_st mem) : mem 248 38 = 275 := h (248, 38, 275) (List.mem_of_getElem? (i := 243) rfl)
theorem pt_248_41 {mem : rt_M} (h : rq_st mem) : mem 248 41 = 276 := h (248, 41, 276) (List.mem_of_getElem? (i := 244) rfl)
theorem pt_248_42 {mem : rt_M} (h : rq_st mem) : mem 248 42 = 277 := h (248, 42, 277) (List.mem_of_getElem? (i := 245) rfl)
theorem pt_248_43 {mem : rt_M} (h : rq_st mem) : mem 248 43 = 278 := h (248, 43, 278) (List.mem_of_getElem? (i := 246) rfl)
theorem pt_248_44 {mem : rt_M} (h : rq_st mem) : mem 248 44 = 279 := h (248, 44, 279) (List.mem_of_getElem? (i := 247) rfl)
theorem pt_248_45 {mem : rt_M} (h : rq_st mem) : mem 248 45 = 280 := h (248, 45, 280) (List.mem_of_getElem? (i := 248) rfl)
theorem pt_248_46 {mem : rt_M} (h : rq_st mem) : mem 248 46 = 281 := h (248, 46, 281) (List.mem_of_getElem? (i := 249) rfl)
theorem pt_248_47 {mem : rt_M} (h : rq_st mem) : mem 248 47 = 282 := h (248, 47, 282) (List.mem_of_getElem? (i := 250) rfl)
theorem pt_248_48 {mem : rt_M} (h : rq_st mem) : mem 248 48 = 283 := h (248, 48, 283) (List.mem_of_getElem? (i := 251) rfl)
theorem pt_248_49 {mem : rt_M} (h : rq_st mem) : mem 248 49 = 284 := h (248, 49, 284) (List.mem_of_getElem? (i := 252) rfl)
theorem pt_248_50 {mem : rt_M} (h : rq_st mem) : mem 248 50 = 285 := h (248, 50, 285) (List.mem_of_getElem? (i := 253) rfl)
theorem pt_248_51 {mem : rt_M} (h : rq_st mem) : mem 248 51 = 286 := h (248, 51, 286) (List.mem_of_getElem? (i := 254) rfl)
theorem pt_248_52 {mem : rt_M} (h : rq_st mem) : mem 248 52 = 287 := h (248, 52, 287) (List.mem_of_getElem? (i := 255) rfl)
theorem pt_248_53 {mem : rt_M} (h : rq_st mem) : mem 248 53 = 288 := h (248, 53, 288) (List.mem_of_getElem? (i := 256) rfl)
theorem pt_248_54 {mem : rt_M} (h : rq_st mem) : mem 248 54 = 289 := h (248, 54, 289) (List.mem_of_getElem? (i := 257) rfl)
theorem pt_248_56 {mem : rt_M} (h : rq_st mem) : mem 248 56 = 290 := h (248, 56, 290) (List.mem_of_getElem? (i := 258) rfl)
theorem pt_248_57 {mem : rt_M} (h : rq_st mem) : mem 248 57 = 291 := h (248, 57, 291) (List.mem_of_getElem? (i := 259) rfl)
theorem pt_248_60 {mem : rt_M} (h : rq_st mem) : mem 248 60 = 292 := h (248, 60, 292) (List.mem_of_getElem? (i := 260) rfl)
theorem pt_248_61 {mem : rt_M} (h : rq_st mem) : mem 248 61 = 293 := h (248, 61, 293) (List.mem_of_getElem? (i := 261) rfl)
theorem pt_248_62 {mem : rt_M} (h : rq_st mem) : mem 248 62 = 294 := h (248, 62, 294) (List.mem_of_getElem? (i := 262) rfl)
theorem pt_248_63 {mem : rt_M} (h : rq_st mem) : mem 248 63 = 295 := h (248, 63, 295) (List.mem_of_getElem? (i := 263) rfl)
theorem pt_248_66 {mem : rt_M} (h : rq_st mem) : mem 248 66 = 296 := h (248, 66, 296) (List.mem_of_getElem? (i := 264) rfl)
theorem pt_248_68 {mem : rt_M} (h : rq_st mem) : mem 248 68 = 297 := h (248, 68, 297) (List.mem_of_getElem? (i := 265) rfl)
theorem pt_248_69 {mem : rt_M} (h : rq_st mem) : mem 248 69 = 298 := h (248, 69, 298) (List.mem_of_getElem? (i := 266) rfl)
theorem pt_248_70 {mem : rt_M} (h : rq_st mem) : mem 248 70 = 299 := h (248, 70, 299) (List.mem_of_getElem? (i := 267) rfl)

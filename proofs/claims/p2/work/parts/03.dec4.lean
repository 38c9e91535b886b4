theorem db4_1 : (decode cX3_digest 98 = .ok (.aload_n 0, 1)) ∧ (decode cX3_digest 99 = .ok (.iload_n 3, 1)) ∧ (decode cX3_digest 100 = .ok (.invokevirtual 235, 3)) ∧ (decode cX3_digest 103 = .ok (.iastore, 1)) ∧ (decode cX3_digest 104 = .ok (.dup, 1)) ∧ (decode cX3_digest 105 = .ok (.iconst 5, 1)) ∧ (decode cX3_digest 106 = .ok (.aload_n 0, 1)) ∧ (decode cX3_digest 107 = .ok (.getfield 11, 3)) ∧ (decode cX3_digest 110 = .ok (.iload_n 3, 1)) ∧ (decode cX3_digest 111 = .ok (.aaload, 1)) ∧ (decode cX3_digest 112 = .ok (.iconst 0, 1)) ∧ (decode cX3_digest 113 = .ok (.iaload, 1)) ∧ (decode cX3_digest 114 = .ok (.invokestatic 54, 3)) ∧ (decode cX3_digest 117 = .ok (.iastore, 1)) ∧ (decode cX3_digest 118 = .ok (.dup, 1)) ∧ (decode cX3_digest 119 = .ok (.bipush 6, 2)) := by decide +kernel
theorem dX3_digest_98 : decode cX3_digest 98 = .ok (.aload_n 0, 1) := db4_1.1
theorem dX3_digest_99 : decode cX3_digest 99 = .ok (.iload_n 3, 1) := db4_1.2.1
theorem dX3_digest_100 : decode cX3_digest 100 = .ok (.invokevirtual 235, 3) := db4_1.2.2.1
theorem dX3_digest_103 : decode cX3_digest 103 = .ok (.iastore, 1) := db4_1.2.2.2.1
theorem dX3_digest_104 : decode cX3_digest 104 = .ok (.dup, 1) := db4_1.2.2.2.2.1
theorem dX3_digest_105 : decode cX3_digest 105 = .ok (.iconst 5, 1) := db4_1.2.2.2.2.2.1
theorem dX3_digest_106 : decode cX3_digest 106 = .ok (.aload_n 0, 1) := db4_1.2.2.2.2.2.2.1
theorem dX3_digest_107 : decode cX3_digest 107 = .ok (.getfield 11, 3) := db4_1.2.2.2.2.2.2.2.1
theorem dX3_digest_110 : decode cX3_digest 110 = .ok (.iload_n 3, 1) := db4_1.2.2.2.2.2.2.2.2.1
theorem dX3_digest_111 : decode cX3_digest 111 = .ok (.aaload, 1) := db4_1.2.2.2.2.2.2.2.2.2.1
theorem dX3_digest_112 : decode cX3_digest 112 = .ok (.iconst 0, 1) := db4_1.2.2.2.2.2.2.2.2.2.2.1
theorem dX3_digest_113 : decode cX3_digest 113 = .ok (.iaload, 1) := db4_1.2.2.2.2.2.2.2.2.2.2.2.1
theorem dX3_digest_114 : decode cX3_digest 114 = .ok (.invokestatic 54, 3) := db4_1.2.2.2.2.2.2.2.2.2.2.2.2.1
theorem dX3_digest_117 : decode cX3_digest 117 = .ok (.iastore, 1) := db4_1.2.2.2.2.2.2.2.2.2.2.2.2.2.1
theorem dX3_digest_118 : decode cX3_digest 118 = .ok (.dup, 1) := db4_1.2.2.2.2.2.2.2.2.2.2.2.2.2.2.1
theorem dX3_digest_119 : decode cX3_digest 119 = .ok (.bipush 6, 2) := db4_1.2.2.2.2.2.2.2.2.2.2.2.2.2.2.2
theorem db4_2 : (decode cX3_digest 121 = .ok (.aload_n 0, 1)) ∧ (decode cX3_digest 122 = .ok (.getfield 11, 3)) ∧ (decode cX3_digest 125 = .ok (.iload_n 3, 1)) ∧ (decode cX3_digest 126 = .ok (.aaload, 1)) ∧ (decode cX3_digest 127 = .ok (.iconst 0, 1)) ∧ (decode cX3_digest 128 = .ok (.iaload, 1)) ∧ (decode cX3_digest 129 = .ok (.bipush 12, 2)) ∧ (decode cX3_digest 131 = .ok (.invokestatic 35, 3)) ∧ (decode cX3_digest 134 = .ok (.invokestatic 42, 3)) ∧ (decode cX3_digest 137 = .ok (.invokestatic 121, 3)) ∧ (decode cX3_digest 140 = .ok (.iastore, 1)) ∧ (decode cX3_digest 141 = .ok (.dup, 1)) ∧ (decode cX3_digest 142 = .ok (.bipush 7, 2)) ∧ (decode cX3_digest 144 = .ok (.aload_n 0, 1)) ∧ (decode cX3_digest 145 = .ok (.iload_n 3, 1)) ∧ (decode cX3_digest 146 = .ok (.invokevirtual 248, 3)) := by decide +kernel
theorem dX3_digest_121 : decode cX3_digest 121 = .ok (.aload_n 0, 1) := db4_2.1
theorem dX3_digest_122 : decode cX3_digest 122 = .ok (.getfield 11, 3) := db4_2.2.1
theorem dX3_digest_125 : decode cX3_digest 125 = .ok (.iload_n 3, 1) := db4_2.2.2.1
theorem dX3_digest_126 : decode cX3_digest 126 = .ok (.aaload, 1) := db4_2.2.2.2.1
theorem dX3_digest_127 : decode cX3_digest 127 = .ok (.iconst 0, 1) := db4_2.2.2.2.2.1
theorem dX3_digest_128 : decode cX3_digest 128 = .ok (.iaload, 1) := db4_2.2.2.2.2.2.1
theorem dX3_digest_129 : decode cX3_digest 129 = .ok (.bipush 12, 2) := db4_2.2.2.2.2.2.2.1
theorem dX3_digest_131 : decode cX3_digest 131 = .ok (.invokestatic 35, 3) := db4_2.2.2.2.2.2.2.2.1
theorem dX3_digest_134 : decode cX3_digest 134 = .ok (.invokestatic 42, 3) := db4_2.2.2.2.2.2.2.2.2.1
theorem dX3_digest_137 : decode cX3_digest 137 = .ok (.invokestatic 121, 3) := db4_2.2.2.2.2.2.2.2.2.2.1
theorem dX3_digest_140 : decode cX3_digest 140 = .ok (.iastore, 1) := db4_2.2.2.2.2.2.2.2.2.2.2.1
theorem dX3_digest_141 : decode cX3_digest 141 = .ok (.dup, 1) := db4_2.2.2.2.2.2.2.2.2.2.2.2.1
theorem dX3_digest_142 : decode cX3_digest 142 = .ok (.bipush 7, 2) := db4_2.2.2.2.2.2.2.2.2.2.2.2.2.1
theorem dX3_digest_144 : decode cX3_digest 144 = .ok (.aload_n 0, 1) := db4_2.2.2.2.2.2.2.2.2.2.2.2.2.2.1
theorem dX3_digest_145 : decode cX3_digest 145 = .ok (.iload_n 3, 1) := db4_2.2.2.2.2.2.2.2.2.2.2.2.2.2.2.1
theorem dX3_digest_146 : decode cX3_digest 146 = .ok (.invokevirtual 248, 3) := db4_2.2.2.2.2.2.2.2.2.2.2.2.2.2.2.2
theorem db4_3 : (decode cX3_digest 149 = .ok (.invokevirtual 238, 3)) ∧ (decode cX3_digest 152 = .ok (.iastore, 1)) ∧ (decode cX3_digest 153 = .ok (.dup, 1)) ∧ (decode cX3_digest 154 = .ok (.bipush 8, 2)) ∧ (decode cX3_digest 156 = .ok (.aload_n 0, 1)) ∧ (decode cX3_digest 157 = .ok (.iload_n 3, 1)) ∧ (decode cX3_digest 158 = .ok (.iconst 1, 1)) ∧ (decode cX3_digest 159 = .ok (.invokevirtual 138, 3)) ∧ (decode cX3_digest 162 = .ok (.iastore, 1)) ∧ (decode cX3_digest 163 = .ok (.dup, 1)) ∧ (decode cX3_digest 164 = .ok (.bipush 9, 2)) ∧ (decode cX3_digest 166 = .ok (.aload_n 0, 1)) ∧ (decode cX3_digest 167 = .ok (.iload_n 3, 1)) ∧ (decode cX3_digest 168 = .ok (.iconst (-1), 1)) ∧ (decode cX3_digest 169 = .ok (.invokevirtual 138, 3)) ∧ (decode cX3_digest 172 = .ok (.iastore, 1)) := by decide +kernel
theorem dX3_digest_149 : decode cX3_digest 149 = .ok (.invokevirtual 238, 3) := db4_3.1
theorem dX3_digest_152 : decode cX3_digest 152 = .ok (.iastore, 1) := db4_3.2.1
theorem dX3_digest_153 : decode cX3_digest 153 = .ok (.dup, 1) := db4_3.2.2.1
theorem dX3_digest_154 : decode cX3_digest 154 = .ok (.bipush 8, 2) := db4_3.2.2.2.1
theorem dX3_digest_156 : decode cX3_digest 156 = .ok (.aload_n 0, 1) := db4_3.2.2.2.2.1
theorem dX3_digest_157 : decode cX3_digest 157 = .ok (.iload_n 3, 1) := db4_3.2.2.2.2.2.1
theorem dX3_digest_158 : decode cX3_digest 158 = .ok (.iconst 1, 1) := db4_3.2.2.2.2.2.2.1
theorem dX3_digest_159 : decode cX3_digest 159 = .ok (.invokevirtual 138, 3) := db4_3.2.2.2.2.2.2.2.1
theorem dX3_digest_162 : decode cX3_digest 162 = .ok (.iastore, 1) := db4_3.2.2.2.2.2.2.2.2.1
theorem dX3_digest_163 : decode cX3_digest 163 = .ok (.dup, 1) := db4_3.2.2.2.2.2.2.2.2.2.1
theorem dX3_digest_164 : decode cX3_digest 164 = .ok (.bipush 9, 2) := db4_3.2.2.2.2.2.2.2.2.2.2.1
theorem dX3_digest_166 : decode cX3_digest 166 = .ok (.aload_n 0, 1) := db4_3.2.2.2.2.2.2.2.2.2.2.2.1
theorem dX3_digest_167 : decode cX3_digest 167 = .ok (.iload_n 3, 1) := db4_3.2.2.2.2.2.2.2.2.2.2.2.2.1
theorem dX3_digest_168 : decode cX3_digest 168 = .ok (.iconst (-1), 1) := db4_3.2.2.2.2.2.2.2.2.2.2.2.2.2.1
theorem dX3_digest_169 : decode cX3_digest 169 = .ok (.invokevirtual 138, 3) := db4_3.2.2.2.2.2.2.2.2.2.2.2.2.2.2.1
theorem dX3_digest_172 : decode cX3_digest 172 = .ok (.iastore, 1) := db4_3.2.2.2.2.2.2.2.2.2.2.2.2.2.2.2
theorem db4_4 : (decode cX3_digest 173 = .ok (.dup, 1)) ∧ (decode cX3_digest 174 = .ok (.bipush 10, 2)) ∧ (decode cX3_digest 176 = .ok (.aload_n 0, 1)) ∧ (decode cX3_digest 177 = .ok (.iload_n 3, 1)) ∧ (decode cX3_digest 178 = .ok (.iconst 1, 1)) ∧ (decode cX3_digest 179 = .ok (.bipush 30, 2)) ∧ (decode cX3_digest 181 = .ok (.invokevirtual 143, 3)) ∧ (decode cX3_digest 184 = .ok (.iastore, 1)) ∧ (decode cX3_digest 185 = .ok (.dup, 1)) ∧ (decode cX3_digest 186 = .ok (.bipush 11, 2)) ∧ (decode cX3_digest 188 = .ok (.aload_n 0, 1)) ∧ (decode cX3_digest 189 = .ok (.iload_n 3, 1)) ∧ (decode cX3_digest 190 = .ok (.iload 4, 2)) ∧ (decode cX3_digest 192 = .ok (.invokevirtual 252, 3)) ∧ (decode cX3_digest 195 = .ok (.iastore, 1)) ∧ (decode cX3_digest 196 = .ok (.dup, 1)) := by decide +kernel
theorem dX3_digest_173 : decode cX3_digest 173 = .ok (.dup, 1) := db4_4.1
theorem dX3_digest_174 : decode cX3_digest 174 = .ok (.bipush 10, 2) := db4_4.2.1
theorem dX3_digest_176 : decode cX3_digest 176 = .ok (.aload_n 0, 1) := db4_4.2.2.1
theorem dX3_digest_177 : decode cX3_digest 177 = .ok (.iload_n 3, 1) := db4_4.2.2.2.1
theorem dX3_digest_178 : decode cX3_digest 178 = .ok (.iconst 1, 1) := db4_4.2.2.2.2.1
theorem dX3_digest_179 : decode cX3_digest 179 = .ok (.bipush 30, 2) := db4_4.2.2.2.2.2.1
theorem dX3_digest_181 : decode cX3_digest 181 = .ok (.invokevirtual 143, 3) := db4_4.2.2.2.2.2.2.1
theorem dX3_digest_184 : decode cX3_digest 184 = .ok (.iastore, 1) := db4_4.2.2.2.2.2.2.2.1
theorem dX3_digest_185 : decode cX3_digest 185 = .ok (.dup, 1) := db4_4.2.2.2.2.2.2.2.2.1
theorem dX3_digest_186 : decode cX3_digest 186 = .ok (.bipush 11, 2) := db4_4.2.2.2.2.2.2.2.2.2.1
theorem dX3_digest_188 : decode cX3_digest 188 = .ok (.aload_n 0, 1) := db4_4.2.2.2.2.2.2.2.2.2.2.1
theorem dX3_digest_189 : decode cX3_digest 189 = .ok (.iload_n 3, 1) := db4_4.2.2.2.2.2.2.2.2.2.2.2.1
theorem dX3_digest_190 : decode cX3_digest 190 = .ok (.iload 4, 2) := db4_4.2.2.2.2.2.2.2.2.2.2.2.2.1
theorem dX3_digest_192 : decode cX3_digest 192 = .ok (.invokevirtual 252, 3) := db4_4.2.2.2.2.2.2.2.2.2.2.2.2.2.1
theorem dX3_digest_195 : decode cX3_digest 195 = .ok (.iastore, 1) := db4_4.2.2.2.2.2.2.2.2.2.2.2.2.2.2.1
theorem dX3_digest_196 : decode cX3_digest 196 = .ok (.dup, 1) := db4_4.2.2.2.2.2.2.2.2.2.2.2.2.2.2.2
theorem db4_5 : (decode cX3_digest 197 = .ok (.bipush 12, 2)) ∧ (decode cX3_digest 199 = .ok (.aload_n 0, 1)) ∧ (decode cX3_digest 200 = .ok (.iload_n 3, 1)) ∧ (decode cX3_digest 201 = .ok (.iload 4, 2)) ∧ (decode cX3_digest 203 = .ok (.invokevirtual 232, 3)) ∧ (decode cX3_digest 206 = .ok (.iastore, 1)) ∧ (decode cX3_digest 207 = .ok (.astore 5, 2)) ∧ (decode cX3_digest 209 = .ok (.aload 5, 2)) ∧ (decode cX3_digest 211 = .ok (.astore 6, 2)) ∧ (decode cX3_digest 213 = .ok (.aload 6, 2)) ∧ (decode cX3_digest 215 = .ok (.arraylength, 1)) ∧ (decode cX3_digest 216 = .ok (.istore 7, 2)) ∧ (decode cX3_digest 218 = .ok (.iconst 0, 1)) ∧ (decode cX3_digest 219 = .ok (.istore 8, 2)) ∧ (decode cX3_digest 221 = .ok (.iload 8, 2)) ∧ (decode cX3_digest 223 = .ok (.iload 7, 2)) := by decide +kernel
theorem dX3_digest_197 : decode cX3_digest 197 = .ok (.bipush 12, 2) := db4_5.1
theorem dX3_digest_199 : decode cX3_digest 199 = .ok (.aload_n 0, 1) := db4_5.2.1
theorem dX3_digest_200 : decode cX3_digest 200 = .ok (.iload_n 3, 1) := db4_5.2.2.1
theorem dX3_digest_201 : decode cX3_digest 201 = .ok (.iload 4, 2) := db4_5.2.2.2.1
theorem dX3_digest_203 : decode cX3_digest 203 = .ok (.invokevirtual 232, 3) := db4_5.2.2.2.2.1
theorem dX3_digest_206 : decode cX3_digest 206 = .ok (.iastore, 1) := db4_5.2.2.2.2.2.1
theorem dX3_digest_207 : decode cX3_digest 207 = .ok (.astore 5, 2) := db4_5.2.2.2.2.2.2.1
theorem dX3_digest_209 : decode cX3_digest 209 = .ok (.aload 5, 2) := db4_5.2.2.2.2.2.2.2.1
theorem dX3_digest_211 : decode cX3_digest 211 = .ok (.astore 6, 2) := db4_5.2.2.2.2.2.2.2.2.1
theorem dX3_digest_213 : decode cX3_digest 213 = .ok (.aload 6, 2) := db4_5.2.2.2.2.2.2.2.2.2.1
theorem dX3_digest_215 : decode cX3_digest 215 = .ok (.arraylength, 1) := db4_5.2.2.2.2.2.2.2.2.2.2.1
theorem dX3_digest_216 : decode cX3_digest 216 = .ok (.istore 7, 2) := db4_5.2.2.2.2.2.2.2.2.2.2.2.1
theorem dX3_digest_218 : decode cX3_digest 218 = .ok (.iconst 0, 1) := db4_5.2.2.2.2.2.2.2.2.2.2.2.2.1
theorem dX3_digest_219 : decode cX3_digest 219 = .ok (.istore 8, 2) := db4_5.2.2.2.2.2.2.2.2.2.2.2.2.2.1
theorem dX3_digest_221 : decode cX3_digest 221 = .ok (.iload 8, 2) := db4_5.2.2.2.2.2.2.2.2.2.2.2.2.2.2.1
theorem dX3_digest_223 : decode cX3_digest 223 = .ok (.iload 7, 2) := db4_5.2.2.2.2.2.2.2.2.2.2.2.2.2.2.2
theorem db4_6 : (decode cX3_digest 225 = .ok (.if_icmp .ge 26, 3)) ∧ (decode cX3_digest 228 = .ok (.aload 6, 2)) ∧ (decode cX3_digest 230 = .ok (.iload 8, 2)) ∧ (decode cX3_digest 232 = .ok (.iaload, 1)) ∧ (decode cX3_digest 233 = .ok (.istore 9, 2)) ∧ (decode cX3_digest 235 = .ok (.lload_n 1, 1)) ∧ (decode cX3_digest 236 = .ok (.ldc2_w 263, 3)) ∧ (decode cX3_digest 239 = .ok (.lmul, 1)) ∧ (decode cX3_digest 240 = .ok (.iload 9, 2)) ∧ (decode cX3_digest 242 = .ok (.i2l, 1)) ∧ (decode cX3_digest 243 = .ok (.ladd, 1)) ∧ (decode cX3_digest 244 = .ok (.lstore_n 1, 1)) ∧ (decode cX3_digest 245 = .ok (.iinc 8 1, 3)) ∧ (decode cX3_digest 248 = .ok (.goto (-27), 3)) ∧ (decode cX3_digest 251 = .ok (.iinc 3 1, 3)) ∧ (decode cX3_digest 254 = .ok (.goto (-217), 3)) := by decide +kernel
theorem dX3_digest_225 : decode cX3_digest 225 = .ok (.if_icmp .ge 26, 3) := db4_6.1
theorem dX3_digest_228 : decode cX3_digest 228 = .ok (.aload 6, 2) := db4_6.2.1
theorem dX3_digest_230 : decode cX3_digest 230 = .ok (.iload 8, 2) := db4_6.2.2.1
theorem dX3_digest_232 : decode cX3_digest 232 = .ok (.iaload, 1) := db4_6.2.2.2.1
theorem dX3_digest_233 : decode cX3_digest 233 = .ok (.istore 9, 2) := db4_6.2.2.2.2.1
theorem dX3_digest_235 : decode cX3_digest 235 = .ok (.lload_n 1, 1) := db4_6.2.2.2.2.2.1
theorem dX3_digest_236 : decode cX3_digest 236 = .ok (.ldc2_w 263, 3) := db4_6.2.2.2.2.2.2.1
theorem dX3_digest_239 : decode cX3_digest 239 = .ok (.lmul, 1) := db4_6.2.2.2.2.2.2.2.1
theorem dX3_digest_240 : decode cX3_digest 240 = .ok (.iload 9, 2) := db4_6.2.2.2.2.2.2.2.2.1
theorem dX3_digest_242 : decode cX3_digest 242 = .ok (.i2l, 1) := db4_6.2.2.2.2.2.2.2.2.2.1
theorem dX3_digest_243 : decode cX3_digest 243 = .ok (.ladd, 1) := db4_6.2.2.2.2.2.2.2.2.2.2.1
theorem dX3_digest_244 : decode cX3_digest 244 = .ok (.lstore_n 1, 1) := db4_6.2.2.2.2.2.2.2.2.2.2.2.1
theorem dX3_digest_245 : decode cX3_digest 245 = .ok (.iinc 8 1, 3) := db4_6.2.2.2.2.2.2.2.2.2.2.2.2.1
theorem dX3_digest_248 : decode cX3_digest 248 = .ok (.goto (-27), 3) := db4_6.2.2.2.2.2.2.2.2.2.2.2.2.2.1
theorem dX3_digest_251 : decode cX3_digest 251 = .ok (.iinc 3 1, 3) := db4_6.2.2.2.2.2.2.2.2.2.2.2.2.2.2.1
theorem dX3_digest_254 : decode cX3_digest 254 = .ok (.goto (-217), 3) := db4_6.2.2.2.2.2.2.2.2.2.2.2.2.2.2.2
theorem db4_7 : (decode cX3_digest 257 = .ok (.iconst 0, 1)) ∧ (decode cX3_digest 258 = .ok (.istore_n 3, 1)) ∧ (decode cX3_digest 259 = .ok (.iload_n 3, 1)) ∧ (decode cX3_digest 260 = .ok (.iconst 3, 1)) ∧ (decode cX3_digest 261 = .ok (.if_icmp .ge 39, 3)) ∧ (decode cX3_digest 264 = .ok (.iconst 0, 1)) ∧ (decode cX3_digest 265 = .ok (.istore 4, 2)) ∧ (decode cX3_digest 267 = .ok (.iload 4, 2)) ∧ (decode cX3_digest 269 = .ok (.iconst 4, 1)) ∧ (decode cX3_digest 270 = .ok (.if_icmp .ge 24, 3)) ∧ (decode cX3_digest 273 = .ok (.lload_n 1, 1)) ∧ (decode cX3_digest 274 = .ok (.ldc2_w 263, 3)) ∧ (decode cX3_digest 277 = .ok (.lmul, 1)) ∧ (decode cX3_digest 278 = .ok (.aload_n 0, 1)) ∧ (decode cX3_digest 279 = .ok (.iload_n 3, 1)) ∧ (decode cX3_digest 280 = .ok (.iload 4, 2)) := by decide +kernel
theorem dX3_digest_257 : decode cX3_digest 257 = .ok (.iconst 0, 1) := db4_7.1
theorem dX3_digest_258 : decode cX3_digest 258 = .ok (.istore_n 3, 1) := db4_7.2.1
theorem dX3_digest_259 : decode cX3_digest 259 = .ok (.iload_n 3, 1) := db4_7.2.2.1
theorem dX3_digest_260 : decode cX3_digest 260 = .ok (.iconst 3, 1) := db4_7.2.2.2.1
theorem dX3_digest_261 : decode cX3_digest 261 = .ok (.if_icmp .ge 39, 3) := db4_7.2.2.2.2.1
theorem dX3_digest_264 : decode cX3_digest 264 = .ok (.iconst 0, 1) := db4_7.2.2.2.2.2.1
theorem dX3_digest_265 : decode cX3_digest 265 = .ok (.istore 4, 2) := db4_7.2.2.2.2.2.2.1
theorem dX3_digest_267 : decode cX3_digest 267 = .ok (.iload 4, 2) := db4_7.2.2.2.2.2.2.2.1
theorem dX3_digest_269 : decode cX3_digest 269 = .ok (.iconst 4, 1) := db4_7.2.2.2.2.2.2.2.2.1
theorem dX3_digest_270 : decode cX3_digest 270 = .ok (.if_icmp .ge 24, 3) := db4_7.2.2.2.2.2.2.2.2.2.1
theorem dX3_digest_273 : decode cX3_digest 273 = .ok (.lload_n 1, 1) := db4_7.2.2.2.2.2.2.2.2.2.2.1
theorem dX3_digest_274 : decode cX3_digest 274 = .ok (.ldc2_w 263, 3) := db4_7.2.2.2.2.2.2.2.2.2.2.2.1
theorem dX3_digest_277 : decode cX3_digest 277 = .ok (.lmul, 1) := db4_7.2.2.2.2.2.2.2.2.2.2.2.2.1
theorem dX3_digest_278 : decode cX3_digest 278 = .ok (.aload_n 0, 1) := db4_7.2.2.2.2.2.2.2.2.2.2.2.2.2.1
theorem dX3_digest_279 : decode cX3_digest 279 = .ok (.iload_n 3, 1) := db4_7.2.2.2.2.2.2.2.2.2.2.2.2.2.2.1
theorem dX3_digest_280 : decode cX3_digest 280 = .ok (.iload 4, 2) := db4_7.2.2.2.2.2.2.2.2.2.2.2.2.2.2.2
theorem db4_8 : (decode cX3_digest 282 = .ok (.invokevirtual 132, 3)) ∧ (decode cX3_digest 285 = .ok (.i2l, 1)) ∧ (decode cX3_digest 286 = .ok (.ladd, 1)) ∧ (decode cX3_digest 287 = .ok (.lstore_n 1, 1)) ∧ (decode cX3_digest 288 = .ok (.iinc 4 1, 3)) ∧ (decode cX3_digest 291 = .ok (.goto (-24), 3)) ∧ (decode cX3_digest 294 = .ok (.iinc 3 1, 3)) ∧ (decode cX3_digest 297 = .ok (.goto (-38), 3)) ∧ (decode cX3_digest 300 = .ok (.lload_n 1, 1)) ∧ (decode cX3_digest 301 = .ok (.ldc2_w 263, 3)) ∧ (decode cX3_digest 304 = .ok (.lmul, 1)) ∧ (decode cX3_digest 305 = .ok (.lconst 1, 1)) ∧ (decode cX3_digest 306 = .ok (.ladd, 1)) ∧ (decode cX3_digest 307 = .ok (.lreturn, 1)) := by decide +kernel
theorem dX3_digest_282 : decode cX3_digest 282 = .ok (.invokevirtual 132, 3) := db4_8.1
theorem dX3_digest_285 : decode cX3_digest 285 = .ok (.i2l, 1) := db4_8.2.1
theorem dX3_digest_286 : decode cX3_digest 286 = .ok (.ladd, 1) := db4_8.2.2.1
theorem dX3_digest_287 : decode cX3_digest 287 = .ok (.lstore_n 1, 1) := db4_8.2.2.2.1
theorem dX3_digest_288 : decode cX3_digest 288 = .ok (.iinc 4 1, 3) := db4_8.2.2.2.2.1
theorem dX3_digest_291 : decode cX3_digest 291 = .ok (.goto (-24), 3) := db4_8.2.2.2.2.2.1
theorem dX3_digest_294 : decode cX3_digest 294 = .ok (.iinc 3 1, 3) := db4_8.2.2.2.2.2.2.1
theorem dX3_digest_297 : decode cX3_digest 297 = .ok (.goto (-38), 3) := db4_8.2.2.2.2.2.2.2.1
theorem dX3_digest_300 : decode cX3_digest 300 = .ok (.lload_n 1, 1) := db4_8.2.2.2.2.2.2.2.2.1
theorem dX3_digest_301 : decode cX3_digest 301 = .ok (.ldc2_w 263, 3) := db4_8.2.2.2.2.2.2.2.2.2.1
theorem dX3_digest_304 : decode cX3_digest 304 = .ok (.lmul, 1) := db4_8.2.2.2.2.2.2.2.2.2.2.1
theorem dX3_digest_305 : decode cX3_digest 305 = .ok (.lconst 1, 1) := db4_8.2.2.2.2.2.2.2.2.2.2.2.1
theorem dX3_digest_306 : decode cX3_digest 306 = .ok (.ladd, 1) := db4_8.2.2.2.2.2.2.2.2.2.2.2.2.1
theorem dX3_digest_307 : decode cX3_digest 307 = .ok (.lreturn, 1) := db4_8.2.2.2.2.2.2.2.2.2.2.2.2.2
theorem db4_9 : (decode cJ5_init_d00df 0 = .ok (.aload_n 0, 1)) ∧ (decode cJ5_init_d00df 1 = .ok (.invokespecial 3, 3)) ∧ (decode cJ5_init_d00df 4 = .ok (.getstatic 18, 3)) ∧ (decode cJ5_init_d00df 7 = .ok (.ifCond .eq 18, 3)) ∧ (decode cJ5_init_d00df 10 = .ok (.aload_n 0, 1)) ∧ (decode cJ5_init_d00df 11 = .ok (.iload_n 1, 1)) ∧ (decode cJ5_init_d00df 12 = .ok (.newarray .byte, 2)) ∧ (decode cJ5_init_d00df 14 = .ok (.putfield 15, 3)) ∧ (decode cJ5_init_d00df 17 = .ok (.aload_n 0, 1)) ∧ (decode cJ5_init_d00df 18 = .ok (.iconst 0, 1)) ∧ (decode cJ5_init_d00df 19 = .ok (.putfield 22, 3)) ∧ (decode cJ5_init_d00df 22 = .ok (.goto 16, 3)) ∧ (decode cJ5_init_d00df 25 = .ok (.aload_n 0, 1)) ∧ (decode cJ5_init_d00df 26 = .ok (.iload_n 1, 1)) ∧ (decode cJ5_init_d00df 27 = .ok (.invokestatic 26, 3)) ∧ (decode cJ5_init_d00df 30 = .ok (.putfield 15, 3)) := by decide +kernel
theorem dJ5_init_d00df_0 : decode cJ5_init_d00df 0 = .ok (.aload_n 0, 1) := db4_9.1
theorem dJ5_init_d00df_1 : decode cJ5_init_d00df 1 = .ok (.invokespecial 3, 3) := db4_9.2.1
theorem dJ5_init_d00df_4 : decode cJ5_init_d00df 4 = .ok (.getstatic 18, 3) := db4_9.2.2.1
theorem dJ5_init_d00df_7 : decode cJ5_init_d00df 7 = .ok (.ifCond .eq 18, 3) := db4_9.2.2.2.1
theorem dJ5_init_d00df_10 : decode cJ5_init_d00df 10 = .ok (.aload_n 0, 1) := db4_9.2.2.2.2.1
theorem dJ5_init_d00df_11 : decode cJ5_init_d00df 11 = .ok (.iload_n 1, 1) := db4_9.2.2.2.2.2.1
theorem dJ5_init_d00df_12 : decode cJ5_init_d00df 12 = .ok (.newarray .byte, 2) := db4_9.2.2.2.2.2.2.1
theorem dJ5_init_d00df_14 : decode cJ5_init_d00df 14 = .ok (.putfield 15, 3) := db4_9.2.2.2.2.2.2.2.1
theorem dJ5_init_d00df_17 : decode cJ5_init_d00df 17 = .ok (.aload_n 0, 1) := db4_9.2.2.2.2.2.2.2.2.1
theorem dJ5_init_d00df_18 : decode cJ5_init_d00df 18 = .ok (.iconst 0, 1) := db4_9.2.2.2.2.2.2.2.2.2.1
theorem dJ5_init_d00df_19 : decode cJ5_init_d00df 19 = .ok (.putfield 22, 3) := db4_9.2.2.2.2.2.2.2.2.2.2.1
theorem dJ5_init_d00df_22 : decode cJ5_init_d00df 22 = .ok (.goto 16, 3) := db4_9.2.2.2.2.2.2.2.2.2.2.2.1
theorem dJ5_init_d00df_25 : decode cJ5_init_d00df 25 = .ok (.aload_n 0, 1) := db4_9.2.2.2.2.2.2.2.2.2.2.2.2.1
theorem dJ5_init_d00df_26 : decode cJ5_init_d00df 26 = .ok (.iload_n 1, 1) := db4_9.2.2.2.2.2.2.2.2.2.2.2.2.2.1
theorem dJ5_init_d00df_27 : decode cJ5_init_d00df 27 = .ok (.invokestatic 26, 3) := db4_9.2.2.2.2.2.2.2.2.2.2.2.2.2.2.1
theorem dJ5_init_d00df_30 : decode cJ5_init_d00df 30 = .ok (.putfield 15, 3) := db4_9.2.2.2.2.2.2.2.2.2.2.2.2.2.2.2
theorem db4_10 : (decode cJ5_init_d00df 33 = .ok (.aload_n 0, 1)) ∧ (decode cJ5_init_d00df 34 = .ok (.iconst 1, 1)) ∧ (decode cJ5_init_d00df 35 = .ok (.putfield 22, 3)) ∧ (decode cJ5_init_d00df 38 = .ok (.return_, 1)) := by decide +kernel
theorem dJ5_init_d00df_33 : decode cJ5_init_d00df 33 = .ok (.aload_n 0, 1) := db4_10.1
theorem dJ5_init_d00df_34 : decode cJ5_init_d00df 34 = .ok (.iconst 1, 1) := db4_10.2.1
theorem dJ5_init_d00df_35 : decode cJ5_init_d00df 35 = .ok (.putfield 22, 3) := db4_10.2.2.1
theorem dJ5_init_d00df_38 : decode cJ5_init_d00df 38 = .ok (.return_, 1) := db4_10.2.2.2
theorem db4_11 : (decode cJ5_length_8abf5 0 = .ok (.aload_n 0, 1)) ∧ (decode cJ5_length_8abf5 1 = .ok (.getfield 79, 3)) ∧ (decode cJ5_length_8abf5 4 = .ok (.ireturn, 1)) := by decide +kernel
theorem dJ5_length_8abf5_0 : decode cJ5_length_8abf5 0 = .ok (.aload_n 0, 1) := db4_11.1
theorem dJ5_length_8abf5_1 : decode cJ5_length_8abf5 1 = .ok (.getfield 79, 3) := db4_11.2.1
theorem dJ5_length_8abf5_4 : decode cJ5_length_8abf5 4 = .ok (.ireturn, 1) := db4_11.2.2
theorem db4_12 : (decode cJ5_ensureCapacityInternal_d00df 0 = .ok (.aload_n 0, 1)) ∧ (decode cJ5_ensureCapacityInternal_d00df 1 = .ok (.getfield 15, 3)) ∧ (decode cJ5_ensureCapacityInternal_d00df 4 = .ok (.arraylength, 1)) ∧ (decode cJ5_ensureCapacityInternal_d00df 5 = .ok (.aload_n 0, 1)) ∧ (decode cJ5_ensureCapacityInternal_d00df 6 = .ok (.getfield 22, 3)) ∧ (decode cJ5_ensureCapacityInternal_d00df 9 = .ok (.ishr, 1)) ∧ (decode cJ5_ensureCapacityInternal_d00df 10 = .ok (.istore_n 2, 1)) ∧ (decode cJ5_ensureCapacityInternal_d00df 11 = .ok (.iload_n 1, 1)) ∧ (decode cJ5_ensureCapacityInternal_d00df 12 = .ok (.iload_n 2, 1)) ∧ (decode cJ5_ensureCapacityInternal_d00df 13 = .ok (.isub, 1)) ∧ (decode cJ5_ensureCapacityInternal_d00df 14 = .ok (.ifCond .le 24, 3)) ∧ (decode cJ5_ensureCapacityInternal_d00df 17 = .ok (.aload_n 0, 1)) ∧ (decode cJ5_ensureCapacityInternal_d00df 18 = .ok (.aload_n 0, 1)) ∧ (decode cJ5_ensureCapacityInternal_d00df 19 = .ok (.getfield 15, 3)) ∧ (decode cJ5_ensureCapacityInternal_d00df 22 = .ok (.aload_n 0, 1)) ∧ (decode cJ5_ensureCapacityInternal_d00df 23 = .ok (.iload_n 1, 1)) := by decide +kernel
theorem dJ5_ensureCapacityInternal_d00df_0 : decode cJ5_ensureCapacityInternal_d00df 0 = .ok (.aload_n 0, 1) := db4_12.1
theorem dJ5_ensureCapacityInternal_d00df_1 : decode cJ5_ensureCapacityInternal_d00df 1 = .ok (.getfield 15, 3) := db4_12.2.1
theorem dJ5_ensureCapacityInternal_d00df_4 : decode cJ5_ensureCapacityInternal_d00df 4 = .ok (.arraylength, 1) := db4_12.2.2.1
theorem dJ5_ensureCapacityInternal_d00df_5 : decode cJ5_ensureCapacityInternal_d00df 5 = .ok (.aload_n 0, 1) := db4_12.2.2.2.1
theorem dJ5_ensureCapacityInternal_d00df_6 : decode cJ5_ensureCapacityInternal_d00df 6 = .ok (.getfield 22, 3) := db4_12.2.2.2.2.1
theorem dJ5_ensureCapacityInternal_d00df_9 : decode cJ5_ensureCapacityInternal_d00df 9 = .ok (.ishr, 1) := db4_12.2.2.2.2.2.1
theorem dJ5_ensureCapacityInternal_d00df_10 : decode cJ5_ensureCapacityInternal_d00df 10 = .ok (.istore_n 2, 1) := db4_12.2.2.2.2.2.2.1
theorem dJ5_ensureCapacityInternal_d00df_11 : decode cJ5_ensureCapacityInternal_d00df 11 = .ok (.iload_n 1, 1) := db4_12.2.2.2.2.2.2.2.1
theorem dJ5_ensureCapacityInternal_d00df_12 : decode cJ5_ensureCapacityInternal_d00df 12 = .ok (.iload_n 2, 1) := db4_12.2.2.2.2.2.2.2.2.1
theorem dJ5_ensureCapacityInternal_d00df_13 : decode cJ5_ensureCapacityInternal_d00df 13 = .ok (.isub, 1) := db4_12.2.2.2.2.2.2.2.2.2.1
theorem dJ5_ensureCapacityInternal_d00df_14 : decode cJ5_ensureCapacityInternal_d00df 14 = .ok (.ifCond .le 24, 3) := db4_12.2.2.2.2.2.2.2.2.2.2.1
theorem dJ5_ensureCapacityInternal_d00df_17 : decode cJ5_ensureCapacityInternal_d00df 17 = .ok (.aload_n 0, 1) := db4_12.2.2.2.2.2.2.2.2.2.2.2.1
theorem dJ5_ensureCapacityInternal_d00df_18 : decode cJ5_ensureCapacityInternal_d00df 18 = .ok (.aload_n 0, 1) := db4_12.2.2.2.2.2.2.2.2.2.2.2.2.1
theorem dJ5_ensureCapacityInternal_d00df_19 : decode cJ5_ensureCapacityInternal_d00df 19 = .ok (.getfield 15, 3) := db4_12.2.2.2.2.2.2.2.2.2.2.2.2.2.1
theorem dJ5_ensureCapacityInternal_d00df_22 : decode cJ5_ensureCapacityInternal_d00df 22 = .ok (.aload_n 0, 1) := db4_12.2.2.2.2.2.2.2.2.2.2.2.2.2.2.1
theorem dJ5_ensureCapacityInternal_d00df_23 : decode cJ5_ensureCapacityInternal_d00df 23 = .ok (.iload_n 1, 1) := db4_12.2.2.2.2.2.2.2.2.2.2.2.2.2.2.2
theorem db4_13 : (decode cJ5_ensureCapacityInternal_d00df 24 = .ok (.invokevirtual 104, 3)) ∧ (decode cJ5_ensureCapacityInternal_d00df 27 = .ok (.aload_n 0, 1)) ∧ (decode cJ5_ensureCapacityInternal_d00df 28 = .ok (.getfield 22, 3)) ∧ (decode cJ5_ensureCapacityInternal_d00df 31 = .ok (.ishl, 1)) ∧ (decode cJ5_ensureCapacityInternal_d00df 32 = .ok (.invokestatic 108, 3)) ∧ (decode cJ5_ensureCapacityInternal_d00df 35 = .ok (.putfield 15, 3)) ∧ (decode cJ5_ensureCapacityInternal_d00df 38 = .ok (.return_, 1)) := by decide +kernel
theorem dJ5_ensureCapacityInternal_d00df_24 : decode cJ5_ensureCapacityInternal_d00df 24 = .ok (.invokevirtual 104, 3) := db4_13.1
theorem dJ5_ensureCapacityInternal_d00df_27 : decode cJ5_ensureCapacityInternal_d00df 27 = .ok (.aload_n 0, 1) := db4_13.2.1
theorem dJ5_ensureCapacityInternal_d00df_28 : decode cJ5_ensureCapacityInternal_d00df 28 = .ok (.getfield 22, 3) := db4_13.2.2.1
theorem dJ5_ensureCapacityInternal_d00df_31 : decode cJ5_ensureCapacityInternal_d00df 31 = .ok (.ishl, 1) := db4_13.2.2.2.1
theorem dJ5_ensureCapacityInternal_d00df_32 : decode cJ5_ensureCapacityInternal_d00df 32 = .ok (.invokestatic 108, 3) := db4_13.2.2.2.2.1
theorem dJ5_ensureCapacityInternal_d00df_35 : decode cJ5_ensureCapacityInternal_d00df 35 = .ok (.putfield 15, 3) := db4_13.2.2.2.2.2.1
theorem dJ5_ensureCapacityInternal_d00df_38 : decode cJ5_ensureCapacityInternal_d00df 38 = .ok (.return_, 1) := db4_13.2.2.2.2.2.2
theorem db4_14 : (decode cJ5_newCapacity_0f7a4 0 = .ok (.aload_n 0, 1)) ∧ (decode cJ5_newCapacity_0f7a4 1 = .ok (.getfield 15, 3)) ∧ (decode cJ5_newCapacity_0f7a4 4 = .ok (.arraylength, 1)) ∧ (decode cJ5_newCapacity_0f7a4 5 = .ok (.istore_n 2, 1)) ∧ (decode cJ5_newCapacity_0f7a4 6 = .ok (.iload_n 1, 1)) ∧ (decode cJ5_newCapacity_0f7a4 7 = .ok (.aload_n 0, 1)) ∧ (decode cJ5_newCapacity_0f7a4 8 = .ok (.getfield 22, 3)) ∧ (decode cJ5_newCapacity_0f7a4 11 = .ok (.ishl, 1)) ∧ (decode cJ5_newCapacity_0f7a4 12 = .ok (.istore_n 3, 1)) ∧ (decode cJ5_newCapacity_0f7a4 13 = .ok (.iload_n 3, 1)) ∧ (decode cJ5_newCapacity_0f7a4 14 = .ok (.iload_n 2, 1)) ∧ (decode cJ5_newCapacity_0f7a4 15 = .ok (.isub, 1)) ∧ (decode cJ5_newCapacity_0f7a4 16 = .ok (.istore 4, 2)) ∧ (decode cJ5_newCapacity_0f7a4 18 = .ok (.iload_n 2, 1)) ∧ (decode cJ5_newCapacity_0f7a4 19 = .ok (.iload 4, 2)) ∧ (decode cJ5_newCapacity_0f7a4 21 = .ok (.iload_n 2, 1)) := by decide +kernel
theorem dJ5_newCapacity_0f7a4_0 : decode cJ5_newCapacity_0f7a4 0 = .ok (.aload_n 0, 1) := db4_14.1
theorem dJ5_newCapacity_0f7a4_1 : decode cJ5_newCapacity_0f7a4 1 = .ok (.getfield 15, 3) := db4_14.2.1
theorem dJ5_newCapacity_0f7a4_4 : decode cJ5_newCapacity_0f7a4 4 = .ok (.arraylength, 1) := db4_14.2.2.1
theorem dJ5_newCapacity_0f7a4_5 : decode cJ5_newCapacity_0f7a4 5 = .ok (.istore_n 2, 1) := db4_14.2.2.2.1
theorem dJ5_newCapacity_0f7a4_6 : decode cJ5_newCapacity_0f7a4 6 = .ok (.iload_n 1, 1) := db4_14.2.2.2.2.1
theorem dJ5_newCapacity_0f7a4_7 : decode cJ5_newCapacity_0f7a4 7 = .ok (.aload_n 0, 1) := db4_14.2.2.2.2.2.1
theorem dJ5_newCapacity_0f7a4_8 : decode cJ5_newCapacity_0f7a4 8 = .ok (.getfield 22, 3) := db4_14.2.2.2.2.2.2.1
theorem dJ5_newCapacity_0f7a4_11 : decode cJ5_newCapacity_0f7a4 11 = .ok (.ishl, 1) := db4_14.2.2.2.2.2.2.2.1
theorem dJ5_newCapacity_0f7a4_12 : decode cJ5_newCapacity_0f7a4 12 = .ok (.istore_n 3, 1) := db4_14.2.2.2.2.2.2.2.2.1
theorem dJ5_newCapacity_0f7a4_13 : decode cJ5_newCapacity_0f7a4 13 = .ok (.iload_n 3, 1) := db4_14.2.2.2.2.2.2.2.2.2.1
theorem dJ5_newCapacity_0f7a4_14 : decode cJ5_newCapacity_0f7a4 14 = .ok (.iload_n 2, 1) := db4_14.2.2.2.2.2.2.2.2.2.2.1
theorem dJ5_newCapacity_0f7a4_15 : decode cJ5_newCapacity_0f7a4 15 = .ok (.isub, 1) := db4_14.2.2.2.2.2.2.2.2.2.2.2.1
theorem dJ5_newCapacity_0f7a4_16 : decode cJ5_newCapacity_0f7a4 16 = .ok (.istore 4, 2) := db4_14.2.2.2.2.2.2.2.2.2.2.2.2.1
theorem dJ5_newCapacity_0f7a4_18 : decode cJ5_newCapacity_0f7a4 18 = .ok (.iload_n 2, 1) := db4_14.2.2.2.2.2.2.2.2.2.2.2.2.2.1
theorem dJ5_newCapacity_0f7a4_19 : decode cJ5_newCapacity_0f7a4 19 = .ok (.iload 4, 2) := db4_14.2.2.2.2.2.2.2.2.2.2.2.2.2.2.1
theorem dJ5_newCapacity_0f7a4_21 : decode cJ5_newCapacity_0f7a4 21 = .ok (.iload_n 2, 1) := db4_14.2.2.2.2.2.2.2.2.2.2.2.2.2.2.2
theorem db4_15 : (decode cJ5_newCapacity_0f7a4 22 = .ok (.iconst 2, 1)) ∧ (decode cJ5_newCapacity_0f7a4 23 = .ok (.aload_n 0, 1)) ∧ (decode cJ5_newCapacity_0f7a4 24 = .ok (.getfield 22, 3)) ∧ (decode cJ5_newCapacity_0f7a4 27 = .ok (.ishl, 1)) ∧ (decode cJ5_newCapacity_0f7a4 28 = .ok (.iadd, 1)) ∧ (decode cJ5_newCapacity_0f7a4 29 = .ok (.invokestatic 114, 3)) ∧ (decode cJ5_newCapacity_0f7a4 32 = .ok (.istore 5, 2)) ∧ (decode cJ5_newCapacity_0f7a4 34 = .ok (.iload 5, 2)) ∧ (decode cJ5_newCapacity_0f7a4 36 = .ok (.ldc 39, 2)) ∧ (decode cJ5_newCapacity_0f7a4 38 = .ok (.if_icmp .ne 13, 3)) ∧ (decode cJ5_newCapacity_0f7a4 41 = .ok (.new 120, 3)) ∧ (decode cJ5_newCapacity_0f7a4 44 = .ok (.dup, 1)) ∧ (decode cJ5_newCapacity_0f7a4 45 = .ok (.ldc 122, 2)) ∧ (decode cJ5_newCapacity_0f7a4 47 = .ok (.invokespecial 124, 3)) ∧ (decode cJ5_newCapacity_0f7a4 50 = .ok (.athrow, 1)) ∧ (decode cJ5_newCapacity_0f7a4 51 = .ok (.iload 5, 2)) := by decide +kernel
theorem dJ5_newCapacity_0f7a4_22 : decode cJ5_newCapacity_0f7a4 22 = .ok (.iconst 2, 1) := db4_15.1
theorem dJ5_newCapacity_0f7a4_23 : decode cJ5_newCapacity_0f7a4 23 = .ok (.aload_n 0, 1) := db4_15.2.1
theorem dJ5_newCapacity_0f7a4_24 : decode cJ5_newCapacity_0f7a4 24 = .ok (.getfield 22, 3) := db4_15.2.2.1
theorem dJ5_newCapacity_0f7a4_27 : decode cJ5_newCapacity_0f7a4 27 = .ok (.ishl, 1) := db4_15.2.2.2.1
theorem dJ5_newCapacity_0f7a4_28 : decode cJ5_newCapacity_0f7a4 28 = .ok (.iadd, 1) := db4_15.2.2.2.2.1
theorem dJ5_newCapacity_0f7a4_29 : decode cJ5_newCapacity_0f7a4 29 = .ok (.invokestatic 114, 3) := db4_15.2.2.2.2.2.1
theorem dJ5_newCapacity_0f7a4_32 : decode cJ5_newCapacity_0f7a4 32 = .ok (.istore 5, 2) := db4_15.2.2.2.2.2.2.1
theorem dJ5_newCapacity_0f7a4_34 : decode cJ5_newCapacity_0f7a4 34 = .ok (.iload 5, 2) := db4_15.2.2.2.2.2.2.2.1
theorem dJ5_newCapacity_0f7a4_36 : decode cJ5_newCapacity_0f7a4 36 = .ok (.ldc 39, 2) := db4_15.2.2.2.2.2.2.2.2.1
theorem dJ5_newCapacity_0f7a4_38 : decode cJ5_newCapacity_0f7a4 38 = .ok (.if_icmp .ne 13, 3) := db4_15.2.2.2.2.2.2.2.2.2.1
theorem dJ5_newCapacity_0f7a4_41 : decode cJ5_newCapacity_0f7a4 41 = .ok (.new 120, 3) := db4_15.2.2.2.2.2.2.2.2.2.2.1
theorem dJ5_newCapacity_0f7a4_44 : decode cJ5_newCapacity_0f7a4 44 = .ok (.dup, 1) := db4_15.2.2.2.2.2.2.2.2.2.2.2.1
theorem dJ5_newCapacity_0f7a4_45 : decode cJ5_newCapacity_0f7a4 45 = .ok (.ldc 122, 2) := db4_15.2.2.2.2.2.2.2.2.2.2.2.2.1
theorem dJ5_newCapacity_0f7a4_47 : decode cJ5_newCapacity_0f7a4 47 = .ok (.invokespecial 124, 3) := db4_15.2.2.2.2.2.2.2.2.2.2.2.2.2.1
theorem dJ5_newCapacity_0f7a4_50 : decode cJ5_newCapacity_0f7a4 50 = .ok (.athrow, 1) := db4_15.2.2.2.2.2.2.2.2.2.2.2.2.2.2.1
theorem dJ5_newCapacity_0f7a4_51 : decode cJ5_newCapacity_0f7a4 51 = .ok (.iload 5, 2) := db4_15.2.2.2.2.2.2.2.2.2.2.2.2.2.2.2
theorem db4_16 : (decode cJ5_newCapacity_0f7a4 53 = .ok (.aload_n 0, 1)) ∧ (decode cJ5_newCapacity_0f7a4 54 = .ok (.getfield 22, 3)) ∧ (decode cJ5_newCapacity_0f7a4 57 = .ok (.ishr, 1)) ∧ (decode cJ5_newCapacity_0f7a4 58 = .ok (.ireturn, 1)) := by decide +kernel
theorem dJ5_newCapacity_0f7a4_53 : decode cJ5_newCapacity_0f7a4 53 = .ok (.aload_n 0, 1) := db4_16.1
theorem dJ5_newCapacity_0f7a4_54 : decode cJ5_newCapacity_0f7a4 54 = .ok (.getfield 22, 3) := db4_16.2.1
theorem dJ5_newCapacity_0f7a4_57 : decode cJ5_newCapacity_0f7a4 57 = .ok (.ishr, 1) := db4_16.2.2.1
theorem dJ5_newCapacity_0f7a4_58 : decode cJ5_newCapacity_0f7a4 58 = .ok (.ireturn, 1) := db4_16.2.2.2
theorem db4_17 : (decode cJ5_inflate_da8c8 0 = .ok (.aload_n 0, 1)) ∧ (decode cJ5_inflate_da8c8 1 = .ok (.invokevirtual 83, 3)) ∧ (decode cJ5_inflate_da8c8 4 = .ok (.ifCond .ne 4, 3)) ∧ (decode cJ5_inflate_da8c8 7 = .ok (.return_, 1)) ∧ (decode cJ5_inflate_da8c8 8 = .ok (.aload_n 0, 1)) ∧ (decode cJ5_inflate_da8c8 9 = .ok (.getfield 15, 3)) ∧ (decode cJ5_inflate_da8c8 12 = .ok (.arraylength, 1)) ∧ (decode cJ5_inflate_da8c8 13 = .ok (.invokestatic 26, 3)) ∧ (decode cJ5_inflate_da8c8 16 = .ok (.astore_n 1, 1)) ∧ (decode cJ5_inflate_da8c8 17 = .ok (.aload_n 0, 1)) ∧ (decode cJ5_inflate_da8c8 18 = .ok (.getfield 15, 3)) ∧ (decode cJ5_inflate_da8c8 21 = .ok (.iconst 0, 1)) ∧ (decode cJ5_inflate_da8c8 22 = .ok (.aload_n 1, 1)) ∧ (decode cJ5_inflate_da8c8 23 = .ok (.iconst 0, 1)) ∧ (decode cJ5_inflate_da8c8 24 = .ok (.aload_n 0, 1)) ∧ (decode cJ5_inflate_da8c8 25 = .ok (.getfield 79, 3)) := by decide +kernel
theorem dJ5_inflate_da8c8_0 : decode cJ5_inflate_da8c8 0 = .ok (.aload_n 0, 1) := db4_17.1
theorem dJ5_inflate_da8c8_1 : decode cJ5_inflate_da8c8 1 = .ok (.invokevirtual 83, 3) := db4_17.2.1
theorem dJ5_inflate_da8c8_4 : decode cJ5_inflate_da8c8 4 = .ok (.ifCond .ne 4, 3) := db4_17.2.2.1
theorem dJ5_inflate_da8c8_7 : decode cJ5_inflate_da8c8 7 = .ok (.return_, 1) := db4_17.2.2.2.1
theorem dJ5_inflate_da8c8_8 : decode cJ5_inflate_da8c8 8 = .ok (.aload_n 0, 1) := db4_17.2.2.2.2.1
theorem dJ5_inflate_da8c8_9 : decode cJ5_inflate_da8c8 9 = .ok (.getfield 15, 3) := db4_17.2.2.2.2.2.1
theorem dJ5_inflate_da8c8_12 : decode cJ5_inflate_da8c8 12 = .ok (.arraylength, 1) := db4_17.2.2.2.2.2.2.1
theorem dJ5_inflate_da8c8_13 : decode cJ5_inflate_da8c8 13 = .ok (.invokestatic 26, 3) := db4_17.2.2.2.2.2.2.2.1
theorem dJ5_inflate_da8c8_16 : decode cJ5_inflate_da8c8 16 = .ok (.astore_n 1, 1) := db4_17.2.2.2.2.2.2.2.2.1
theorem dJ5_inflate_da8c8_17 : decode cJ5_inflate_da8c8 17 = .ok (.aload_n 0, 1) := db4_17.2.2.2.2.2.2.2.2.2.1
theorem dJ5_inflate_da8c8_18 : decode cJ5_inflate_da8c8 18 = .ok (.getfield 15, 3) := db4_17.2.2.2.2.2.2.2.2.2.2.1
theorem dJ5_inflate_da8c8_21 : decode cJ5_inflate_da8c8 21 = .ok (.iconst 0, 1) := db4_17.2.2.2.2.2.2.2.2.2.2.2.1
theorem dJ5_inflate_da8c8_22 : decode cJ5_inflate_da8c8 22 = .ok (.aload_n 1, 1) := db4_17.2.2.2.2.2.2.2.2.2.2.2.2.1
theorem dJ5_inflate_da8c8_23 : decode cJ5_inflate_da8c8 23 = .ok (.iconst 0, 1) := db4_17.2.2.2.2.2.2.2.2.2.2.2.2.2.1
theorem dJ5_inflate_da8c8_24 : decode cJ5_inflate_da8c8 24 = .ok (.aload_n 0, 1) := db4_17.2.2.2.2.2.2.2.2.2.2.2.2.2.2.1
theorem dJ5_inflate_da8c8_25 : decode cJ5_inflate_da8c8 25 = .ok (.getfield 79, 3) := db4_17.2.2.2.2.2.2.2.2.2.2.2.2.2.2.2
theorem db4_18 : (decode cJ5_inflate_da8c8 28 = .ok (.invokestatic 125, 3)) ∧ (decode cJ5_inflate_da8c8 31 = .ok (.aload_n 0, 1)) ∧ (decode cJ5_inflate_da8c8 32 = .ok (.aload_n 1, 1)) ∧ (decode cJ5_inflate_da8c8 33 = .ok (.putfield 15, 3)) ∧ (decode cJ5_inflate_da8c8 36 = .ok (.aload_n 0, 1)) ∧ (decode cJ5_inflate_da8c8 37 = .ok (.iconst 1, 1)) ∧ (decode cJ5_inflate_da8c8 38 = .ok (.putfield 22, 3)) ∧ (decode cJ5_inflate_da8c8 41 = .ok (.return_, 1)) := by decide +kernel
theorem dJ5_inflate_da8c8_28 : decode cJ5_inflate_da8c8 28 = .ok (.invokestatic 125, 3) := db4_18.1
theorem dJ5_inflate_da8c8_31 : decode cJ5_inflate_da8c8 31 = .ok (.aload_n 0, 1) := db4_18.2.1
theorem dJ5_inflate_da8c8_32 : decode cJ5_inflate_da8c8 32 = .ok (.aload_n 1, 1) := db4_18.2.2.1
theorem dJ5_inflate_da8c8_33 : decode cJ5_inflate_da8c8 33 = .ok (.putfield 15, 3) := db4_18.2.2.2.1
theorem dJ5_inflate_da8c8_36 : decode cJ5_inflate_da8c8 36 = .ok (.aload_n 0, 1) := db4_18.2.2.2.2.1
theorem dJ5_inflate_da8c8_37 : decode cJ5_inflate_da8c8 37 = .ok (.iconst 1, 1) := db4_18.2.2.2.2.2.1
theorem dJ5_inflate_da8c8_38 : decode cJ5_inflate_da8c8 38 = .ok (.putfield 22, 3) := db4_18.2.2.2.2.2.2.1
theorem dJ5_inflate_da8c8_41 : decode cJ5_inflate_da8c8 41 = .ok (.return_, 1) := db4_18.2.2.2.2.2.2.2
theorem db4_19 : (decode cJ5_setLength_d00df 0 = .ok (.iload_n 1, 1)) ∧ (decode cJ5_setLength_d00df 1 = .ok (.ifCond .ge 12, 3)) ∧ (decode cJ5_setLength_d00df 4 = .ok (.new 129, 3)) ∧ (decode cJ5_setLength_d00df 7 = .ok (.dup, 1)) ∧ (decode cJ5_setLength_d00df 8 = .ok (.iload_n 1, 1)) ∧ (decode cJ5_setLength_d00df 9 = .ok (.invokespecial 131, 3)) ∧ (decode cJ5_setLength_d00df 12 = .ok (.athrow, 1)) ∧ (decode cJ5_setLength_d00df 13 = .ok (.aload_n 0, 1)) ∧ (decode cJ5_setLength_d00df 14 = .ok (.iload_n 1, 1)) ∧ (decode cJ5_setLength_d00df 15 = .ok (.invokevirtual 100, 3)) ∧ (decode cJ5_setLength_d00df 18 = .ok (.aload_n 0, 1)) ∧ (decode cJ5_setLength_d00df 19 = .ok (.getfield 79, 3)) ∧ (decode cJ5_setLength_d00df 22 = .ok (.iload_n 1, 1)) ∧ (decode cJ5_setLength_d00df 23 = .ok (.if_icmp .ge 40, 3)) ∧ (decode cJ5_setLength_d00df 26 = .ok (.aload_n 0, 1)) ∧ (decode cJ5_setLength_d00df 27 = .ok (.invokevirtual 83, 3)) := by decide +kernel
theorem dJ5_setLength_d00df_0 : decode cJ5_setLength_d00df 0 = .ok (.iload_n 1, 1) := db4_19.1
theorem dJ5_setLength_d00df_1 : decode cJ5_setLength_d00df 1 = .ok (.ifCond .ge 12, 3) := db4_19.2.1
theorem dJ5_setLength_d00df_4 : decode cJ5_setLength_d00df 4 = .ok (.new 129, 3) := db4_19.2.2.1
theorem dJ5_setLength_d00df_7 : decode cJ5_setLength_d00df 7 = .ok (.dup, 1) := db4_19.2.2.2.1
theorem dJ5_setLength_d00df_8 : decode cJ5_setLength_d00df 8 = .ok (.iload_n 1, 1) := db4_19.2.2.2.2.1
theorem dJ5_setLength_d00df_9 : decode cJ5_setLength_d00df 9 = .ok (.invokespecial 131, 3) := db4_19.2.2.2.2.2.1
theorem dJ5_setLength_d00df_12 : decode cJ5_setLength_d00df 12 = .ok (.athrow, 1) := db4_19.2.2.2.2.2.2.1
theorem dJ5_setLength_d00df_13 : decode cJ5_setLength_d00df 13 = .ok (.aload_n 0, 1) := db4_19.2.2.2.2.2.2.2.1
theorem dJ5_setLength_d00df_14 : decode cJ5_setLength_d00df 14 = .ok (.iload_n 1, 1) := db4_19.2.2.2.2.2.2.2.2.1
theorem dJ5_setLength_d00df_15 : decode cJ5_setLength_d00df 15 = .ok (.invokevirtual 100, 3) := db4_19.2.2.2.2.2.2.2.2.2.1
theorem dJ5_setLength_d00df_18 : decode cJ5_setLength_d00df 18 = .ok (.aload_n 0, 1) := db4_19.2.2.2.2.2.2.2.2.2.2.1
theorem dJ5_setLength_d00df_19 : decode cJ5_setLength_d00df 19 = .ok (.getfield 79, 3) := db4_19.2.2.2.2.2.2.2.2.2.2.2.1
theorem dJ5_setLength_d00df_22 : decode cJ5_setLength_d00df 22 = .ok (.iload_n 1, 1) := db4_19.2.2.2.2.2.2.2.2.2.2.2.2.1
theorem dJ5_setLength_d00df_23 : decode cJ5_setLength_d00df 23 = .ok (.if_icmp .ge 40, 3) := db4_19.2.2.2.2.2.2.2.2.2.2.2.2.2.1
theorem dJ5_setLength_d00df_26 : decode cJ5_setLength_d00df 26 = .ok (.aload_n 0, 1) := db4_19.2.2.2.2.2.2.2.2.2.2.2.2.2.2.1
theorem dJ5_setLength_d00df_27 : decode cJ5_setLength_d00df 27 = .ok (.invokevirtual 83, 3) := db4_19.2.2.2.2.2.2.2.2.2.2.2.2.2.2.2
theorem db4_20 : (decode cJ5_setLength_d00df 30 = .ok (.ifCond .eq 18, 3)) ∧ (decode cJ5_setLength_d00df 33 = .ok (.aload_n 0, 1)) ∧ (decode cJ5_setLength_d00df 34 = .ok (.getfield 15, 3)) ∧ (decode cJ5_setLength_d00df 37 = .ok (.aload_n 0, 1)) ∧ (decode cJ5_setLength_d00df 38 = .ok (.getfield 79, 3)) ∧ (decode cJ5_setLength_d00df 41 = .ok (.iload_n 1, 1)) ∧ (decode cJ5_setLength_d00df 42 = .ok (.invokestatic 133, 3)) ∧ (decode cJ5_setLength_d00df 45 = .ok (.goto 31, 3)) ∧ (decode cJ5_setLength_d00df 48 = .ok (.aload_n 0, 1)) ∧ (decode cJ5_setLength_d00df 49 = .ok (.getfield 15, 3)) ∧ (decode cJ5_setLength_d00df 52 = .ok (.aload_n 0, 1)) ∧ (decode cJ5_setLength_d00df 53 = .ok (.getfield 79, 3)) ∧ (decode cJ5_setLength_d00df 56 = .ok (.iload_n 1, 1)) ∧ (decode cJ5_setLength_d00df 57 = .ok (.invokestatic 137, 3)) ∧ (decode cJ5_setLength_d00df 60 = .ok (.goto 16, 3)) ∧ (decode cJ5_setLength_d00df 63 = .ok (.aload_n 0, 1)) := by decide +kernel
theorem dJ5_setLength_d00df_30 : decode cJ5_setLength_d00df 30 = .ok (.ifCond .eq 18, 3) := db4_20.1
theorem dJ5_setLength_d00df_33 : decode cJ5_setLength_d00df 33 = .ok (.aload_n 0, 1) := db4_20.2.1
theorem dJ5_setLength_d00df_34 : decode cJ5_setLength_d00df 34 = .ok (.getfield 15, 3) := db4_20.2.2.1
theorem dJ5_setLength_d00df_37 : decode cJ5_setLength_d00df 37 = .ok (.aload_n 0, 1) := db4_20.2.2.2.1
theorem dJ5_setLength_d00df_38 : decode cJ5_setLength_d00df 38 = .ok (.getfield 79, 3) := db4_20.2.2.2.2.1
theorem dJ5_setLength_d00df_41 : decode cJ5_setLength_d00df 41 = .ok (.iload_n 1, 1) := db4_20.2.2.2.2.2.1
theorem dJ5_setLength_d00df_42 : decode cJ5_setLength_d00df 42 = .ok (.invokestatic 133, 3) := db4_20.2.2.2.2.2.2.1
theorem dJ5_setLength_d00df_45 : decode cJ5_setLength_d00df 45 = .ok (.goto 31, 3) := db4_20.2.2.2.2.2.2.2.1
theorem dJ5_setLength_d00df_48 : decode cJ5_setLength_d00df 48 = .ok (.aload_n 0, 1) := db4_20.2.2.2.2.2.2.2.2.1
theorem dJ5_setLength_d00df_49 : decode cJ5_setLength_d00df 49 = .ok (.getfield 15, 3) := db4_20.2.2.2.2.2.2.2.2.2.1
theorem dJ5_setLength_d00df_52 : decode cJ5_setLength_d00df 52 = .ok (.aload_n 0, 1) := db4_20.2.2.2.2.2.2.2.2.2.2.1
theorem dJ5_setLength_d00df_53 : decode cJ5_setLength_d00df 53 = .ok (.getfield 79, 3) := db4_20.2.2.2.2.2.2.2.2.2.2.2.1
theorem dJ5_setLength_d00df_56 : decode cJ5_setLength_d00df 56 = .ok (.iload_n 1, 1) := db4_20.2.2.2.2.2.2.2.2.2.2.2.2.1
theorem dJ5_setLength_d00df_57 : decode cJ5_setLength_d00df 57 = .ok (.invokestatic 137, 3) := db4_20.2.2.2.2.2.2.2.2.2.2.2.2.2.1
theorem dJ5_setLength_d00df_60 : decode cJ5_setLength_d00df 60 = .ok (.goto 16, 3) := db4_20.2.2.2.2.2.2.2.2.2.2.2.2.2.2.1
theorem dJ5_setLength_d00df_63 : decode cJ5_setLength_d00df 63 = .ok (.aload_n 0, 1) := db4_20.2.2.2.2.2.2.2.2.2.2.2.2.2.2.2
theorem db4_21 : (decode cJ5_setLength_d00df 64 = .ok (.getfield 79, 3)) ∧ (decode cJ5_setLength_d00df 67 = .ok (.iload_n 1, 1)) ∧ (decode cJ5_setLength_d00df 68 = .ok (.if_icmp .le 8, 3)) ∧ (decode cJ5_setLength_d00df 71 = .ok (.aload_n 0, 1)) ∧ (decode cJ5_setLength_d00df 72 = .ok (.iconst 1, 1)) ∧ (decode cJ5_setLength_d00df 73 = .ok (.putfield 73, 3)) ∧ (decode cJ5_setLength_d00df 76 = .ok (.aload_n 0, 1)) ∧ (decode cJ5_setLength_d00df 77 = .ok (.iload_n 1, 1)) ∧ (decode cJ5_setLength_d00df 78 = .ok (.putfield 79, 3)) ∧ (decode cJ5_setLength_d00df 81 = .ok (.return_, 1)) := by decide +kernel
theorem dJ5_setLength_d00df_64 : decode cJ5_setLength_d00df 64 = .ok (.getfield 79, 3) := db4_21.1
theorem dJ5_setLength_d00df_67 : decode cJ5_setLength_d00df 67 = .ok (.iload_n 1, 1) := db4_21.2.1
theorem dJ5_setLength_d00df_68 : decode cJ5_setLength_d00df 68 = .ok (.if_icmp .le 8, 3) := db4_21.2.2.1
theorem dJ5_setLength_d00df_71 : decode cJ5_setLength_d00df 71 = .ok (.aload_n 0, 1) := db4_21.2.2.2.1
theorem dJ5_setLength_d00df_72 : decode cJ5_setLength_d00df 72 = .ok (.iconst 1, 1) := db4_21.2.2.2.2.1
theorem dJ5_setLength_d00df_73 : decode cJ5_setLength_d00df 73 = .ok (.putfield 73, 3) := db4_21.2.2.2.2.2.1
theorem dJ5_setLength_d00df_76 : decode cJ5_setLength_d00df 76 = .ok (.aload_n 0, 1) := db4_21.2.2.2.2.2.2.1
theorem dJ5_setLength_d00df_77 : decode cJ5_setLength_d00df 77 = .ok (.iload_n 1, 1) := db4_21.2.2.2.2.2.2.2.1
theorem dJ5_setLength_d00df_78 : decode cJ5_setLength_d00df 78 = .ok (.putfield 79, 3) := db4_21.2.2.2.2.2.2.2.2.1
theorem dJ5_setLength_d00df_81 : decode cJ5_setLength_d00df 81 = .ok (.return_, 1) := db4_21.2.2.2.2.2.2.2.2.2
theorem db4_22 : (decode cJ5_append_cf1ce 0 = .ok (.aload_n 1, 1)) ∧ (decode cJ5_append_cf1ce 1 = .ok (.ifnonnull 8, 3)) ∧ (decode cJ5_append_cf1ce 4 = .ok (.aload_n 0, 1)) ∧ (decode cJ5_append_cf1ce 5 = .ok (.invokevirtual 204, 3)) ∧ (decode cJ5_append_cf1ce 8 = .ok (.areturn, 1)) ∧ (decode cJ5_append_cf1ce 9 = .ok (.aload_n 1, 1)) ∧ (decode cJ5_append_cf1ce 10 = .ok (.invokevirtual 32, 3)) ∧ (decode cJ5_append_cf1ce 13 = .ok (.istore_n 2, 1)) ∧ (decode cJ5_append_cf1ce 14 = .ok (.aload_n 0, 1)) ∧ (decode cJ5_append_cf1ce 15 = .ok (.aload_n 0, 1)) ∧ (decode cJ5_append_cf1ce 16 = .ok (.getfield 79, 3)) ∧ (decode cJ5_append_cf1ce 19 = .ok (.iload_n 2, 1)) ∧ (decode cJ5_append_cf1ce 20 = .ok (.iadd, 1)) ∧ (decode cJ5_append_cf1ce 21 = .ok (.invokevirtual 100, 3)) ∧ (decode cJ5_append_cf1ce 24 = .ok (.aload_n 0, 1)) ∧ (decode cJ5_append_cf1ce 25 = .ok (.aload_n 0, 1)) := by decide +kernel
theorem dJ5_append_cf1ce_0 : decode cJ5_append_cf1ce 0 = .ok (.aload_n 1, 1) := db4_22.1
theorem dJ5_append_cf1ce_1 : decode cJ5_append_cf1ce 1 = .ok (.ifnonnull 8, 3) := db4_22.2.1
theorem dJ5_append_cf1ce_4 : decode cJ5_append_cf1ce 4 = .ok (.aload_n 0, 1) := db4_22.2.2.1
theorem dJ5_append_cf1ce_5 : decode cJ5_append_cf1ce 5 = .ok (.invokevirtual 204, 3) := db4_22.2.2.2.1
theorem dJ5_append_cf1ce_8 : decode cJ5_append_cf1ce 8 = .ok (.areturn, 1) := db4_22.2.2.2.2.1
theorem dJ5_append_cf1ce_9 : decode cJ5_append_cf1ce 9 = .ok (.aload_n 1, 1) := db4_22.2.2.2.2.2.1
theorem dJ5_append_cf1ce_10 : decode cJ5_append_cf1ce 10 = .ok (.invokevirtual 32, 3) := db4_22.2.2.2.2.2.2.1
theorem dJ5_append_cf1ce_13 : decode cJ5_append_cf1ce 13 = .ok (.istore_n 2, 1) := db4_22.2.2.2.2.2.2.2.1
theorem dJ5_append_cf1ce_14 : decode cJ5_append_cf1ce 14 = .ok (.aload_n 0, 1) := db4_22.2.2.2.2.2.2.2.2.1
theorem dJ5_append_cf1ce_15 : decode cJ5_append_cf1ce 15 = .ok (.aload_n 0, 1) := db4_22.2.2.2.2.2.2.2.2.2.1
theorem dJ5_append_cf1ce_16 : decode cJ5_append_cf1ce 16 = .ok (.getfield 79, 3) := db4_22.2.2.2.2.2.2.2.2.2.2.1
theorem dJ5_append_cf1ce_19 : decode cJ5_append_cf1ce 19 = .ok (.iload_n 2, 1) := db4_22.2.2.2.2.2.2.2.2.2.2.2.1
theorem dJ5_append_cf1ce_20 : decode cJ5_append_cf1ce 20 = .ok (.iadd, 1) := db4_22.2.2.2.2.2.2.2.2.2.2.2.2.1
theorem dJ5_append_cf1ce_21 : decode cJ5_append_cf1ce 21 = .ok (.invokevirtual 100, 3) := db4_22.2.2.2.2.2.2.2.2.2.2.2.2.2.1
theorem dJ5_append_cf1ce_24 : decode cJ5_append_cf1ce 24 = .ok (.aload_n 0, 1) := db4_22.2.2.2.2.2.2.2.2.2.2.2.2.2.2.1
theorem dJ5_append_cf1ce_25 : decode cJ5_append_cf1ce 25 = .ok (.aload_n 0, 1) := db4_22.2.2.2.2.2.2.2.2.2.2.2.2.2.2.2
theorem db4_23 : (decode cJ5_append_cf1ce 26 = .ok (.getfield 79, 3)) ∧ (decode cJ5_append_cf1ce 29 = .ok (.aload_n 1, 1)) ∧ (decode cJ5_append_cf1ce 30 = .ok (.invokevirtual 208, 3)) ∧ (decode cJ5_append_cf1ce 33 = .ok (.aload_n 0, 1)) ∧ (decode cJ5_append_cf1ce 34 = .ok (.dup, 1)) ∧ (decode cJ5_append_cf1ce 35 = .ok (.getfield 79, 3)) ∧ (decode cJ5_append_cf1ce 38 = .ok (.iload_n 2, 1)) ∧ (decode cJ5_append_cf1ce 39 = .ok (.iadd, 1)) ∧ (decode cJ5_append_cf1ce 40 = .ok (.putfield 79, 3)) ∧ (decode cJ5_append_cf1ce 43 = .ok (.aload_n 0, 1)) ∧ (decode cJ5_append_cf1ce 44 = .ok (.areturn, 1)) := by decide +kernel
theorem dJ5_append_cf1ce_26 : decode cJ5_append_cf1ce 26 = .ok (.getfield 79, 3) := db4_23.1
theorem dJ5_append_cf1ce_29 : decode cJ5_append_cf1ce 29 = .ok (.aload_n 1, 1) := db4_23.2.1
theorem dJ5_append_cf1ce_30 : decode cJ5_append_cf1ce 30 = .ok (.invokevirtual 208, 3) := db4_23.2.2.1
theorem dJ5_append_cf1ce_33 : decode cJ5_append_cf1ce 33 = .ok (.aload_n 0, 1) := db4_23.2.2.2.1
theorem dJ5_append_cf1ce_34 : decode cJ5_append_cf1ce 34 = .ok (.dup, 1) := db4_23.2.2.2.2.1
theorem dJ5_append_cf1ce_35 : decode cJ5_append_cf1ce 35 = .ok (.getfield 79, 3) := db4_23.2.2.2.2.2.1
theorem dJ5_append_cf1ce_38 : decode cJ5_append_cf1ce 38 = .ok (.iload_n 2, 1) := db4_23.2.2.2.2.2.2.1
theorem dJ5_append_cf1ce_39 : decode cJ5_append_cf1ce 39 = .ok (.iadd, 1) := db4_23.2.2.2.2.2.2.2.1
theorem dJ5_append_cf1ce_40 : decode cJ5_append_cf1ce 40 = .ok (.putfield 79, 3) := db4_23.2.2.2.2.2.2.2.2.1
theorem dJ5_append_cf1ce_43 : decode cJ5_append_cf1ce 43 = .ok (.aload_n 0, 1) := db4_23.2.2.2.2.2.2.2.2.2.1
theorem dJ5_append_cf1ce_44 : decode cJ5_append_cf1ce 44 = .ok (.areturn, 1) := db4_23.2.2.2.2.2.2.2.2.2.2
theorem db4_24 : (decode cJ5_appendNull_278bc 0 = .ok (.aload_n 0, 1)) ∧ (decode cJ5_appendNull_278bc 1 = .ok (.aload_n 0, 1)) ∧ (decode cJ5_appendNull_278bc 2 = .ok (.getfield 79, 3)) ∧ (decode cJ5_appendNull_278bc 5 = .ok (.iconst 4, 1)) ∧ (decode cJ5_appendNull_278bc 6 = .ok (.iadd, 1)) ∧ (decode cJ5_appendNull_278bc 7 = .ok (.invokevirtual 100, 3)) ∧ (decode cJ5_appendNull_278bc 10 = .ok (.aload_n 0, 1)) ∧ (decode cJ5_appendNull_278bc 11 = .ok (.getfield 79, 3)) ∧ (decode cJ5_appendNull_278bc 14 = .ok (.istore_n 1, 1)) ∧ (decode cJ5_appendNull_278bc 15 = .ok (.aload_n 0, 1)) ∧ (decode cJ5_appendNull_278bc 16 = .ok (.getfield 15, 3)) ∧ (decode cJ5_appendNull_278bc 19 = .ok (.astore_n 2, 1)) ∧ (decode cJ5_appendNull_278bc 20 = .ok (.aload_n 0, 1)) ∧ (decode cJ5_appendNull_278bc 21 = .ok (.invokevirtual 83, 3)) ∧ (decode cJ5_appendNull_278bc 24 = .ok (.ifCond .eq 38, 3)) ∧ (decode cJ5_appendNull_278bc 27 = .ok (.aload_n 2, 1)) := by decide +kernel
theorem dJ5_appendNull_278bc_0 : decode cJ5_appendNull_278bc 0 = .ok (.aload_n 0, 1) := db4_24.1
theorem dJ5_appendNull_278bc_1 : decode cJ5_appendNull_278bc 1 = .ok (.aload_n 0, 1) := db4_24.2.1
theorem dJ5_appendNull_278bc_2 : decode cJ5_appendNull_278bc 2 = .ok (.getfield 79, 3) := db4_24.2.2.1
theorem dJ5_appendNull_278bc_5 : decode cJ5_appendNull_278bc 5 = .ok (.iconst 4, 1) := db4_24.2.2.2.1
theorem dJ5_appendNull_278bc_6 : decode cJ5_appendNull_278bc 6 = .ok (.iadd, 1) := db4_24.2.2.2.2.1
theorem dJ5_appendNull_278bc_7 : decode cJ5_appendNull_278bc 7 = .ok (.invokevirtual 100, 3) := db4_24.2.2.2.2.2.1
theorem dJ5_appendNull_278bc_10 : decode cJ5_appendNull_278bc 10 = .ok (.aload_n 0, 1) := db4_24.2.2.2.2.2.2.1
theorem dJ5_appendNull_278bc_11 : decode cJ5_appendNull_278bc 11 = .ok (.getfield 79, 3) := db4_24.2.2.2.2.2.2.2.1
theorem dJ5_appendNull_278bc_14 : decode cJ5_appendNull_278bc 14 = .ok (.istore_n 1, 1) := db4_24.2.2.2.2.2.2.2.2.1
theorem dJ5_appendNull_278bc_15 : decode cJ5_appendNull_278bc 15 = .ok (.aload_n 0, 1) := db4_24.2.2.2.2.2.2.2.2.2.1
theorem dJ5_appendNull_278bc_16 : decode cJ5_appendNull_278bc 16 = .ok (.getfield 15, 3) := db4_24.2.2.2.2.2.2.2.2.2.2.1
theorem dJ5_appendNull_278bc_19 : decode cJ5_appendNull_278bc 19 = .ok (.astore_n 2, 1) := db4_24.2.2.2.2.2.2.2.2.2.2.2.1
theorem dJ5_appendNull_278bc_20 : decode cJ5_appendNull_278bc 20 = .ok (.aload_n 0, 1) := db4_24.2.2.2.2.2.2.2.2.2.2.2.2.1
theorem dJ5_appendNull_278bc_21 : decode cJ5_appendNull_278bc 21 = .ok (.invokevirtual 83, 3) := db4_24.2.2.2.2.2.2.2.2.2.2.2.2.2.1
theorem dJ5_appendNull_278bc_24 : decode cJ5_appendNull_278bc 24 = .ok (.ifCond .eq 38, 3) := db4_24.2.2.2.2.2.2.2.2.2.2.2.2.2.2.1
theorem dJ5_appendNull_278bc_27 : decode cJ5_appendNull_278bc 27 = .ok (.aload_n 2, 1) := db4_24.2.2.2.2.2.2.2.2.2.2.2.2.2.2.2
theorem db4_25 : (decode cJ5_appendNull_278bc 28 = .ok (.iload_n 1, 1)) ∧ (decode cJ5_appendNull_278bc 29 = .ok (.iinc 1 1, 3)) ∧ (decode cJ5_appendNull_278bc 32 = .ok (.bipush 110, 2)) ∧ (decode cJ5_appendNull_278bc 34 = .ok (.bastore, 1)) ∧ (decode cJ5_appendNull_278bc 35 = .ok (.aload_n 2, 1)) ∧ (decode cJ5_appendNull_278bc 36 = .ok (.iload_n 1, 1)) ∧ (decode cJ5_appendNull_278bc 37 = .ok (.iinc 1 1, 3)) ∧ (decode cJ5_appendNull_278bc 40 = .ok (.bipush 117, 2)) ∧ (decode cJ5_appendNull_278bc 42 = .ok (.bastore, 1)) ∧ (decode cJ5_appendNull_278bc 43 = .ok (.aload_n 2, 1)) ∧ (decode cJ5_appendNull_278bc 44 = .ok (.iload_n 1, 1)) ∧ (decode cJ5_appendNull_278bc 45 = .ok (.iinc 1 1, 3)) ∧ (decode cJ5_appendNull_278bc 48 = .ok (.bipush 108, 2)) ∧ (decode cJ5_appendNull_278bc 50 = .ok (.bastore, 1)) ∧ (decode cJ5_appendNull_278bc 51 = .ok (.aload_n 2, 1)) ∧ (decode cJ5_appendNull_278bc 52 = .ok (.iload_n 1, 1)) := by decide +kernel
theorem dJ5_appendNull_278bc_28 : decode cJ5_appendNull_278bc 28 = .ok (.iload_n 1, 1) := db4_25.1
theorem dJ5_appendNull_278bc_29 : decode cJ5_appendNull_278bc 29 = .ok (.iinc 1 1, 3) := db4_25.2.1
theorem dJ5_appendNull_278bc_32 : decode cJ5_appendNull_278bc 32 = .ok (.bipush 110, 2) := db4_25.2.2.1
theorem dJ5_appendNull_278bc_34 : decode cJ5_appendNull_278bc 34 = .ok (.bastore, 1) := db4_25.2.2.2.1
theorem dJ5_appendNull_278bc_35 : decode cJ5_appendNull_278bc 35 = .ok (.aload_n 2, 1) := db4_25.2.2.2.2.1
theorem dJ5_appendNull_278bc_36 : decode cJ5_appendNull_278bc 36 = .ok (.iload_n 1, 1) := db4_25.2.2.2.2.2.1
theorem dJ5_appendNull_278bc_37 : decode cJ5_appendNull_278bc 37 = .ok (.iinc 1 1, 3) := db4_25.2.2.2.2.2.2.1
theorem dJ5_appendNull_278bc_40 : decode cJ5_appendNull_278bc 40 = .ok (.bipush 117, 2) := db4_25.2.2.2.2.2.2.2.1
theorem dJ5_appendNull_278bc_42 : decode cJ5_appendNull_278bc 42 = .ok (.bastore, 1) := db4_25.2.2.2.2.2.2.2.2.1
theorem dJ5_appendNull_278bc_43 : decode cJ5_appendNull_278bc 43 = .ok (.aload_n 2, 1) := db4_25.2.2.2.2.2.2.2.2.2.1
theorem dJ5_appendNull_278bc_44 : decode cJ5_appendNull_278bc 44 = .ok (.iload_n 1, 1) := db4_25.2.2.2.2.2.2.2.2.2.2.1
theorem dJ5_appendNull_278bc_45 : decode cJ5_appendNull_278bc 45 = .ok (.iinc 1 1, 3) := db4_25.2.2.2.2.2.2.2.2.2.2.2.1
theorem dJ5_appendNull_278bc_48 : decode cJ5_appendNull_278bc 48 = .ok (.bipush 108, 2) := db4_25.2.2.2.2.2.2.2.2.2.2.2.2.1
theorem dJ5_appendNull_278bc_50 : decode cJ5_appendNull_278bc 50 = .ok (.bastore, 1) := db4_25.2.2.2.2.2.2.2.2.2.2.2.2.2.1
theorem dJ5_appendNull_278bc_51 : decode cJ5_appendNull_278bc 51 = .ok (.aload_n 2, 1) := db4_25.2.2.2.2.2.2.2.2.2.2.2.2.2.2.1
theorem dJ5_appendNull_278bc_52 : decode cJ5_appendNull_278bc 52 = .ok (.iload_n 1, 1) := db4_25.2.2.2.2.2.2.2.2.2.2.2.2.2.2.2
theorem db4_26 : (decode cJ5_appendNull_278bc 53 = .ok (.iinc 1 1, 3)) ∧ (decode cJ5_appendNull_278bc 56 = .ok (.bipush 108, 2)) ∧ (decode cJ5_appendNull_278bc 58 = .ok (.bastore, 1)) ∧ (decode cJ5_appendNull_278bc 59 = .ok (.goto 17, 3)) ∧ (decode cJ5_appendNull_278bc 62 = .ok (.aload_n 2, 1)) ∧ (decode cJ5_appendNull_278bc 63 = .ok (.iload_n 1, 1)) ∧ (decode cJ5_appendNull_278bc 64 = .ok (.bipush 110, 2)) ∧ (decode cJ5_appendNull_278bc 66 = .ok (.bipush 117, 2)) ∧ (decode cJ5_appendNull_278bc 68 = .ok (.bipush 108, 2)) ∧ (decode cJ5_appendNull_278bc 70 = .ok (.bipush 108, 2)) ∧ (decode cJ5_appendNull_278bc 72 = .ok (.invokestatic 226, 3)) ∧ (decode cJ5_appendNull_278bc 75 = .ok (.istore_n 1, 1)) ∧ (decode cJ5_appendNull_278bc 76 = .ok (.aload_n 0, 1)) ∧ (decode cJ5_appendNull_278bc 77 = .ok (.iload_n 1, 1)) ∧ (decode cJ5_appendNull_278bc 78 = .ok (.putfield 79, 3)) ∧ (decode cJ5_appendNull_278bc 81 = .ok (.aload_n 0, 1)) := by decide +kernel
theorem dJ5_appendNull_278bc_53 : decode cJ5_appendNull_278bc 53 = .ok (.iinc 1 1, 3) := db4_26.1
theorem dJ5_appendNull_278bc_56 : decode cJ5_appendNull_278bc 56 = .ok (.bipush 108, 2) := db4_26.2.1
theorem dJ5_appendNull_278bc_58 : decode cJ5_appendNull_278bc 58 = .ok (.bastore, 1) := db4_26.2.2.1
theorem dJ5_appendNull_278bc_59 : decode cJ5_appendNull_278bc 59 = .ok (.goto 17, 3) := db4_26.2.2.2.1
theorem dJ5_appendNull_278bc_62 : decode cJ5_appendNull_278bc 62 = .ok (.aload_n 2, 1) := db4_26.2.2.2.2.1
theorem dJ5_appendNull_278bc_63 : decode cJ5_appendNull_278bc 63 = .ok (.iload_n 1, 1) := db4_26.2.2.2.2.2.1
theorem dJ5_appendNull_278bc_64 : decode cJ5_appendNull_278bc 64 = .ok (.bipush 110, 2) := db4_26.2.2.2.2.2.2.1
theorem dJ5_appendNull_278bc_66 : decode cJ5_appendNull_278bc 66 = .ok (.bipush 117, 2) := db4_26.2.2.2.2.2.2.2.1
theorem dJ5_appendNull_278bc_68 : decode cJ5_appendNull_278bc 68 = .ok (.bipush 108, 2) := db4_26.2.2.2.2.2.2.2.2.1
theorem dJ5_appendNull_278bc_70 : decode cJ5_appendNull_278bc 70 = .ok (.bipush 108, 2) := db4_26.2.2.2.2.2.2.2.2.2.1
theorem dJ5_appendNull_278bc_72 : decode cJ5_appendNull_278bc 72 = .ok (.invokestatic 226, 3) := db4_26.2.2.2.2.2.2.2.2.2.2.1
theorem dJ5_appendNull_278bc_75 : decode cJ5_appendNull_278bc 75 = .ok (.istore_n 1, 1) := db4_26.2.2.2.2.2.2.2.2.2.2.2.1
theorem dJ5_appendNull_278bc_76 : decode cJ5_appendNull_278bc 76 = .ok (.aload_n 0, 1) := db4_26.2.2.2.2.2.2.2.2.2.2.2.2.1
theorem dJ5_appendNull_278bc_77 : decode cJ5_appendNull_278bc 77 = .ok (.iload_n 1, 1) := db4_26.2.2.2.2.2.2.2.2.2.2.2.2.2.1
theorem dJ5_appendNull_278bc_78 : decode cJ5_appendNull_278bc 78 = .ok (.putfield 79, 3) := db4_26.2.2.2.2.2.2.2.2.2.2.2.2.2.2.1
theorem dJ5_appendNull_278bc_81 : decode cJ5_appendNull_278bc 81 = .ok (.aload_n 0, 1) := db4_26.2.2.2.2.2.2.2.2.2.2.2.2.2.2.2
theorem dJ5_appendNull_278bc_82 : decode cJ5_appendNull_278bc 82 = .ok (.areturn, 1) := by decide +kernel
theorem db4_27 : (decode cJ5_append_3fe6f 0 = .ok (.aload_n 0, 1)) ∧ (decode cJ5_append_3fe6f 1 = .ok (.aload_n 0, 1)) ∧ (decode cJ5_append_3fe6f 2 = .ok (.getfield 79, 3)) ∧ (decode cJ5_append_3fe6f 5 = .ok (.iconst 1, 1)) ∧ (decode cJ5_append_3fe6f 6 = .ok (.iadd, 1)) ∧ (decode cJ5_append_3fe6f 7 = .ok (.invokevirtual 100, 3)) ∧ (decode cJ5_append_3fe6f 10 = .ok (.aload_n 0, 1)) ∧ (decode cJ5_append_3fe6f 11 = .ok (.invokevirtual 83, 3)) ∧ (decode cJ5_append_3fe6f 14 = .ok (.ifCond .eq 31, 3)) ∧ (decode cJ5_append_3fe6f 17 = .ok (.iload_n 1, 1)) ∧ (decode cJ5_append_3fe6f 18 = .ok (.invokestatic 191, 3)) ∧ (decode cJ5_append_3fe6f 21 = .ok (.ifCond .eq 24, 3)) ∧ (decode cJ5_append_3fe6f 24 = .ok (.aload_n 0, 1)) ∧ (decode cJ5_append_3fe6f 25 = .ok (.getfield 15, 3)) ∧ (decode cJ5_append_3fe6f 28 = .ok (.aload_n 0, 1)) ∧ (decode cJ5_append_3fe6f 29 = .ok (.dup, 1)) := by decide +kernel
theorem dJ5_append_3fe6f_0 : decode cJ5_append_3fe6f 0 = .ok (.aload_n 0, 1) := db4_27.1
theorem dJ5_append_3fe6f_1 : decode cJ5_append_3fe6f 1 = .ok (.aload_n 0, 1) := db4_27.2.1
theorem dJ5_append_3fe6f_2 : decode cJ5_append_3fe6f 2 = .ok (.getfield 79, 3) := db4_27.2.2.1
theorem dJ5_append_3fe6f_5 : decode cJ5_append_3fe6f 5 = .ok (.iconst 1, 1) := db4_27.2.2.2.1
theorem dJ5_append_3fe6f_6 : decode cJ5_append_3fe6f 6 = .ok (.iadd, 1) := db4_27.2.2.2.2.1
theorem dJ5_append_3fe6f_7 : decode cJ5_append_3fe6f 7 = .ok (.invokevirtual 100, 3) := db4_27.2.2.2.2.2.1
theorem dJ5_append_3fe6f_10 : decode cJ5_append_3fe6f 10 = .ok (.aload_n 0, 1) := db4_27.2.2.2.2.2.2.1
theorem dJ5_append_3fe6f_11 : decode cJ5_append_3fe6f 11 = .ok (.invokevirtual 83, 3) := db4_27.2.2.2.2.2.2.2.1
theorem dJ5_append_3fe6f_14 : decode cJ5_append_3fe6f 14 = .ok (.ifCond .eq 31, 3) := db4_27.2.2.2.2.2.2.2.2.1
theorem dJ5_append_3fe6f_17 : decode cJ5_append_3fe6f 17 = .ok (.iload_n 1, 1) := db4_27.2.2.2.2.2.2.2.2.2.1
theorem dJ5_append_3fe6f_18 : decode cJ5_append_3fe6f 18 = .ok (.invokestatic 191, 3) := db4_27.2.2.2.2.2.2.2.2.2.2.1
theorem dJ5_append_3fe6f_21 : decode cJ5_append_3fe6f 21 = .ok (.ifCond .eq 24, 3) := db4_27.2.2.2.2.2.2.2.2.2.2.2.1
theorem dJ5_append_3fe6f_24 : decode cJ5_append_3fe6f 24 = .ok (.aload_n 0, 1) := db4_27.2.2.2.2.2.2.2.2.2.2.2.2.1
theorem dJ5_append_3fe6f_25 : decode cJ5_append_3fe6f 25 = .ok (.getfield 15, 3) := db4_27.2.2.2.2.2.2.2.2.2.2.2.2.2.1
theorem dJ5_append_3fe6f_28 : decode cJ5_append_3fe6f 28 = .ok (.aload_n 0, 1) := db4_27.2.2.2.2.2.2.2.2.2.2.2.2.2.2.1
theorem dJ5_append_3fe6f_29 : decode cJ5_append_3fe6f 29 = .ok (.dup, 1) := db4_27.2.2.2.2.2.2.2.2.2.2.2.2.2.2.2
theorem db4_28 : (decode cJ5_append_3fe6f 30 = .ok (.getfield 79, 3)) ∧ (decode cJ5_append_3fe6f 33 = .ok (.dup_x1, 1)) ∧ (decode cJ5_append_3fe6f 34 = .ok (.iconst 1, 1)) ∧ (decode cJ5_append_3fe6f 35 = .ok (.iadd, 1)) ∧ (decode cJ5_append_3fe6f 36 = .ok (.putfield 79, 3)) ∧ (decode cJ5_append_3fe6f 39 = .ok (.iload_n 1, 1)) ∧ (decode cJ5_append_3fe6f 40 = .ok (.i2b, 1)) ∧ (decode cJ5_append_3fe6f 41 = .ok (.bastore, 1)) ∧ (decode cJ5_append_3fe6f 42 = .ok (.goto 33, 3)) ∧ (decode cJ5_append_3fe6f 45 = .ok (.aload_n 0, 1)) ∧ (decode cJ5_append_3fe6f 46 = .ok (.invokevirtual 83, 3)) ∧ (decode cJ5_append_3fe6f 49 = .ok (.ifCond .eq 7, 3)) ∧ (decode cJ5_append_3fe6f 52 = .ok (.aload_n 0, 1)) ∧ (decode cJ5_append_3fe6f 53 = .ok (.invokevirtual 195, 3)) ∧ (decode cJ5_append_3fe6f 56 = .ok (.aload_n 0, 1)) ∧ (decode cJ5_append_3fe6f 57 = .ok (.getfield 15, 3)) := by decide +kernel
theorem dJ5_append_3fe6f_30 : decode cJ5_append_3fe6f 30 = .ok (.getfield 79, 3) := db4_28.1
theorem dJ5_append_3fe6f_33 : decode cJ5_append_3fe6f 33 = .ok (.dup_x1, 1) := db4_28.2.1
theorem dJ5_append_3fe6f_34 : decode cJ5_append_3fe6f 34 = .ok (.iconst 1, 1) := db4_28.2.2.1
theorem dJ5_append_3fe6f_35 : decode cJ5_append_3fe6f 35 = .ok (.iadd, 1) := db4_28.2.2.2.1
theorem dJ5_append_3fe6f_36 : decode cJ5_append_3fe6f 36 = .ok (.putfield 79, 3) := db4_28.2.2.2.2.1
theorem dJ5_append_3fe6f_39 : decode cJ5_append_3fe6f 39 = .ok (.iload_n 1, 1) := db4_28.2.2.2.2.2.1
theorem dJ5_append_3fe6f_40 : decode cJ5_append_3fe6f 40 = .ok (.i2b, 1) := db4_28.2.2.2.2.2.2.1
theorem dJ5_append_3fe6f_41 : decode cJ5_append_3fe6f 41 = .ok (.bastore, 1) := db4_28.2.2.2.2.2.2.2.1
theorem dJ5_append_3fe6f_42 : decode cJ5_append_3fe6f 42 = .ok (.goto 33, 3) := db4_28.2.2.2.2.2.2.2.2.1
theorem dJ5_append_3fe6f_45 : decode cJ5_append_3fe6f 45 = .ok (.aload_n 0, 1) := db4_28.2.2.2.2.2.2.2.2.2.1
theorem dJ5_append_3fe6f_46 : decode cJ5_append_3fe6f 46 = .ok (.invokevirtual 83, 3) := db4_28.2.2.2.2.2.2.2.2.2.2.1
theorem dJ5_append_3fe6f_49 : decode cJ5_append_3fe6f 49 = .ok (.ifCond .eq 7, 3) := db4_28.2.2.2.2.2.2.2.2.2.2.2.1
theorem dJ5_append_3fe6f_52 : decode cJ5_append_3fe6f 52 = .ok (.aload_n 0, 1) := db4_28.2.2.2.2.2.2.2.2.2.2.2.2.1
theorem dJ5_append_3fe6f_53 : decode cJ5_append_3fe6f 53 = .ok (.invokevirtual 195, 3) := db4_28.2.2.2.2.2.2.2.2.2.2.2.2.2.1
theorem dJ5_append_3fe6f_56 : decode cJ5_append_3fe6f 56 = .ok (.aload_n 0, 1) := db4_28.2.2.2.2.2.2.2.2.2.2.2.2.2.2.1
theorem dJ5_append_3fe6f_57 : decode cJ5_append_3fe6f 57 = .ok (.getfield 15, 3) := db4_28.2.2.2.2.2.2.2.2.2.2.2.2.2.2.2
theorem db4_29 : (decode cJ5_append_3fe6f 60 = .ok (.aload_n 0, 1)) ∧ (decode cJ5_append_3fe6f 61 = .ok (.dup, 1)) ∧ (decode cJ5_append_3fe6f 62 = .ok (.getfield 79, 3)) ∧ (decode cJ5_append_3fe6f 65 = .ok (.dup_x1, 1)) ∧ (decode cJ5_append_3fe6f 66 = .ok (.iconst 1, 1)) ∧ (decode cJ5_append_3fe6f 67 = .ok (.iadd, 1)) ∧ (decode cJ5_append_3fe6f 68 = .ok (.putfield 79, 3)) ∧ (decode cJ5_append_3fe6f 71 = .ok (.iload_n 1, 1)) ∧ (decode cJ5_append_3fe6f 72 = .ok (.invokestatic 197, 3)) ∧ (decode cJ5_append_3fe6f 75 = .ok (.aload_n 0, 1)) ∧ (decode cJ5_append_3fe6f 76 = .ok (.areturn, 1)) := by decide +kernel
theorem dJ5_append_3fe6f_60 : decode cJ5_append_3fe6f 60 = .ok (.aload_n 0, 1) := db4_29.1
theorem dJ5_append_3fe6f_61 : decode cJ5_append_3fe6f 61 = .ok (.dup, 1) := db4_29.2.1
theorem dJ5_append_3fe6f_62 : decode cJ5_append_3fe6f 62 = .ok (.getfield 79, 3) := db4_29.2.2.1
theorem dJ5_append_3fe6f_65 : decode cJ5_append_3fe6f 65 = .ok (.dup_x1, 1) := db4_29.2.2.2.1
theorem dJ5_append_3fe6f_66 : decode cJ5_append_3fe6f 66 = .ok (.iconst 1, 1) := db4_29.2.2.2.2.1
theorem dJ5_append_3fe6f_67 : decode cJ5_append_3fe6f 67 = .ok (.iadd, 1) := db4_29.2.2.2.2.2.1
theorem dJ5_append_3fe6f_68 : decode cJ5_append_3fe6f 68 = .ok (.putfield 79, 3) := db4_29.2.2.2.2.2.2.1
theorem dJ5_append_3fe6f_71 : decode cJ5_append_3fe6f 71 = .ok (.iload_n 1, 1) := db4_29.2.2.2.2.2.2.2.1
theorem dJ5_append_3fe6f_72 : decode cJ5_append_3fe6f 72 = .ok (.invokestatic 197, 3) := db4_29.2.2.2.2.2.2.2.2.1
theorem dJ5_append_3fe6f_75 : decode cJ5_append_3fe6f 75 = .ok (.aload_n 0, 1) := db4_29.2.2.2.2.2.2.2.2.2.1
theorem dJ5_append_3fe6f_76 : decode cJ5_append_3fe6f 76 = .ok (.areturn, 1) := db4_29.2.2.2.2.2.2.2.2.2.2
theorem db4_30 : (decode cJ5_append_c97b9 0 = .ok (.aload_n 0, 1)) ∧ (decode cJ5_append_c97b9 1 = .ok (.getfield 79, 3)) ∧ (decode cJ5_append_c97b9 4 = .ok (.istore_n 2, 1)) ∧ (decode cJ5_append_c97b9 5 = .ok (.iload_n 2, 1)) ∧ (decode cJ5_append_c97b9 6 = .ok (.iload_n 1, 1)) ∧ (decode cJ5_append_c97b9 7 = .ok (.invokestatic 245, 3)) ∧ (decode cJ5_append_c97b9 10 = .ok (.iadd, 1)) ∧ (decode cJ5_append_c97b9 11 = .ok (.istore_n 3, 1)) ∧ (decode cJ5_append_c97b9 12 = .ok (.aload_n 0, 1)) ∧ (decode cJ5_append_c97b9 13 = .ok (.iload_n 3, 1)) ∧ (decode cJ5_append_c97b9 14 = .ok (.invokevirtual 100, 3)) ∧ (decode cJ5_append_c97b9 17 = .ok (.aload_n 0, 1)) ∧ (decode cJ5_append_c97b9 18 = .ok (.invokevirtual 83, 3)) ∧ (decode cJ5_append_c97b9 21 = .ok (.ifCond .eq 16, 3)) ∧ (decode cJ5_append_c97b9 24 = .ok (.iload_n 1, 1)) ∧ (decode cJ5_append_c97b9 25 = .ok (.iload_n 3, 1)) := by decide +kernel
theorem dJ5_append_c97b9_0 : decode cJ5_append_c97b9 0 = .ok (.aload_n 0, 1) := db4_30.1
theorem dJ5_append_c97b9_1 : decode cJ5_append_c97b9 1 = .ok (.getfield 79, 3) := db4_30.2.1
theorem dJ5_append_c97b9_4 : decode cJ5_append_c97b9 4 = .ok (.istore_n 2, 1) := db4_30.2.2.1
theorem dJ5_append_c97b9_5 : decode cJ5_append_c97b9 5 = .ok (.iload_n 2, 1) := db4_30.2.2.2.1
theorem dJ5_append_c97b9_6 : decode cJ5_append_c97b9 6 = .ok (.iload_n 1, 1) := db4_30.2.2.2.2.1
theorem dJ5_append_c97b9_7 : decode cJ5_append_c97b9 7 = .ok (.invokestatic 245, 3) := db4_30.2.2.2.2.2.1
theorem dJ5_append_c97b9_10 : decode cJ5_append_c97b9 10 = .ok (.iadd, 1) := db4_30.2.2.2.2.2.2.1
theorem dJ5_append_c97b9_11 : decode cJ5_append_c97b9 11 = .ok (.istore_n 3, 1) := db4_30.2.2.2.2.2.2.2.1
theorem dJ5_append_c97b9_12 : decode cJ5_append_c97b9 12 = .ok (.aload_n 0, 1) := db4_30.2.2.2.2.2.2.2.2.1
theorem dJ5_append_c97b9_13 : decode cJ5_append_c97b9 13 = .ok (.iload_n 3, 1) := db4_30.2.2.2.2.2.2.2.2.2.1
theorem dJ5_append_c97b9_14 : decode cJ5_append_c97b9 14 = .ok (.invokevirtual 100, 3) := db4_30.2.2.2.2.2.2.2.2.2.2.1
theorem dJ5_append_c97b9_17 : decode cJ5_append_c97b9 17 = .ok (.aload_n 0, 1) := db4_30.2.2.2.2.2.2.2.2.2.2.2.1
theorem dJ5_append_c97b9_18 : decode cJ5_append_c97b9 18 = .ok (.invokevirtual 83, 3) := db4_30.2.2.2.2.2.2.2.2.2.2.2.2.1
theorem dJ5_append_c97b9_21 : decode cJ5_append_c97b9 21 = .ok (.ifCond .eq 16, 3) := db4_30.2.2.2.2.2.2.2.2.2.2.2.2.2.1
theorem dJ5_append_c97b9_24 : decode cJ5_append_c97b9 24 = .ok (.iload_n 1, 1) := db4_30.2.2.2.2.2.2.2.2.2.2.2.2.2.2.1
theorem dJ5_append_c97b9_25 : decode cJ5_append_c97b9 25 = .ok (.iload_n 3, 1) := db4_30.2.2.2.2.2.2.2.2.2.2.2.2.2.2.2
theorem db4_31 : (decode cJ5_append_c97b9 26 = .ok (.aload_n 0, 1)) ∧ (decode cJ5_append_c97b9 27 = .ok (.getfield 15, 3)) ∧ (decode cJ5_append_c97b9 30 = .ok (.invokestatic 248, 3)) ∧ (decode cJ5_append_c97b9 33 = .ok (.pop, 1)) ∧ (decode cJ5_append_c97b9 34 = .ok (.goto 14, 3)) ∧ (decode cJ5_append_c97b9 37 = .ok (.iload_n 1, 1)) ∧ (decode cJ5_append_c97b9 38 = .ok (.iload_n 2, 1)) ∧ (decode cJ5_append_c97b9 39 = .ok (.iload_n 3, 1)) ∧ (decode cJ5_append_c97b9 40 = .ok (.aload_n 0, 1)) ∧ (decode cJ5_append_c97b9 41 = .ok (.getfield 15, 3)) ∧ (decode cJ5_append_c97b9 44 = .ok (.invokestatic 251, 3)) ∧ (decode cJ5_append_c97b9 47 = .ok (.pop, 1)) ∧ (decode cJ5_append_c97b9 48 = .ok (.aload_n 0, 1)) ∧ (decode cJ5_append_c97b9 49 = .ok (.iload_n 3, 1)) ∧ (decode cJ5_append_c97b9 50 = .ok (.putfield 79, 3)) ∧ (decode cJ5_append_c97b9 53 = .ok (.aload_n 0, 1)) := by decide +kernel
theorem dJ5_append_c97b9_26 : decode cJ5_append_c97b9 26 = .ok (.aload_n 0, 1) := db4_31.1
theorem dJ5_append_c97b9_27 : decode cJ5_append_c97b9 27 = .ok (.getfield 15, 3) := db4_31.2.1
theorem dJ5_append_c97b9_30 : decode cJ5_append_c97b9 30 = .ok (.invokestatic 248, 3) := db4_31.2.2.1
theorem dJ5_append_c97b9_33 : decode cJ5_append_c97b9 33 = .ok (.pop, 1) := db4_31.2.2.2.1
theorem dJ5_append_c97b9_34 : decode cJ5_append_c97b9 34 = .ok (.goto 14, 3) := db4_31.2.2.2.2.1
theorem dJ5_append_c97b9_37 : decode cJ5_append_c97b9 37 = .ok (.iload_n 1, 1) := db4_31.2.2.2.2.2.1
theorem dJ5_append_c97b9_38 : decode cJ5_append_c97b9 38 = .ok (.iload_n 2, 1) := db4_31.2.2.2.2.2.2.1
theorem dJ5_append_c97b9_39 : decode cJ5_append_c97b9 39 = .ok (.iload_n 3, 1) := db4_31.2.2.2.2.2.2.2.1
theorem dJ5_append_c97b9_40 : decode cJ5_append_c97b9 40 = .ok (.aload_n 0, 1) := db4_31.2.2.2.2.2.2.2.2.1
theorem dJ5_append_c97b9_41 : decode cJ5_append_c97b9 41 = .ok (.getfield 15, 3) := db4_31.2.2.2.2.2.2.2.2.2.1
theorem dJ5_append_c97b9_44 : decode cJ5_append_c97b9 44 = .ok (.invokestatic 251, 3) := db4_31.2.2.2.2.2.2.2.2.2.2.1
theorem dJ5_append_c97b9_47 : decode cJ5_append_c97b9 47 = .ok (.pop, 1) := db4_31.2.2.2.2.2.2.2.2.2.2.2.1
theorem dJ5_append_c97b9_48 : decode cJ5_append_c97b9 48 = .ok (.aload_n 0, 1) := db4_31.2.2.2.2.2.2.2.2.2.2.2.2.1
theorem dJ5_append_c97b9_49 : decode cJ5_append_c97b9 49 = .ok (.iload_n 3, 1) := db4_31.2.2.2.2.2.2.2.2.2.2.2.2.2.1
theorem dJ5_append_c97b9_50 : decode cJ5_append_c97b9 50 = .ok (.putfield 79, 3) := db4_31.2.2.2.2.2.2.2.2.2.2.2.2.2.2.1
theorem dJ5_append_c97b9_53 : decode cJ5_append_c97b9 53 = .ok (.aload_n 0, 1) := db4_31.2.2.2.2.2.2.2.2.2.2.2.2.2.2.2
theorem dJ5_append_c97b9_54 : decode cJ5_append_c97b9 54 = .ok (.areturn, 1) := by decide +kernel
theorem db4_32 : (decode cJ5_getValue_6d5f1 0 = .ok (.aload_n 0, 1)) ∧ (decode cJ5_getValue_6d5f1 1 = .ok (.getfield 15, 3)) ∧ (decode cJ5_getValue_6d5f1 4 = .ok (.areturn, 1)) := by decide +kernel
theorem dJ5_getValue_6d5f1_0 : decode cJ5_getValue_6d5f1 0 = .ok (.aload_n 0, 1) := db4_32.1
theorem dJ5_getValue_6d5f1_1 : decode cJ5_getValue_6d5f1 1 = .ok (.getfield 15, 3) := db4_32.2.1
theorem dJ5_getValue_6d5f1_4 : decode cJ5_getValue_6d5f1 4 = .ok (.areturn, 1) := db4_32.2.2
theorem db4_33 : (decode cJ5_isLatin1_aae02 0 = .ok (.getstatic 18, 3)) ∧ (decode cJ5_isLatin1_aae02 3 = .ok (.ifCond .eq 14, 3)) ∧ (decode cJ5_isLatin1_aae02 6 = .ok (.aload_n 0, 1)) ∧ (decode cJ5_isLatin1_aae02 7 = .ok (.getfield 22, 3)) ∧ (decode cJ5_isLatin1_aae02 10 = .ok (.ifCond .ne 7, 3)) ∧ (decode cJ5_isLatin1_aae02 13 = .ok (.iconst 1, 1)) ∧ (decode cJ5_isLatin1_aae02 14 = .ok (.goto 4, 3)) ∧ (decode cJ5_isLatin1_aae02 17 = .ok (.iconst 0, 1)) ∧ (decode cJ5_isLatin1_aae02 18 = .ok (.ireturn, 1)) := by decide +kernel
theorem dJ5_isLatin1_aae02_0 : decode cJ5_isLatin1_aae02 0 = .ok (.getstatic 18, 3) := db4_33.1
theorem dJ5_isLatin1_aae02_3 : decode cJ5_isLatin1_aae02 3 = .ok (.ifCond .eq 14, 3) := db4_33.2.1
theorem dJ5_isLatin1_aae02_6 : decode cJ5_isLatin1_aae02 6 = .ok (.aload_n 0, 1) := db4_33.2.2.1
theorem dJ5_isLatin1_aae02_7 : decode cJ5_isLatin1_aae02 7 = .ok (.getfield 22, 3) := db4_33.2.2.2.1
theorem dJ5_isLatin1_aae02_10 : decode cJ5_isLatin1_aae02 10 = .ok (.ifCond .ne 7, 3) := db4_33.2.2.2.2.1
theorem dJ5_isLatin1_aae02_13 : decode cJ5_isLatin1_aae02 13 = .ok (.iconst 1, 1) := db4_33.2.2.2.2.2.1
theorem dJ5_isLatin1_aae02_14 : decode cJ5_isLatin1_aae02 14 = .ok (.goto 4, 3) := db4_33.2.2.2.2.2.2.1
theorem dJ5_isLatin1_aae02_17 : decode cJ5_isLatin1_aae02 17 = .ok (.iconst 0, 1) := db4_33.2.2.2.2.2.2.2.1
theorem dJ5_isLatin1_aae02_18 : decode cJ5_isLatin1_aae02 18 = .ok (.ireturn, 1) := db4_33.2.2.2.2.2.2.2.2
theorem db4_34 : (decode cJ5_inflateIfNeededFor_a7421 0 = .ok (.getstatic 18, 3)) ∧ (decode cJ5_inflateIfNeededFor_a7421 3 = .ok (.ifCond .eq 18, 3)) ∧ (decode cJ5_inflateIfNeededFor_a7421 6 = .ok (.aload_n 0, 1)) ∧ (decode cJ5_inflateIfNeededFor_a7421 7 = .ok (.getfield 22, 3)) ∧ (decode cJ5_inflateIfNeededFor_a7421 10 = .ok (.aload_n 1, 1)) ∧ (decode cJ5_inflateIfNeededFor_a7421 11 = .ok (.invokevirtual 40, 3)) ∧ (decode cJ5_inflateIfNeededFor_a7421 14 = .ok (.if_icmp .eq 7, 3)) ∧ (decode cJ5_inflateIfNeededFor_a7421 17 = .ok (.aload_n 0, 1)) ∧ (decode cJ5_inflateIfNeededFor_a7421 18 = .ok (.invokevirtual 195, 3)) ∧ (decode cJ5_inflateIfNeededFor_a7421 21 = .ok (.return_, 1)) := by decide +kernel
theorem dJ5_inflateIfNeededFor_a7421_0 : decode cJ5_inflateIfNeededFor_a7421 0 = .ok (.getstatic 18, 3) := db4_34.1
theorem dJ5_inflateIfNeededFor_a7421_3 : decode cJ5_inflateIfNeededFor_a7421 3 = .ok (.ifCond .eq 18, 3) := db4_34.2.1
theorem dJ5_inflateIfNeededFor_a7421_6 : decode cJ5_inflateIfNeededFor_a7421 6 = .ok (.aload_n 0, 1) := db4_34.2.2.1
theorem dJ5_inflateIfNeededFor_a7421_7 : decode cJ5_inflateIfNeededFor_a7421 7 = .ok (.getfield 22, 3) := db4_34.2.2.2.1
theorem dJ5_inflateIfNeededFor_a7421_10 : decode cJ5_inflateIfNeededFor_a7421 10 = .ok (.aload_n 1, 1) := db4_34.2.2.2.2.1
theorem dJ5_inflateIfNeededFor_a7421_11 : decode cJ5_inflateIfNeededFor_a7421 11 = .ok (.invokevirtual 40, 3) := db4_34.2.2.2.2.2.1
theorem dJ5_inflateIfNeededFor_a7421_14 : decode cJ5_inflateIfNeededFor_a7421 14 = .ok (.if_icmp .eq 7, 3) := db4_34.2.2.2.2.2.2.1
theorem dJ5_inflateIfNeededFor_a7421_17 : decode cJ5_inflateIfNeededFor_a7421 17 = .ok (.aload_n 0, 1) := db4_34.2.2.2.2.2.2.2.1
theorem dJ5_inflateIfNeededFor_a7421_18 : decode cJ5_inflateIfNeededFor_a7421 18 = .ok (.invokevirtual 195, 3) := db4_34.2.2.2.2.2.2.2.2.1
theorem dJ5_inflateIfNeededFor_a7421_21 : decode cJ5_inflateIfNeededFor_a7421 21 = .ok (.return_, 1) := db4_34.2.2.2.2.2.2.2.2.2
theorem db4_35 : (decode cJ5_putStringAt_47b60 0 = .ok (.aload_n 0, 1)) ∧ (decode cJ5_putStringAt_47b60 1 = .ok (.aload_n 2, 1)) ∧ (decode cJ5_putStringAt_47b60 2 = .ok (.invokevirtual 397, 3)) ∧ (decode cJ5_putStringAt_47b60 5 = .ok (.aload_n 2, 1)) ∧ (decode cJ5_putStringAt_47b60 6 = .ok (.aload_n 0, 1)) ∧ (decode cJ5_putStringAt_47b60 7 = .ok (.getfield 15, 3)) ∧ (decode cJ5_putStringAt_47b60 10 = .ok (.iload_n 1, 1)) ∧ (decode cJ5_putStringAt_47b60 11 = .ok (.aload_n 0, 1)) ∧ (decode cJ5_putStringAt_47b60 12 = .ok (.getfield 22, 3)) ∧ (decode cJ5_putStringAt_47b60 15 = .ok (.invokevirtual 399, 3)) ∧ (decode cJ5_putStringAt_47b60 18 = .ok (.return_, 1)) := by decide +kernel
theorem dJ5_putStringAt_47b60_0 : decode cJ5_putStringAt_47b60 0 = .ok (.aload_n 0, 1) := db4_35.1
theorem dJ5_putStringAt_47b60_1 : decode cJ5_putStringAt_47b60 1 = .ok (.aload_n 2, 1) := db4_35.2.1
theorem dJ5_putStringAt_47b60_2 : decode cJ5_putStringAt_47b60 2 = .ok (.invokevirtual 397, 3) := db4_35.2.2.1
theorem dJ5_putStringAt_47b60_5 : decode cJ5_putStringAt_47b60 5 = .ok (.aload_n 2, 1) := db4_35.2.2.2.1
theorem dJ5_putStringAt_47b60_6 : decode cJ5_putStringAt_47b60 6 = .ok (.aload_n 0, 1) := db4_35.2.2.2.2.1
theorem dJ5_putStringAt_47b60_7 : decode cJ5_putStringAt_47b60 7 = .ok (.getfield 15, 3) := db4_35.2.2.2.2.2.1
theorem dJ5_putStringAt_47b60_10 : decode cJ5_putStringAt_47b60 10 = .ok (.iload_n 1, 1) := db4_35.2.2.2.2.2.2.1
theorem dJ5_putStringAt_47b60_11 : decode cJ5_putStringAt_47b60 11 = .ok (.aload_n 0, 1) := db4_35.2.2.2.2.2.2.2.1
theorem dJ5_putStringAt_47b60_12 : decode cJ5_putStringAt_47b60 12 = .ok (.getfield 22, 3) := db4_35.2.2.2.2.2.2.2.2.1
theorem dJ5_putStringAt_47b60_15 : decode cJ5_putStringAt_47b60 15 = .ok (.invokevirtual 399, 3) := db4_35.2.2.2.2.2.2.2.2.2.1
theorem dJ5_putStringAt_47b60_18 : decode cJ5_putStringAt_47b60 18 = .ok (.return_, 1) := db4_35.2.2.2.2.2.2.2.2.2.2
theorem db4_36 : (decode cJx00060_init_d00df 0 = .ok (.aload_n 0, 1)) ∧ (decode cJx00060_init_d00df 1 = .ok (.new 10, 3)) ∧ (decode cJx00060_init_d00df 4 = .ok (.dup, 1)) ∧ (decode cJx00060_init_d00df 5 = .ok (.invokespecial 12, 3)) ∧ (decode cJx00060_init_d00df 8 = .ok (.ldc 13, 2)) ∧ (decode cJx00060_init_d00df 10 = .ok (.invokevirtual 15, 3)) ∧ (decode cJx00060_init_d00df 13 = .ok (.iload_n 1, 1)) ∧ (decode cJx00060_init_d00df 14 = .ok (.invokevirtual 19, 3)) ∧ (decode cJx00060_init_d00df 17 = .ok (.invokevirtual 22, 3)) ∧ (decode cJx00060_init_d00df 20 = .ok (.invokespecial 7, 3)) ∧ (decode cJx00060_init_d00df 23 = .ok (.return_, 1)) := by decide +kernel
theorem dJx00060_init_d00df_0 : decode cJx00060_init_d00df 0 = .ok (.aload_n 0, 1) := db4_36.1
theorem dJx00060_init_d00df_1 : decode cJx00060_init_d00df 1 = .ok (.new 10, 3) := db4_36.2.1
theorem dJx00060_init_d00df_4 : decode cJx00060_init_d00df 4 = .ok (.dup, 1) := db4_36.2.2.1
theorem dJx00060_init_d00df_5 : decode cJx00060_init_d00df 5 = .ok (.invokespecial 12, 3) := db4_36.2.2.2.1
theorem dJx00060_init_d00df_8 : decode cJx00060_init_d00df 8 = .ok (.ldc 13, 2) := db4_36.2.2.2.2.1
theorem dJx00060_init_d00df_10 : decode cJx00060_init_d00df 10 = .ok (.invokevirtual 15, 3) := db4_36.2.2.2.2.2.1
theorem dJx00060_init_d00df_13 : decode cJx00060_init_d00df 13 = .ok (.iload_n 1, 1) := db4_36.2.2.2.2.2.2.1
theorem dJx00060_init_d00df_14 : decode cJx00060_init_d00df 14 = .ok (.invokevirtual 19, 3) := db4_36.2.2.2.2.2.2.2.1
theorem dJx00060_init_d00df_17 : decode cJx00060_init_d00df 17 = .ok (.invokevirtual 22, 3) := db4_36.2.2.2.2.2.2.2.2.1
theorem dJx00060_init_d00df_20 : decode cJx00060_init_d00df 20 = .ok (.invokespecial 7, 3) := db4_36.2.2.2.2.2.2.2.2.2.1
theorem dJx00060_init_d00df_23 : decode cJx00060_init_d00df 23 = .ok (.return_, 1) := db4_36.2.2.2.2.2.2.2.2.2.2
theorem db4_37 : (decode cJ6_getChars_ba4f3 0 = .ok (.iload_n 1, 1)) ∧ (decode cJ6_getChars_ba4f3 1 = .ok (.istore 5, 2)) ∧ (decode cJ6_getChars_ba4f3 3 = .ok (.iload_n 0, 1)) ∧ (decode cJ6_getChars_ba4f3 4 = .ok (.ifCond .ge 7, 3)) ∧ (decode cJ6_getChars_ba4f3 7 = .ok (.iconst 1, 1)) ∧ (decode cJ6_getChars_ba4f3 8 = .ok (.goto 4, 3)) ∧ (decode cJ6_getChars_ba4f3 11 = .ok (.iconst 0, 1)) ∧ (decode cJ6_getChars_ba4f3 12 = .ok (.istore 6, 2)) ∧ (decode cJ6_getChars_ba4f3 14 = .ok (.iload 6, 2)) ∧ (decode cJ6_getChars_ba4f3 16 = .ok (.ifCond .ne 6, 3)) ∧ (decode cJ6_getChars_ba4f3 19 = .ok (.iload_n 0, 1)) ∧ (decode cJ6_getChars_ba4f3 20 = .ok (.ineg, 1)) ∧ (decode cJ6_getChars_ba4f3 21 = .ok (.istore_n 0, 1)) ∧ (decode cJ6_getChars_ba4f3 22 = .ok (.iload_n 0, 1)) ∧ (decode cJ6_getChars_ba4f3 23 = .ok (.bipush (-100), 2)) ∧ (decode cJ6_getChars_ba4f3 25 = .ok (.if_icmp .gt 47, 3)) := by decide +kernel
theorem dJ6_getChars_ba4f3_0 : decode cJ6_getChars_ba4f3 0 = .ok (.iload_n 1, 1) := db4_37.1
theorem dJ6_getChars_ba4f3_1 : decode cJ6_getChars_ba4f3 1 = .ok (.istore 5, 2) := db4_37.2.1
theorem dJ6_getChars_ba4f3_3 : decode cJ6_getChars_ba4f3 3 = .ok (.iload_n 0, 1) := db4_37.2.2.1
theorem dJ6_getChars_ba4f3_4 : decode cJ6_getChars_ba4f3 4 = .ok (.ifCond .ge 7, 3) := db4_37.2.2.2.1
theorem dJ6_getChars_ba4f3_7 : decode cJ6_getChars_ba4f3 7 = .ok (.iconst 1, 1) := db4_37.2.2.2.2.1
theorem dJ6_getChars_ba4f3_8 : decode cJ6_getChars_ba4f3 8 = .ok (.goto 4, 3) := db4_37.2.2.2.2.2.1
theorem dJ6_getChars_ba4f3_11 : decode cJ6_getChars_ba4f3 11 = .ok (.iconst 0, 1) := db4_37.2.2.2.2.2.2.1
theorem dJ6_getChars_ba4f3_12 : decode cJ6_getChars_ba4f3 12 = .ok (.istore 6, 2) := db4_37.2.2.2.2.2.2.2.1
theorem dJ6_getChars_ba4f3_14 : decode cJ6_getChars_ba4f3 14 = .ok (.iload 6, 2) := db4_37.2.2.2.2.2.2.2.2.1
theorem dJ6_getChars_ba4f3_16 : decode cJ6_getChars_ba4f3 16 = .ok (.ifCond .ne 6, 3) := db4_37.2.2.2.2.2.2.2.2.2.1
theorem dJ6_getChars_ba4f3_19 : decode cJ6_getChars_ba4f3 19 = .ok (.iload_n 0, 1) := db4_37.2.2.2.2.2.2.2.2.2.2.1
theorem dJ6_getChars_ba4f3_20 : decode cJ6_getChars_ba4f3 20 = .ok (.ineg, 1) := db4_37.2.2.2.2.2.2.2.2.2.2.2.1
theorem dJ6_getChars_ba4f3_21 : decode cJ6_getChars_ba4f3 21 = .ok (.istore_n 0, 1) := db4_37.2.2.2.2.2.2.2.2.2.2.2.2.1
theorem dJ6_getChars_ba4f3_22 : decode cJ6_getChars_ba4f3 22 = .ok (.iload_n 0, 1) := db4_37.2.2.2.2.2.2.2.2.2.2.2.2.2.1
theorem dJ6_getChars_ba4f3_23 : decode cJ6_getChars_ba4f3 23 = .ok (.bipush (-100), 2) := db4_37.2.2.2.2.2.2.2.2.2.2.2.2.2.2.1
theorem dJ6_getChars_ba4f3_25 : decode cJ6_getChars_ba4f3 25 = .ok (.if_icmp .gt 47, 3) := db4_37.2.2.2.2.2.2.2.2.2.2.2.2.2.2.2
theorem db4_38 : (decode cJ6_getChars_ba4f3 28 = .ok (.iload_n 0, 1)) ∧ (decode cJ6_getChars_ba4f3 29 = .ok (.bipush 100, 2)) ∧ (decode cJ6_getChars_ba4f3 31 = .ok (.idiv, 1)) ∧ (decode cJ6_getChars_ba4f3 32 = .ok (.istore_n 3, 1)) ∧ (decode cJ6_getChars_ba4f3 33 = .ok (.iload_n 3, 1)) ∧ (decode cJ6_getChars_ba4f3 34 = .ok (.bipush 100, 2)) ∧ (decode cJ6_getChars_ba4f3 36 = .ok (.imul, 1)) ∧ (decode cJ6_getChars_ba4f3 37 = .ok (.iload_n 0, 1)) ∧ (decode cJ6_getChars_ba4f3 38 = .ok (.isub, 1)) ∧ (decode cJ6_getChars_ba4f3 39 = .ok (.istore 4, 2)) ∧ (decode cJ6_getChars_ba4f3 41 = .ok (.iload_n 3, 1)) ∧ (decode cJ6_getChars_ba4f3 42 = .ok (.istore_n 0, 1)) ∧ (decode cJ6_getChars_ba4f3 43 = .ok (.aload_n 2, 1)) ∧ (decode cJ6_getChars_ba4f3 44 = .ok (.iinc 5 (-1), 3)) ∧ (decode cJ6_getChars_ba4f3 47 = .ok (.iload 5, 2)) ∧ (decode cJ6_getChars_ba4f3 49 = .ok (.getstatic 83, 3)) := by decide +kernel
theorem dJ6_getChars_ba4f3_28 : decode cJ6_getChars_ba4f3 28 = .ok (.iload_n 0, 1) := db4_38.1
theorem dJ6_getChars_ba4f3_29 : decode cJ6_getChars_ba4f3 29 = .ok (.bipush 100, 2) := db4_38.2.1
theorem dJ6_getChars_ba4f3_31 : decode cJ6_getChars_ba4f3 31 = .ok (.idiv, 1) := db4_38.2.2.1
theorem dJ6_getChars_ba4f3_32 : decode cJ6_getChars_ba4f3 32 = .ok (.istore_n 3, 1) := db4_38.2.2.2.1
theorem dJ6_getChars_ba4f3_33 : decode cJ6_getChars_ba4f3 33 = .ok (.iload_n 3, 1) := db4_38.2.2.2.2.1
theorem dJ6_getChars_ba4f3_34 : decode cJ6_getChars_ba4f3 34 = .ok (.bipush 100, 2) := db4_38.2.2.2.2.2.1
theorem dJ6_getChars_ba4f3_36 : decode cJ6_getChars_ba4f3 36 = .ok (.imul, 1) := db4_38.2.2.2.2.2.2.1
theorem dJ6_getChars_ba4f3_37 : decode cJ6_getChars_ba4f3 37 = .ok (.iload_n 0, 1) := db4_38.2.2.2.2.2.2.2.1
theorem dJ6_getChars_ba4f3_38 : decode cJ6_getChars_ba4f3 38 = .ok (.isub, 1) := db4_38.2.2.2.2.2.2.2.2.1
theorem dJ6_getChars_ba4f3_39 : decode cJ6_getChars_ba4f3 39 = .ok (.istore 4, 2) := db4_38.2.2.2.2.2.2.2.2.2.1
theorem dJ6_getChars_ba4f3_41 : decode cJ6_getChars_ba4f3 41 = .ok (.iload_n 3, 1) := db4_38.2.2.2.2.2.2.2.2.2.2.1
theorem dJ6_getChars_ba4f3_42 : decode cJ6_getChars_ba4f3 42 = .ok (.istore_n 0, 1) := db4_38.2.2.2.2.2.2.2.2.2.2.2.1
theorem dJ6_getChars_ba4f3_43 : decode cJ6_getChars_ba4f3 43 = .ok (.aload_n 2, 1) := db4_38.2.2.2.2.2.2.2.2.2.2.2.2.1
theorem dJ6_getChars_ba4f3_44 : decode cJ6_getChars_ba4f3 44 = .ok (.iinc 5 (-1), 3) := db4_38.2.2.2.2.2.2.2.2.2.2.2.2.2.1
theorem dJ6_getChars_ba4f3_47 : decode cJ6_getChars_ba4f3 47 = .ok (.iload 5, 2) := db4_38.2.2.2.2.2.2.2.2.2.2.2.2.2.2.1
theorem dJ6_getChars_ba4f3_49 : decode cJ6_getChars_ba4f3 49 = .ok (.getstatic 83, 3) := db4_38.2.2.2.2.2.2.2.2.2.2.2.2.2.2.2
theorem db4_39 : (decode cJ6_getChars_ba4f3 52 = .ok (.iload 4, 2)) ∧ (decode cJ6_getChars_ba4f3 54 = .ok (.baload, 1)) ∧ (decode cJ6_getChars_ba4f3 55 = .ok (.bastore, 1)) ∧ (decode cJ6_getChars_ba4f3 56 = .ok (.aload_n 2, 1)) ∧ (decode cJ6_getChars_ba4f3 57 = .ok (.iinc 5 (-1), 3)) ∧ (decode cJ6_getChars_ba4f3 60 = .ok (.iload 5, 2)) ∧ (decode cJ6_getChars_ba4f3 62 = .ok (.getstatic 87, 3)) ∧ (decode cJ6_getChars_ba4f3 65 = .ok (.iload 4, 2)) ∧ (decode cJ6_getChars_ba4f3 67 = .ok (.baload, 1)) ∧ (decode cJ6_getChars_ba4f3 68 = .ok (.bastore, 1)) ∧ (decode cJ6_getChars_ba4f3 69 = .ok (.goto (-47), 3)) ∧ (decode cJ6_getChars_ba4f3 72 = .ok (.aload_n 2, 1)) ∧ (decode cJ6_getChars_ba4f3 73 = .ok (.iinc 5 (-1), 3)) ∧ (decode cJ6_getChars_ba4f3 76 = .ok (.iload 5, 2)) ∧ (decode cJ6_getChars_ba4f3 78 = .ok (.getstatic 83, 3)) ∧ (decode cJ6_getChars_ba4f3 81 = .ok (.iload_n 0, 1)) := by decide +kernel
theorem dJ6_getChars_ba4f3_52 : decode cJ6_getChars_ba4f3 52 = .ok (.iload 4, 2) := db4_39.1
theorem dJ6_getChars_ba4f3_54 : decode cJ6_getChars_ba4f3 54 = .ok (.baload, 1) := db4_39.2.1
theorem dJ6_getChars_ba4f3_55 : decode cJ6_getChars_ba4f3 55 = .ok (.bastore, 1) := db4_39.2.2.1
theorem dJ6_getChars_ba4f3_56 : decode cJ6_getChars_ba4f3 56 = .ok (.aload_n 2, 1) := db4_39.2.2.2.1
theorem dJ6_getChars_ba4f3_57 : decode cJ6_getChars_ba4f3 57 = .ok (.iinc 5 (-1), 3) := db4_39.2.2.2.2.1
theorem dJ6_getChars_ba4f3_60 : decode cJ6_getChars_ba4f3 60 = .ok (.iload 5, 2) := db4_39.2.2.2.2.2.1
theorem dJ6_getChars_ba4f3_62 : decode cJ6_getChars_ba4f3 62 = .ok (.getstatic 87, 3) := db4_39.2.2.2.2.2.2.1
theorem dJ6_getChars_ba4f3_65 : decode cJ6_getChars_ba4f3 65 = .ok (.iload 4, 2) := db4_39.2.2.2.2.2.2.2.1
theorem dJ6_getChars_ba4f3_67 : decode cJ6_getChars_ba4f3 67 = .ok (.baload, 1) := db4_39.2.2.2.2.2.2.2.2.1
theorem dJ6_getChars_ba4f3_68 : decode cJ6_getChars_ba4f3 68 = .ok (.bastore, 1) := db4_39.2.2.2.2.2.2.2.2.2.1
theorem dJ6_getChars_ba4f3_69 : decode cJ6_getChars_ba4f3 69 = .ok (.goto (-47), 3) := db4_39.2.2.2.2.2.2.2.2.2.2.1
theorem dJ6_getChars_ba4f3_72 : decode cJ6_getChars_ba4f3 72 = .ok (.aload_n 2, 1) := db4_39.2.2.2.2.2.2.2.2.2.2.2.1
theorem dJ6_getChars_ba4f3_73 : decode cJ6_getChars_ba4f3 73 = .ok (.iinc 5 (-1), 3) := db4_39.2.2.2.2.2.2.2.2.2.2.2.2.1
theorem dJ6_getChars_ba4f3_76 : decode cJ6_getChars_ba4f3 76 = .ok (.iload 5, 2) := db4_39.2.2.2.2.2.2.2.2.2.2.2.2.2.1
theorem dJ6_getChars_ba4f3_78 : decode cJ6_getChars_ba4f3 78 = .ok (.getstatic 83, 3) := db4_39.2.2.2.2.2.2.2.2.2.2.2.2.2.2.1
theorem dJ6_getChars_ba4f3_81 : decode cJ6_getChars_ba4f3 81 = .ok (.iload_n 0, 1) := db4_39.2.2.2.2.2.2.2.2.2.2.2.2.2.2.2
theorem db4_40 : (decode cJ6_getChars_ba4f3 82 = .ok (.ineg, 1)) ∧ (decode cJ6_getChars_ba4f3 83 = .ok (.baload, 1)) ∧ (decode cJ6_getChars_ba4f3 84 = .ok (.bastore, 1)) ∧ (decode cJ6_getChars_ba4f3 85 = .ok (.iload_n 0, 1)) ∧ (decode cJ6_getChars_ba4f3 86 = .ok (.bipush (-9), 2)) ∧ (decode cJ6_getChars_ba4f3 88 = .ok (.if_icmp .ge 16, 3)) ∧ (decode cJ6_getChars_ba4f3 91 = .ok (.aload_n 2, 1)) ∧ (decode cJ6_getChars_ba4f3 92 = .ok (.iinc 5 (-1), 3)) ∧ (decode cJ6_getChars_ba4f3 95 = .ok (.iload 5, 2)) ∧ (decode cJ6_getChars_ba4f3 97 = .ok (.getstatic 87, 3)) ∧ (decode cJ6_getChars_ba4f3 100 = .ok (.iload_n 0, 1)) ∧ (decode cJ6_getChars_ba4f3 101 = .ok (.ineg, 1)) ∧ (decode cJ6_getChars_ba4f3 102 = .ok (.baload, 1)) ∧ (decode cJ6_getChars_ba4f3 103 = .ok (.bastore, 1)) ∧ (decode cJ6_getChars_ba4f3 104 = .ok (.iload 6, 2)) ∧ (decode cJ6_getChars_ba4f3 106 = .ok (.ifCond .eq 12, 3)) := by decide +kernel
theorem dJ6_getChars_ba4f3_82 : decode cJ6_getChars_ba4f3 82 = .ok (.ineg, 1) := db4_40.1
theorem dJ6_getChars_ba4f3_83 : decode cJ6_getChars_ba4f3 83 = .ok (.baload, 1) := db4_40.2.1
theorem dJ6_getChars_ba4f3_84 : decode cJ6_getChars_ba4f3 84 = .ok (.bastore, 1) := db4_40.2.2.1
theorem dJ6_getChars_ba4f3_85 : decode cJ6_getChars_ba4f3 85 = .ok (.iload_n 0, 1) := db4_40.2.2.2.1
theorem dJ6_getChars_ba4f3_86 : decode cJ6_getChars_ba4f3 86 = .ok (.bipush (-9), 2) := db4_40.2.2.2.2.1
theorem dJ6_getChars_ba4f3_88 : decode cJ6_getChars_ba4f3 88 = .ok (.if_icmp .ge 16, 3) := db4_40.2.2.2.2.2.1
theorem dJ6_getChars_ba4f3_91 : decode cJ6_getChars_ba4f3 91 = .ok (.aload_n 2, 1) := db4_40.2.2.2.2.2.2.1
theorem dJ6_getChars_ba4f3_92 : decode cJ6_getChars_ba4f3 92 = .ok (.iinc 5 (-1), 3) := db4_40.2.2.2.2.2.2.2.1
theorem dJ6_getChars_ba4f3_95 : decode cJ6_getChars_ba4f3 95 = .ok (.iload 5, 2) := db4_40.2.2.2.2.2.2.2.2.1
theorem dJ6_getChars_ba4f3_97 : decode cJ6_getChars_ba4f3 97 = .ok (.getstatic 87, 3) := db4_40.2.2.2.2.2.2.2.2.2.1
theorem dJ6_getChars_ba4f3_100 : decode cJ6_getChars_ba4f3 100 = .ok (.iload_n 0, 1) := db4_40.2.2.2.2.2.2.2.2.2.2.1
theorem dJ6_getChars_ba4f3_101 : decode cJ6_getChars_ba4f3 101 = .ok (.ineg, 1) := db4_40.2.2.2.2.2.2.2.2.2.2.2.1
theorem dJ6_getChars_ba4f3_102 : decode cJ6_getChars_ba4f3 102 = .ok (.baload, 1) := db4_40.2.2.2.2.2.2.2.2.2.2.2.2.1
theorem dJ6_getChars_ba4f3_103 : decode cJ6_getChars_ba4f3 103 = .ok (.bastore, 1) := db4_40.2.2.2.2.2.2.2.2.2.2.2.2.2.1
theorem dJ6_getChars_ba4f3_104 : decode cJ6_getChars_ba4f3 104 = .ok (.iload 6, 2) := db4_40.2.2.2.2.2.2.2.2.2.2.2.2.2.2.1
theorem dJ6_getChars_ba4f3_106 : decode cJ6_getChars_ba4f3 106 = .ok (.ifCond .eq 12, 3) := db4_40.2.2.2.2.2.2.2.2.2.2.2.2.2.2.2
theorem db4_41 : (decode cJ6_getChars_ba4f3 109 = .ok (.aload_n 2, 1)) ∧ (decode cJ6_getChars_ba4f3 110 = .ok (.iinc 5 (-1), 3)) ∧ (decode cJ6_getChars_ba4f3 113 = .ok (.iload 5, 2)) ∧ (decode cJ6_getChars_ba4f3 115 = .ok (.bipush 45, 2)) ∧ (decode cJ6_getChars_ba4f3 117 = .ok (.bastore, 1)) ∧ (decode cJ6_getChars_ba4f3 118 = .ok (.iload 5, 2)) ∧ (decode cJ6_getChars_ba4f3 120 = .ok (.ireturn, 1)) := by decide +kernel
theorem dJ6_getChars_ba4f3_109 : decode cJ6_getChars_ba4f3 109 = .ok (.aload_n 2, 1) := db4_41.1
theorem dJ6_getChars_ba4f3_110 : decode cJ6_getChars_ba4f3 110 = .ok (.iinc 5 (-1), 3) := db4_41.2.1
theorem dJ6_getChars_ba4f3_113 : decode cJ6_getChars_ba4f3 113 = .ok (.iload 5, 2) := db4_41.2.2.1
theorem dJ6_getChars_ba4f3_115 : decode cJ6_getChars_ba4f3 115 = .ok (.bipush 45, 2) := db4_41.2.2.2.1
theorem dJ6_getChars_ba4f3_117 : decode cJ6_getChars_ba4f3 117 = .ok (.bastore, 1) := db4_41.2.2.2.2.1
theorem dJ6_getChars_ba4f3_118 : decode cJ6_getChars_ba4f3 118 = .ok (.iload 5, 2) := db4_41.2.2.2.2.2.1
theorem dJ6_getChars_ba4f3_120 : decode cJ6_getChars_ba4f3 120 = .ok (.ireturn, 1) := db4_41.2.2.2.2.2.2
theorem db4_42 : (decode cJ6_stringSize_0f7a4 0 = .ok (.iconst 1, 1)) ∧ (decode cJ6_stringSize_0f7a4 1 = .ok (.istore_n 1, 1)) ∧ (decode cJ6_stringSize_0f7a4 2 = .ok (.iload_n 0, 1)) ∧ (decode cJ6_stringSize_0f7a4 3 = .ok (.ifCond .lt 8, 3)) ∧ (decode cJ6_stringSize_0f7a4 6 = .ok (.iconst 0, 1)) ∧ (decode cJ6_stringSize_0f7a4 7 = .ok (.istore_n 1, 1)) ∧ (decode cJ6_stringSize_0f7a4 8 = .ok (.iload_n 0, 1)) ∧ (decode cJ6_stringSize_0f7a4 9 = .ok (.ineg, 1)) ∧ (decode cJ6_stringSize_0f7a4 10 = .ok (.istore_n 0, 1)) ∧ (decode cJ6_stringSize_0f7a4 11 = .ok (.bipush (-10), 2)) ∧ (decode cJ6_stringSize_0f7a4 13 = .ok (.istore_n 2, 1)) ∧ (decode cJ6_stringSize_0f7a4 14 = .ok (.iconst 1, 1)) ∧ (decode cJ6_stringSize_0f7a4 15 = .ok (.istore_n 3, 1)) ∧ (decode cJ6_stringSize_0f7a4 16 = .ok (.iload_n 3, 1)) ∧ (decode cJ6_stringSize_0f7a4 17 = .ok (.bipush 10, 2)) ∧ (decode cJ6_stringSize_0f7a4 19 = .ok (.if_icmp .ge 23, 3)) := by decide +kernel
theorem dJ6_stringSize_0f7a4_0 : decode cJ6_stringSize_0f7a4 0 = .ok (.iconst 1, 1) := db4_42.1
theorem dJ6_stringSize_0f7a4_1 : decode cJ6_stringSize_0f7a4 1 = .ok (.istore_n 1, 1) := db4_42.2.1
theorem dJ6_stringSize_0f7a4_2 : decode cJ6_stringSize_0f7a4 2 = .ok (.iload_n 0, 1) := db4_42.2.2.1
theorem dJ6_stringSize_0f7a4_3 : decode cJ6_stringSize_0f7a4 3 = .ok (.ifCond .lt 8, 3) := db4_42.2.2.2.1
theorem dJ6_stringSize_0f7a4_6 : decode cJ6_stringSize_0f7a4 6 = .ok (.iconst 0, 1) := db4_42.2.2.2.2.1
theorem dJ6_stringSize_0f7a4_7 : decode cJ6_stringSize_0f7a4 7 = .ok (.istore_n 1, 1) := db4_42.2.2.2.2.2.1
theorem dJ6_stringSize_0f7a4_8 : decode cJ6_stringSize_0f7a4 8 = .ok (.iload_n 0, 1) := db4_42.2.2.2.2.2.2.1
theorem dJ6_stringSize_0f7a4_9 : decode cJ6_stringSize_0f7a4 9 = .ok (.ineg, 1) := db4_42.2.2.2.2.2.2.2.1
theorem dJ6_stringSize_0f7a4_10 : decode cJ6_stringSize_0f7a4 10 = .ok (.istore_n 0, 1) := db4_42.2.2.2.2.2.2.2.2.1
theorem dJ6_stringSize_0f7a4_11 : decode cJ6_stringSize_0f7a4 11 = .ok (.bipush (-10), 2) := db4_42.2.2.2.2.2.2.2.2.2.1
theorem dJ6_stringSize_0f7a4_13 : decode cJ6_stringSize_0f7a4 13 = .ok (.istore_n 2, 1) := db4_42.2.2.2.2.2.2.2.2.2.2.1
theorem dJ6_stringSize_0f7a4_14 : decode cJ6_stringSize_0f7a4 14 = .ok (.iconst 1, 1) := db4_42.2.2.2.2.2.2.2.2.2.2.2.1
theorem dJ6_stringSize_0f7a4_15 : decode cJ6_stringSize_0f7a4 15 = .ok (.istore_n 3, 1) := db4_42.2.2.2.2.2.2.2.2.2.2.2.2.1
theorem dJ6_stringSize_0f7a4_16 : decode cJ6_stringSize_0f7a4 16 = .ok (.iload_n 3, 1) := db4_42.2.2.2.2.2.2.2.2.2.2.2.2.2.1
theorem dJ6_stringSize_0f7a4_17 : decode cJ6_stringSize_0f7a4 17 = .ok (.bipush 10, 2) := db4_42.2.2.2.2.2.2.2.2.2.2.2.2.2.2.1
theorem dJ6_stringSize_0f7a4_19 : decode cJ6_stringSize_0f7a4 19 = .ok (.if_icmp .ge 23, 3) := db4_42.2.2.2.2.2.2.2.2.2.2.2.2.2.2.2
theorem db4_43 : (decode cJ6_stringSize_0f7a4 22 = .ok (.iload_n 0, 1)) ∧ (decode cJ6_stringSize_0f7a4 23 = .ok (.iload_n 2, 1)) ∧ (decode cJ6_stringSize_0f7a4 24 = .ok (.if_icmp .le 7, 3)) ∧ (decode cJ6_stringSize_0f7a4 27 = .ok (.iload_n 3, 1)) ∧ (decode cJ6_stringSize_0f7a4 28 = .ok (.iload_n 1, 1)) ∧ (decode cJ6_stringSize_0f7a4 29 = .ok (.iadd, 1)) ∧ (decode cJ6_stringSize_0f7a4 30 = .ok (.ireturn, 1)) ∧ (decode cJ6_stringSize_0f7a4 31 = .ok (.bipush 10, 2)) ∧ (decode cJ6_stringSize_0f7a4 33 = .ok (.iload_n 2, 1)) ∧ (decode cJ6_stringSize_0f7a4 34 = .ok (.imul, 1)) ∧ (decode cJ6_stringSize_0f7a4 35 = .ok (.istore_n 2, 1)) ∧ (decode cJ6_stringSize_0f7a4 36 = .ok (.iinc 3 1, 3)) ∧ (decode cJ6_stringSize_0f7a4 39 = .ok (.goto (-23), 3)) ∧ (decode cJ6_stringSize_0f7a4 42 = .ok (.bipush 10, 2)) ∧ (decode cJ6_stringSize_0f7a4 44 = .ok (.iload_n 1, 1)) ∧ (decode cJ6_stringSize_0f7a4 45 = .ok (.iadd, 1)) := by decide +kernel
theorem dJ6_stringSize_0f7a4_22 : decode cJ6_stringSize_0f7a4 22 = .ok (.iload_n 0, 1) := db4_43.1
theorem dJ6_stringSize_0f7a4_23 : decode cJ6_stringSize_0f7a4 23 = .ok (.iload_n 2, 1) := db4_43.2.1
theorem dJ6_stringSize_0f7a4_24 : decode cJ6_stringSize_0f7a4 24 = .ok (.if_icmp .le 7, 3) := db4_43.2.2.1
theorem dJ6_stringSize_0f7a4_27 : decode cJ6_stringSize_0f7a4 27 = .ok (.iload_n 3, 1) := db4_43.2.2.2.1
theorem dJ6_stringSize_0f7a4_28 : decode cJ6_stringSize_0f7a4 28 = .ok (.iload_n 1, 1) := db4_43.2.2.2.2.1
theorem dJ6_stringSize_0f7a4_29 : decode cJ6_stringSize_0f7a4 29 = .ok (.iadd, 1) := db4_43.2.2.2.2.2.1
theorem dJ6_stringSize_0f7a4_30 : decode cJ6_stringSize_0f7a4 30 = .ok (.ireturn, 1) := db4_43.2.2.2.2.2.2.1
theorem dJ6_stringSize_0f7a4_31 : decode cJ6_stringSize_0f7a4 31 = .ok (.bipush 10, 2) := db4_43.2.2.2.2.2.2.2.1
theorem dJ6_stringSize_0f7a4_33 : decode cJ6_stringSize_0f7a4 33 = .ok (.iload_n 2, 1) := db4_43.2.2.2.2.2.2.2.2.1
theorem dJ6_stringSize_0f7a4_34 : decode cJ6_stringSize_0f7a4 34 = .ok (.imul, 1) := db4_43.2.2.2.2.2.2.2.2.2.1
theorem dJ6_stringSize_0f7a4_35 : decode cJ6_stringSize_0f7a4 35 = .ok (.istore_n 2, 1) := db4_43.2.2.2.2.2.2.2.2.2.2.1
theorem dJ6_stringSize_0f7a4_36 : decode cJ6_stringSize_0f7a4 36 = .ok (.iinc 3 1, 3) := db4_43.2.2.2.2.2.2.2.2.2.2.2.1
theorem dJ6_stringSize_0f7a4_39 : decode cJ6_stringSize_0f7a4 39 = .ok (.goto (-23), 3) := db4_43.2.2.2.2.2.2.2.2.2.2.2.2.1
theorem dJ6_stringSize_0f7a4_42 : decode cJ6_stringSize_0f7a4 42 = .ok (.bipush 10, 2) := db4_43.2.2.2.2.2.2.2.2.2.2.2.2.2.1
theorem dJ6_stringSize_0f7a4_44 : decode cJ6_stringSize_0f7a4 44 = .ok (.iload_n 1, 1) := db4_43.2.2.2.2.2.2.2.2.2.2.2.2.2.2.1
theorem dJ6_stringSize_0f7a4_45 : decode cJ6_stringSize_0f7a4 45 = .ok (.iadd, 1) := db4_43.2.2.2.2.2.2.2.2.2.2.2.2.2.2.2
theorem dJ6_stringSize_0f7a4_46 : decode cJ6_stringSize_0f7a4 46 = .ok (.ireturn, 1) := by decide +kernel
theorem db4_44 : (decode cJ6_valueOf_2dffe 0 = .ok (.iload_n 0, 1)) ∧ (decode cJ6_valueOf_2dffe 1 = .ok (.bipush (-128), 2)) ∧ (decode cJ6_valueOf_2dffe 3 = .ok (.if_icmp .lt 20, 3)) ∧ (decode cJ6_valueOf_2dffe 6 = .ok (.iload_n 0, 1)) ∧ (decode cJ6_valueOf_2dffe 7 = .ok (.getstatic 191, 3)) ∧ (decode cJ6_valueOf_2dffe 10 = .ok (.if_icmp .gt 13, 3)) ∧ (decode cJ6_valueOf_2dffe 13 = .ok (.getstatic 195, 3)) ∧ (decode cJ6_valueOf_2dffe 16 = .ok (.iload_n 0, 1)) ∧ (decode cJ6_valueOf_2dffe 17 = .ok (.sipush 128, 3)) ∧ (decode cJ6_valueOf_2dffe 20 = .ok (.iadd, 1)) ∧ (decode cJ6_valueOf_2dffe 21 = .ok (.aaload, 1)) ∧ (decode cJ6_valueOf_2dffe 22 = .ok (.areturn, 1)) ∧ (decode cJ6_valueOf_2dffe 23 = .ok (.new 1, 3)) ∧ (decode cJ6_valueOf_2dffe 26 = .ok (.dup, 1)) ∧ (decode cJ6_valueOf_2dffe 27 = .ok (.iload_n 0, 1)) ∧ (decode cJ6_valueOf_2dffe 28 = .ok (.invokespecial 199, 3)) := by decide +kernel
theorem dJ6_valueOf_2dffe_0 : decode cJ6_valueOf_2dffe 0 = .ok (.iload_n 0, 1) := db4_44.1
theorem dJ6_valueOf_2dffe_1 : decode cJ6_valueOf_2dffe 1 = .ok (.bipush (-128), 2) := db4_44.2.1
theorem dJ6_valueOf_2dffe_3 : decode cJ6_valueOf_2dffe 3 = .ok (.if_icmp .lt 20, 3) := db4_44.2.2.1
theorem dJ6_valueOf_2dffe_6 : decode cJ6_valueOf_2dffe 6 = .ok (.iload_n 0, 1) := db4_44.2.2.2.1
theorem dJ6_valueOf_2dffe_7 : decode cJ6_valueOf_2dffe 7 = .ok (.getstatic 191, 3) := db4_44.2.2.2.2.1
theorem dJ6_valueOf_2dffe_10 : decode cJ6_valueOf_2dffe 10 = .ok (.if_icmp .gt 13, 3) := db4_44.2.2.2.2.2.1
theorem dJ6_valueOf_2dffe_13 : decode cJ6_valueOf_2dffe 13 = .ok (.getstatic 195, 3) := db4_44.2.2.2.2.2.2.1
theorem dJ6_valueOf_2dffe_16 : decode cJ6_valueOf_2dffe 16 = .ok (.iload_n 0, 1) := db4_44.2.2.2.2.2.2.2.1
theorem dJ6_valueOf_2dffe_17 : decode cJ6_valueOf_2dffe 17 = .ok (.sipush 128, 3) := db4_44.2.2.2.2.2.2.2.2.1
theorem dJ6_valueOf_2dffe_20 : decode cJ6_valueOf_2dffe 20 = .ok (.iadd, 1) := db4_44.2.2.2.2.2.2.2.2.2.1
theorem dJ6_valueOf_2dffe_21 : decode cJ6_valueOf_2dffe 21 = .ok (.aaload, 1) := db4_44.2.2.2.2.2.2.2.2.2.2.1
theorem dJ6_valueOf_2dffe_22 : decode cJ6_valueOf_2dffe 22 = .ok (.areturn, 1) := db4_44.2.2.2.2.2.2.2.2.2.2.2.1
theorem dJ6_valueOf_2dffe_23 : decode cJ6_valueOf_2dffe 23 = .ok (.new 1, 3) := db4_44.2.2.2.2.2.2.2.2.2.2.2.2.1
theorem dJ6_valueOf_2dffe_26 : decode cJ6_valueOf_2dffe 26 = .ok (.dup, 1) := db4_44.2.2.2.2.2.2.2.2.2.2.2.2.2.1
theorem dJ6_valueOf_2dffe_27 : decode cJ6_valueOf_2dffe 27 = .ok (.iload_n 0, 1) := db4_44.2.2.2.2.2.2.2.2.2.2.2.2.2.2.1
theorem dJ6_valueOf_2dffe_28 : decode cJ6_valueOf_2dffe 28 = .ok (.invokespecial 199, 3) := db4_44.2.2.2.2.2.2.2.2.2.2.2.2.2.2.2
theorem dJ6_valueOf_2dffe_31 : decode cJ6_valueOf_2dffe 31 = .ok (.areturn, 1) := by decide +kernel
theorem db4_45 : (decode cJ6_init_d00df 0 = .ok (.aload_n 0, 1)) ∧ (decode cJ6_init_d00df 1 = .ok (.invokespecial 202, 3)) ∧ (decode cJ6_init_d00df 4 = .ok (.aload_n 0, 1)) ∧ (decode cJ6_init_d00df 5 = .ok (.iload_n 1, 1)) ∧ (decode cJ6_init_d00df 6 = .ok (.putfield 205, 3)) ∧ (decode cJ6_init_d00df 9 = .ok (.return_, 1)) := by decide +kernel
theorem dJ6_init_d00df_0 : decode cJ6_init_d00df 0 = .ok (.aload_n 0, 1) := db4_45.1
theorem dJ6_init_d00df_1 : decode cJ6_init_d00df 1 = .ok (.invokespecial 202, 3) := db4_45.2.1
theorem dJ6_init_d00df_4 : decode cJ6_init_d00df 4 = .ok (.aload_n 0, 1) := db4_45.2.2.1
theorem dJ6_init_d00df_5 : decode cJ6_init_d00df 5 = .ok (.iload_n 1, 1) := db4_45.2.2.2.1
theorem dJ6_init_d00df_6 : decode cJ6_init_d00df 6 = .ok (.putfield 205, 3) := db4_45.2.2.2.2.1
theorem dJ6_init_d00df_9 : decode cJ6_init_d00df 9 = .ok (.return_, 1) := db4_45.2.2.2.2.2
theorem db4_46 : (decode cJ6_intValue_8abf5 0 = .ok (.aload_n 0, 1)) ∧ (decode cJ6_intValue_8abf5 1 = .ok (.getfield 205, 3)) ∧ (decode cJ6_intValue_8abf5 4 = .ok (.ireturn, 1)) := by decide +kernel
theorem dJ6_intValue_8abf5_0 : decode cJ6_intValue_8abf5 0 = .ok (.aload_n 0, 1) := db4_46.1
theorem dJ6_intValue_8abf5_1 : decode cJ6_intValue_8abf5 1 = .ok (.getfield 205, 3) := db4_46.2.1
theorem dJ6_intValue_8abf5_4 : decode cJ6_intValue_8abf5 4 = .ok (.ireturn, 1) := db4_46.2.2
theorem db4_47 : (decode cJ9_floorDiv_7cf53 0 = .ok (.iload_n 0, 1)) ∧ (decode cJ9_floorDiv_7cf53 1 = .ok (.iload_n 1, 1)) ∧ (decode cJ9_floorDiv_7cf53 2 = .ok (.idiv, 1)) ∧ (decode cJ9_floorDiv_7cf53 3 = .ok (.istore_n 2, 1)) ∧ (decode cJ9_floorDiv_7cf53 4 = .ok (.iload_n 0, 1)) ∧ (decode cJ9_floorDiv_7cf53 5 = .ok (.iload_n 1, 1)) ∧ (decode cJ9_floorDiv_7cf53 6 = .ok (.ixor, 1)) ∧ (decode cJ9_floorDiv_7cf53 7 = .ok (.ifCond .ge 14, 3)) ∧ (decode cJ9_floorDiv_7cf53 10 = .ok (.iload_n 2, 1)) ∧ (decode cJ9_floorDiv_7cf53 11 = .ok (.iload_n 1, 1)) ∧ (decode cJ9_floorDiv_7cf53 12 = .ok (.imul, 1)) ∧ (decode cJ9_floorDiv_7cf53 13 = .ok (.iload_n 0, 1)) ∧ (decode cJ9_floorDiv_7cf53 14 = .ok (.if_icmp .eq 7, 3)) ∧ (decode cJ9_floorDiv_7cf53 17 = .ok (.iload_n 2, 1)) ∧ (decode cJ9_floorDiv_7cf53 18 = .ok (.iconst 1, 1)) ∧ (decode cJ9_floorDiv_7cf53 19 = .ok (.isub, 1)) := by decide +kernel
theorem dJ9_floorDiv_7cf53_0 : decode cJ9_floorDiv_7cf53 0 = .ok (.iload_n 0, 1) := db4_47.1
theorem dJ9_floorDiv_7cf53_1 : decode cJ9_floorDiv_7cf53 1 = .ok (.iload_n 1, 1) := db4_47.2.1
theorem dJ9_floorDiv_7cf53_2 : decode cJ9_floorDiv_7cf53 2 = .ok (.idiv, 1) := db4_47.2.2.1
theorem dJ9_floorDiv_7cf53_3 : decode cJ9_floorDiv_7cf53 3 = .ok (.istore_n 2, 1) := db4_47.2.2.2.1
theorem dJ9_floorDiv_7cf53_4 : decode cJ9_floorDiv_7cf53 4 = .ok (.iload_n 0, 1) := db4_47.2.2.2.2.1
theorem dJ9_floorDiv_7cf53_5 : decode cJ9_floorDiv_7cf53 5 = .ok (.iload_n 1, 1) := db4_47.2.2.2.2.2.1
theorem dJ9_floorDiv_7cf53_6 : decode cJ9_floorDiv_7cf53 6 = .ok (.ixor, 1) := db4_47.2.2.2.2.2.2.1
theorem dJ9_floorDiv_7cf53_7 : decode cJ9_floorDiv_7cf53 7 = .ok (.ifCond .ge 14, 3) := db4_47.2.2.2.2.2.2.2.1
theorem dJ9_floorDiv_7cf53_10 : decode cJ9_floorDiv_7cf53 10 = .ok (.iload_n 2, 1) := db4_47.2.2.2.2.2.2.2.2.1
theorem dJ9_floorDiv_7cf53_11 : decode cJ9_floorDiv_7cf53 11 = .ok (.iload_n 1, 1) := db4_47.2.2.2.2.2.2.2.2.2.1
theorem dJ9_floorDiv_7cf53_12 : decode cJ9_floorDiv_7cf53 12 = .ok (.imul, 1) := db4_47.2.2.2.2.2.2.2.2.2.2.1
theorem dJ9_floorDiv_7cf53_13 : decode cJ9_floorDiv_7cf53 13 = .ok (.iload_n 0, 1) := db4_47.2.2.2.2.2.2.2.2.2.2.2.1
theorem dJ9_floorDiv_7cf53_14 : decode cJ9_floorDiv_7cf53 14 = .ok (.if_icmp .eq 7, 3) := db4_47.2.2.2.2.2.2.2.2.2.2.2.2.1
theorem dJ9_floorDiv_7cf53_17 : decode cJ9_floorDiv_7cf53 17 = .ok (.iload_n 2, 1) := db4_47.2.2.2.2.2.2.2.2.2.2.2.2.2.1
theorem dJ9_floorDiv_7cf53_18 : decode cJ9_floorDiv_7cf53 18 = .ok (.iconst 1, 1) := db4_47.2.2.2.2.2.2.2.2.2.2.2.2.2.2.1
theorem dJ9_floorDiv_7cf53_19 : decode cJ9_floorDiv_7cf53 19 = .ok (.isub, 1) := db4_47.2.2.2.2.2.2.2.2.2.2.2.2.2.2.2
theorem db4_48 : (decode cJ9_floorDiv_7cf53 20 = .ok (.ireturn, 1)) ∧ (decode cJ9_floorDiv_7cf53 21 = .ok (.iload_n 2, 1)) ∧ (decode cJ9_floorDiv_7cf53 22 = .ok (.ireturn, 1)) := by decide +kernel
theorem dJ9_floorDiv_7cf53_20 : decode cJ9_floorDiv_7cf53 20 = .ok (.ireturn, 1) := db4_48.1
theorem dJ9_floorDiv_7cf53_21 : decode cJ9_floorDiv_7cf53 21 = .ok (.iload_n 2, 1) := db4_48.2.1
theorem dJ9_floorDiv_7cf53_22 : decode cJ9_floorDiv_7cf53 22 = .ok (.ireturn, 1) := db4_48.2.2
theorem db4_49 : (decode cJ9_floorDiv_f86c9 0 = .ok (.lload_n 0, 1)) ∧ (decode cJ9_floorDiv_f86c9 1 = .ok (.lload_n 2, 1)) ∧ (decode cJ9_floorDiv_f86c9 2 = .ok (.ldiv, 1)) ∧ (decode cJ9_floorDiv_f86c9 3 = .ok (.lstore 4, 2)) ∧ (decode cJ9_floorDiv_f86c9 5 = .ok (.lload_n 0, 1)) ∧ (decode cJ9_floorDiv_f86c9 6 = .ok (.lload_n 2, 1)) ∧ (decode cJ9_floorDiv_f86c9 7 = .ok (.lxor, 1)) ∧ (decode cJ9_floorDiv_f86c9 8 = .ok (.lconst 0, 1)) ∧ (decode cJ9_floorDiv_f86c9 9 = .ok (.lcmp, 1)) ∧ (decode cJ9_floorDiv_f86c9 10 = .ok (.ifCond .ge 17, 3)) ∧ (decode cJ9_floorDiv_f86c9 13 = .ok (.lload 4, 2)) ∧ (decode cJ9_floorDiv_f86c9 15 = .ok (.lload_n 2, 1)) ∧ (decode cJ9_floorDiv_f86c9 16 = .ok (.lmul, 1)) ∧ (decode cJ9_floorDiv_f86c9 17 = .ok (.lload_n 0, 1)) ∧ (decode cJ9_floorDiv_f86c9 18 = .ok (.lcmp, 1)) ∧ (decode cJ9_floorDiv_f86c9 19 = .ok (.ifCond .eq 8, 3)) := by decide +kernel
theorem dJ9_floorDiv_f86c9_0 : decode cJ9_floorDiv_f86c9 0 = .ok (.lload_n 0, 1) := db4_49.1
theorem dJ9_floorDiv_f86c9_1 : decode cJ9_floorDiv_f86c9 1 = .ok (.lload_n 2, 1) := db4_49.2.1
theorem dJ9_floorDiv_f86c9_2 : decode cJ9_floorDiv_f86c9 2 = .ok (.ldiv, 1) := db4_49.2.2.1
theorem dJ9_floorDiv_f86c9_3 : decode cJ9_floorDiv_f86c9 3 = .ok (.lstore 4, 2) := db4_49.2.2.2.1
theorem dJ9_floorDiv_f86c9_5 : decode cJ9_floorDiv_f86c9 5 = .ok (.lload_n 0, 1) := db4_49.2.2.2.2.1
theorem dJ9_floorDiv_f86c9_6 : decode cJ9_floorDiv_f86c9 6 = .ok (.lload_n 2, 1) := db4_49.2.2.2.2.2.1
theorem dJ9_floorDiv_f86c9_7 : decode cJ9_floorDiv_f86c9 7 = .ok (.lxor, 1) := db4_49.2.2.2.2.2.2.1
theorem dJ9_floorDiv_f86c9_8 : decode cJ9_floorDiv_f86c9 8 = .ok (.lconst 0, 1) := db4_49.2.2.2.2.2.2.2.1
theorem dJ9_floorDiv_f86c9_9 : decode cJ9_floorDiv_f86c9 9 = .ok (.lcmp, 1) := db4_49.2.2.2.2.2.2.2.2.1
theorem dJ9_floorDiv_f86c9_10 : decode cJ9_floorDiv_f86c9 10 = .ok (.ifCond .ge 17, 3) := db4_49.2.2.2.2.2.2.2.2.2.1
theorem dJ9_floorDiv_f86c9_13 : decode cJ9_floorDiv_f86c9 13 = .ok (.lload 4, 2) := db4_49.2.2.2.2.2.2.2.2.2.2.1
theorem dJ9_floorDiv_f86c9_15 : decode cJ9_floorDiv_f86c9 15 = .ok (.lload_n 2, 1) := db4_49.2.2.2.2.2.2.2.2.2.2.2.1
theorem dJ9_floorDiv_f86c9_16 : decode cJ9_floorDiv_f86c9 16 = .ok (.lmul, 1) := db4_49.2.2.2.2.2.2.2.2.2.2.2.2.1
theorem dJ9_floorDiv_f86c9_17 : decode cJ9_floorDiv_f86c9 17 = .ok (.lload_n 0, 1) := db4_49.2.2.2.2.2.2.2.2.2.2.2.2.2.1
theorem dJ9_floorDiv_f86c9_18 : decode cJ9_floorDiv_f86c9 18 = .ok (.lcmp, 1) := db4_49.2.2.2.2.2.2.2.2.2.2.2.2.2.2.1
theorem dJ9_floorDiv_f86c9_19 : decode cJ9_floorDiv_f86c9 19 = .ok (.ifCond .eq 8, 3) := db4_49.2.2.2.2.2.2.2.2.2.2.2.2.2.2.2
theorem db4_50 : (decode cJ9_floorDiv_f86c9 22 = .ok (.lload 4, 2)) ∧ (decode cJ9_floorDiv_f86c9 24 = .ok (.lconst 1, 1)) ∧ (decode cJ9_floorDiv_f86c9 25 = .ok (.lsub, 1)) ∧ (decode cJ9_floorDiv_f86c9 26 = .ok (.lreturn, 1)) ∧ (decode cJ9_floorDiv_f86c9 27 = .ok (.lload 4, 2)) ∧ (decode cJ9_floorDiv_f86c9 29 = .ok (.lreturn, 1)) := by decide +kernel
theorem dJ9_floorDiv_f86c9_22 : decode cJ9_floorDiv_f86c9 22 = .ok (.lload 4, 2) := db4_50.1
theorem dJ9_floorDiv_f86c9_24 : decode cJ9_floorDiv_f86c9 24 = .ok (.lconst 1, 1) := db4_50.2.1
theorem dJ9_floorDiv_f86c9_25 : decode cJ9_floorDiv_f86c9 25 = .ok (.lsub, 1) := db4_50.2.2.1
theorem dJ9_floorDiv_f86c9_26 : decode cJ9_floorDiv_f86c9 26 = .ok (.lreturn, 1) := db4_50.2.2.2.1
theorem dJ9_floorDiv_f86c9_27 : decode cJ9_floorDiv_f86c9 27 = .ok (.lload 4, 2) := db4_50.2.2.2.2.1
theorem dJ9_floorDiv_f86c9_29 : decode cJ9_floorDiv_f86c9 29 = .ok (.lreturn, 1) := db4_50.2.2.2.2.2
theorem db4_51 : (decode cJ9_floorMod_7cf53 0 = .ok (.iload_n 0, 1)) ∧ (decode cJ9_floorMod_7cf53 1 = .ok (.iload_n 1, 1)) ∧ (decode cJ9_floorMod_7cf53 2 = .ok (.irem, 1)) ∧ (decode cJ9_floorMod_7cf53 3 = .ok (.istore_n 2, 1)) ∧ (decode cJ9_floorMod_7cf53 4 = .ok (.iload_n 0, 1)) ∧ (decode cJ9_floorMod_7cf53 5 = .ok (.iload_n 1, 1)) ∧ (decode cJ9_floorMod_7cf53 6 = .ok (.ixor, 1)) ∧ (decode cJ9_floorMod_7cf53 7 = .ok (.ifCond .ge 11, 3)) ∧ (decode cJ9_floorMod_7cf53 10 = .ok (.iload_n 2, 1)) ∧ (decode cJ9_floorMod_7cf53 11 = .ok (.ifCond .eq 7, 3)) ∧ (decode cJ9_floorMod_7cf53 14 = .ok (.iload_n 2, 1)) ∧ (decode cJ9_floorMod_7cf53 15 = .ok (.iload_n 1, 1)) ∧ (decode cJ9_floorMod_7cf53 16 = .ok (.iadd, 1)) ∧ (decode cJ9_floorMod_7cf53 17 = .ok (.ireturn, 1)) ∧ (decode cJ9_floorMod_7cf53 18 = .ok (.iload_n 2, 1)) ∧ (decode cJ9_floorMod_7cf53 19 = .ok (.ireturn, 1)) := by decide +kernel
theorem dJ9_floorMod_7cf53_0 : decode cJ9_floorMod_7cf53 0 = .ok (.iload_n 0, 1) := db4_51.1
theorem dJ9_floorMod_7cf53_1 : decode cJ9_floorMod_7cf53 1 = .ok (.iload_n 1, 1) := db4_51.2.1
theorem dJ9_floorMod_7cf53_2 : decode cJ9_floorMod_7cf53 2 = .ok (.irem, 1) := db4_51.2.2.1
theorem dJ9_floorMod_7cf53_3 : decode cJ9_floorMod_7cf53 3 = .ok (.istore_n 2, 1) := db4_51.2.2.2.1
theorem dJ9_floorMod_7cf53_4 : decode cJ9_floorMod_7cf53 4 = .ok (.iload_n 0, 1) := db4_51.2.2.2.2.1
theorem dJ9_floorMod_7cf53_5 : decode cJ9_floorMod_7cf53 5 = .ok (.iload_n 1, 1) := db4_51.2.2.2.2.2.1
theorem dJ9_floorMod_7cf53_6 : decode cJ9_floorMod_7cf53 6 = .ok (.ixor, 1) := db4_51.2.2.2.2.2.2.1
theorem dJ9_floorMod_7cf53_7 : decode cJ9_floorMod_7cf53 7 = .ok (.ifCond .ge 11, 3) := db4_51.2.2.2.2.2.2.2.1
theorem dJ9_floorMod_7cf53_10 : decode cJ9_floorMod_7cf53 10 = .ok (.iload_n 2, 1) := db4_51.2.2.2.2.2.2.2.2.1
theorem dJ9_floorMod_7cf53_11 : decode cJ9_floorMod_7cf53 11 = .ok (.ifCond .eq 7, 3) := db4_51.2.2.2.2.2.2.2.2.2.1
theorem dJ9_floorMod_7cf53_14 : decode cJ9_floorMod_7cf53 14 = .ok (.iload_n 2, 1) := db4_51.2.2.2.2.2.2.2.2.2.2.1
theorem dJ9_floorMod_7cf53_15 : decode cJ9_floorMod_7cf53 15 = .ok (.iload_n 1, 1) := db4_51.2.2.2.2.2.2.2.2.2.2.2.1
theorem dJ9_floorMod_7cf53_16 : decode cJ9_floorMod_7cf53 16 = .ok (.iadd, 1) := db4_51.2.2.2.2.2.2.2.2.2.2.2.2.1
theorem dJ9_floorMod_7cf53_17 : decode cJ9_floorMod_7cf53 17 = .ok (.ireturn, 1) := db4_51.2.2.2.2.2.2.2.2.2.2.2.2.2.1
theorem dJ9_floorMod_7cf53_18 : decode cJ9_floorMod_7cf53 18 = .ok (.iload_n 2, 1) := db4_51.2.2.2.2.2.2.2.2.2.2.2.2.2.2.1
theorem dJ9_floorMod_7cf53_19 : decode cJ9_floorMod_7cf53 19 = .ok (.ireturn, 1) := db4_51.2.2.2.2.2.2.2.2.2.2.2.2.2.2.2
theorem db4_52 : (decode cJ9_abs_0f7a4 0 = .ok (.iload_n 0, 1)) ∧ (decode cJ9_abs_0f7a4 1 = .ok (.ifCond .ge 8, 3)) ∧ (decode cJ9_abs_0f7a4 4 = .ok (.iload_n 0, 1)) ∧ (decode cJ9_abs_0f7a4 5 = .ok (.ineg, 1)) ∧ (decode cJ9_abs_0f7a4 6 = .ok (.goto 4, 3)) ∧ (decode cJ9_abs_0f7a4 9 = .ok (.iload_n 0, 1)) ∧ (decode cJ9_abs_0f7a4 10 = .ok (.ireturn, 1)) := by decide +kernel
theorem dJ9_abs_0f7a4_0 : decode cJ9_abs_0f7a4 0 = .ok (.iload_n 0, 1) := db4_52.1
theorem dJ9_abs_0f7a4_1 : decode cJ9_abs_0f7a4 1 = .ok (.ifCond .ge 8, 3) := db4_52.2.1
theorem dJ9_abs_0f7a4_4 : decode cJ9_abs_0f7a4 4 = .ok (.iload_n 0, 1) := db4_52.2.2.1
theorem dJ9_abs_0f7a4_5 : decode cJ9_abs_0f7a4 5 = .ok (.ineg, 1) := db4_52.2.2.2.1
theorem dJ9_abs_0f7a4_6 : decode cJ9_abs_0f7a4 6 = .ok (.goto 4, 3) := db4_52.2.2.2.2.1
theorem dJ9_abs_0f7a4_9 : decode cJ9_abs_0f7a4 9 = .ok (.iload_n 0, 1) := db4_52.2.2.2.2.2.1
theorem dJ9_abs_0f7a4_10 : decode cJ9_abs_0f7a4 10 = .ok (.ireturn, 1) := db4_52.2.2.2.2.2.2
theorem db4_53 : (decode cJ9_max_7cf53 0 = .ok (.iload_n 0, 1)) ∧ (decode cJ9_max_7cf53 1 = .ok (.iload_n 1, 1)) ∧ (decode cJ9_max_7cf53 2 = .ok (.if_icmp .lt 7, 3)) ∧ (decode cJ9_max_7cf53 5 = .ok (.iload_n 0, 1)) ∧ (decode cJ9_max_7cf53 6 = .ok (.goto 4, 3)) ∧ (decode cJ9_max_7cf53 9 = .ok (.iload_n 1, 1)) ∧ (decode cJ9_max_7cf53 10 = .ok (.ireturn, 1)) := by decide +kernel
theorem dJ9_max_7cf53_0 : decode cJ9_max_7cf53 0 = .ok (.iload_n 0, 1) := db4_53.1
theorem dJ9_max_7cf53_1 : decode cJ9_max_7cf53 1 = .ok (.iload_n 1, 1) := db4_53.2.1
theorem dJ9_max_7cf53_2 : decode cJ9_max_7cf53 2 = .ok (.if_icmp .lt 7, 3) := db4_53.2.2.1
theorem dJ9_max_7cf53_5 : decode cJ9_max_7cf53 5 = .ok (.iload_n 0, 1) := db4_53.2.2.2.1
theorem dJ9_max_7cf53_6 : decode cJ9_max_7cf53 6 = .ok (.goto 4, 3) := db4_53.2.2.2.2.1
theorem dJ9_max_7cf53_9 : decode cJ9_max_7cf53 9 = .ok (.iload_n 1, 1) := db4_53.2.2.2.2.2.1
theorem dJ9_max_7cf53_10 : decode cJ9_max_7cf53 10 = .ok (.ireturn, 1) := db4_53.2.2.2.2.2.2
theorem db4_54 : (decode cJ9_min_7cf53 0 = .ok (.iload_n 0, 1)) ∧ (decode cJ9_min_7cf53 1 = .ok (.iload_n 1, 1)) ∧ (decode cJ9_min_7cf53 2 = .ok (.if_icmp .gt 7, 3)) ∧ (decode cJ9_min_7cf53 5 = .ok (.iload_n 0, 1)) ∧ (decode cJ9_min_7cf53 6 = .ok (.goto 4, 3)) ∧ (decode cJ9_min_7cf53 9 = .ok (.iload_n 1, 1)) ∧ (decode cJ9_min_7cf53 10 = .ok (.ireturn, 1)) := by decide +kernel
theorem dJ9_min_7cf53_0 : decode cJ9_min_7cf53 0 = .ok (.iload_n 0, 1) := db4_54.1
theorem dJ9_min_7cf53_1 : decode cJ9_min_7cf53 1 = .ok (.iload_n 1, 1) := db4_54.2.1
theorem dJ9_min_7cf53_2 : decode cJ9_min_7cf53 2 = .ok (.if_icmp .gt 7, 3) := db4_54.2.2.1
theorem dJ9_min_7cf53_5 : decode cJ9_min_7cf53 5 = .ok (.iload_n 0, 1) := db4_54.2.2.2.1
theorem dJ9_min_7cf53_6 : decode cJ9_min_7cf53 6 = .ok (.goto 4, 3) := db4_54.2.2.2.2.1
theorem dJ9_min_7cf53_9 : decode cJ9_min_7cf53 9 = .ok (.iload_n 1, 1) := db4_54.2.2.2.2.2.1
theorem dJ9_min_7cf53_10 : decode cJ9_min_7cf53 10 = .ok (.ireturn, 1) := db4_54.2.2.2.2.2.2
theorem db4_55 : (decode cJxd2413_init_da8c8 0 = .ok (.aload_n 0, 1)) ∧ (decode cJxd2413_init_da8c8 1 = .ok (.invokespecial 1, 3)) ∧ (decode cJxd2413_init_da8c8 4 = .ok (.return_, 1)) := by decide +kernel
theorem dJxd2413_init_da8c8_0 : decode cJxd2413_init_da8c8 0 = .ok (.aload_n 0, 1) := db4_55.1
theorem dJxd2413_init_da8c8_1 : decode cJxd2413_init_da8c8 1 = .ok (.invokespecial 1, 3) := db4_55.2.1
theorem dJxd2413_init_da8c8_4 : decode cJxd2413_init_da8c8 4 = .ok (.return_, 1) := db4_55.2.2
theorem db4_56 : (decode cJ0_init_81219 0 = .ok (.aload_n 0, 1)) ∧ (decode cJ0_init_81219 1 = .ok (.aload_n 1, 1)) ∧ (decode cJ0_init_81219 2 = .ok (.aconst_null, 1)) ∧ (decode cJ0_init_81219 3 = .ok (.invokespecial 489, 3)) ∧ (decode cJ0_init_81219 6 = .ok (.return_, 1)) := by decide +kernel
theorem dJ0_init_81219_0 : decode cJ0_init_81219 0 = .ok (.aload_n 0, 1) := db4_56.1
theorem dJ0_init_81219_1 : decode cJ0_init_81219 1 = .ok (.aload_n 1, 1) := db4_56.2.1
theorem dJ0_init_81219_2 : decode cJ0_init_81219 2 = .ok (.aconst_null, 1) := db4_56.2.2.1
theorem dJ0_init_81219_3 : decode cJ0_init_81219 3 = .ok (.invokespecial 489, 3) := db4_56.2.2.2.1
theorem dJ0_init_81219_6 : decode cJ0_init_81219 6 = .ok (.return_, 1) := db4_56.2.2.2.2
theorem db4_57 : (decode cJ0_length_8abf5 0 = .ok (.aload_n 0, 1)) ∧ (decode cJ0_length_8abf5 1 = .ok (.getfield 9, 3)) ∧ (decode cJ0_length_8abf5 4 = .ok (.arraylength, 1)) ∧ (decode cJ0_length_8abf5 5 = .ok (.aload_n 0, 1)) ∧ (decode cJ0_length_8abf5 6 = .ok (.invokevirtual 335, 3)) ∧ (decode cJ0_length_8abf5 9 = .ok (.ishr, 1)) ∧ (decode cJ0_length_8abf5 10 = .ok (.ireturn, 1)) := by decide +kernel
theorem dJ0_length_8abf5_0 : decode cJ0_length_8abf5 0 = .ok (.aload_n 0, 1) := db4_57.1
theorem dJ0_length_8abf5_1 : decode cJ0_length_8abf5 1 = .ok (.getfield 9, 3) := db4_57.2.1
theorem dJ0_length_8abf5_4 : decode cJ0_length_8abf5 4 = .ok (.arraylength, 1) := db4_57.2.2.1
theorem dJ0_length_8abf5_5 : decode cJ0_length_8abf5 5 = .ok (.aload_n 0, 1) := db4_57.2.2.2.1
theorem dJ0_length_8abf5_6 : decode cJ0_length_8abf5 6 = .ok (.invokevirtual 335, 3) := db4_57.2.2.2.2.1
theorem dJ0_length_8abf5_9 : decode cJ0_length_8abf5 9 = .ok (.ishr, 1) := db4_57.2.2.2.2.2.1
theorem dJ0_length_8abf5_10 : decode cJ0_length_8abf5 10 = .ok (.ireturn, 1) := db4_57.2.2.2.2.2.2
theorem db4_58 : (decode cJ0_isEmpty_aae02 0 = .ok (.aload_n 0, 1)) ∧ (decode cJ0_isEmpty_aae02 1 = .ok (.getfield 9, 3)) ∧ (decode cJ0_isEmpty_aae02 4 = .ok (.arraylength, 1)) ∧ (decode cJ0_isEmpty_aae02 5 = .ok (.ifCond .ne 7, 3)) ∧ (decode cJ0_isEmpty_aae02 8 = .ok (.iconst 1, 1)) ∧ (decode cJ0_isEmpty_aae02 9 = .ok (.goto 4, 3)) ∧ (decode cJ0_isEmpty_aae02 12 = .ok (.iconst 0, 1)) ∧ (decode cJ0_isEmpty_aae02 13 = .ok (.ireturn, 1)) := by decide +kernel
theorem dJ0_isEmpty_aae02_0 : decode cJ0_isEmpty_aae02 0 = .ok (.aload_n 0, 1) := db4_58.1
theorem dJ0_isEmpty_aae02_1 : decode cJ0_isEmpty_aae02 1 = .ok (.getfield 9, 3) := db4_58.2.1
theorem dJ0_isEmpty_aae02_4 : decode cJ0_isEmpty_aae02 4 = .ok (.arraylength, 1) := db4_58.2.2.1
theorem dJ0_isEmpty_aae02_5 : decode cJ0_isEmpty_aae02 5 = .ok (.ifCond .ne 7, 3) := db4_58.2.2.2.1
theorem dJ0_isEmpty_aae02_8 : decode cJ0_isEmpty_aae02 8 = .ok (.iconst 1, 1) := db4_58.2.2.2.2.1
theorem dJ0_isEmpty_aae02_9 : decode cJ0_isEmpty_aae02 9 = .ok (.goto 4, 3) := db4_58.2.2.2.2.2.1
theorem dJ0_isEmpty_aae02_12 : decode cJ0_isEmpty_aae02 12 = .ok (.iconst 0, 1) := db4_58.2.2.2.2.2.2.1
theorem dJ0_isEmpty_aae02_13 : decode cJ0_isEmpty_aae02 13 = .ok (.ireturn, 1) := db4_58.2.2.2.2.2.2.2
theorem db4_59 : (decode cJ0_getBytes_840e7 0 = .ok (.aload_n 0, 1)) ∧ (decode cJ0_getBytes_840e7 1 = .ok (.invokevirtual 335, 3)) ∧ (decode cJ0_getBytes_840e7 4 = .ok (.iload_n 3, 1)) ∧ (decode cJ0_getBytes_840e7 5 = .ok (.if_icmp .ne 23, 3)) ∧ (decode cJ0_getBytes_840e7 8 = .ok (.aload_n 0, 1)) ∧ (decode cJ0_getBytes_840e7 9 = .ok (.getfield 9, 3)) ∧ (decode cJ0_getBytes_840e7 12 = .ok (.iconst 0, 1)) ∧ (decode cJ0_getBytes_840e7 13 = .ok (.aload_n 1, 1)) ∧ (decode cJ0_getBytes_840e7 14 = .ok (.iload_n 2, 1)) ∧ (decode cJ0_getBytes_840e7 15 = .ok (.iload_n 3, 1)) ∧ (decode cJ0_getBytes_840e7 16 = .ok (.ishl, 1)) ∧ (decode cJ0_getBytes_840e7 17 = .ok (.aload_n 0, 1)) ∧ (decode cJ0_getBytes_840e7 18 = .ok (.getfield 9, 3)) ∧ (decode cJ0_getBytes_840e7 21 = .ok (.arraylength, 1)) ∧ (decode cJ0_getBytes_840e7 22 = .ok (.invokestatic 212, 3)) ∧ (decode cJ0_getBytes_840e7 25 = .ok (.goto 18, 3)) := by decide +kernel
theorem dJ0_getBytes_840e7_0 : decode cJ0_getBytes_840e7 0 = .ok (.aload_n 0, 1) := db4_59.1
theorem dJ0_getBytes_840e7_1 : decode cJ0_getBytes_840e7 1 = .ok (.invokevirtual 335, 3) := db4_59.2.1
theorem dJ0_getBytes_840e7_4 : decode cJ0_getBytes_840e7 4 = .ok (.iload_n 3, 1) := db4_59.2.2.1
theorem dJ0_getBytes_840e7_5 : decode cJ0_getBytes_840e7 5 = .ok (.if_icmp .ne 23, 3) := db4_59.2.2.2.1
theorem dJ0_getBytes_840e7_8 : decode cJ0_getBytes_840e7 8 = .ok (.aload_n 0, 1) := db4_59.2.2.2.2.1
theorem dJ0_getBytes_840e7_9 : decode cJ0_getBytes_840e7 9 = .ok (.getfield 9, 3) := db4_59.2.2.2.2.2.1
theorem dJ0_getBytes_840e7_12 : decode cJ0_getBytes_840e7 12 = .ok (.iconst 0, 1) := db4_59.2.2.2.2.2.2.1
theorem dJ0_getBytes_840e7_13 : decode cJ0_getBytes_840e7 13 = .ok (.aload_n 1, 1) := db4_59.2.2.2.2.2.2.2.1
theorem dJ0_getBytes_840e7_14 : decode cJ0_getBytes_840e7 14 = .ok (.iload_n 2, 1) := db4_59.2.2.2.2.2.2.2.2.1
theorem dJ0_getBytes_840e7_15 : decode cJ0_getBytes_840e7 15 = .ok (.iload_n 3, 1) := db4_59.2.2.2.2.2.2.2.2.2.1
theorem dJ0_getBytes_840e7_16 : decode cJ0_getBytes_840e7 16 = .ok (.ishl, 1) := db4_59.2.2.2.2.2.2.2.2.2.2.1
theorem dJ0_getBytes_840e7_17 : decode cJ0_getBytes_840e7 17 = .ok (.aload_n 0, 1) := db4_59.2.2.2.2.2.2.2.2.2.2.2.1
theorem dJ0_getBytes_840e7_18 : decode cJ0_getBytes_840e7 18 = .ok (.getfield 9, 3) := db4_59.2.2.2.2.2.2.2.2.2.2.2.2.1
theorem dJ0_getBytes_840e7_21 : decode cJ0_getBytes_840e7 21 = .ok (.arraylength, 1) := db4_59.2.2.2.2.2.2.2.2.2.2.2.2.2.1
theorem dJ0_getBytes_840e7_22 : decode cJ0_getBytes_840e7 22 = .ok (.invokestatic 212, 3) := db4_59.2.2.2.2.2.2.2.2.2.2.2.2.2.2.1
theorem dJ0_getBytes_840e7_25 : decode cJ0_getBytes_840e7 25 = .ok (.goto 18, 3) := db4_59.2.2.2.2.2.2.2.2.2.2.2.2.2.2.2
theorem db4_60 : (decode cJ0_getBytes_840e7 28 = .ok (.aload_n 0, 1)) ∧ (decode cJ0_getBytes_840e7 29 = .ok (.getfield 9, 3)) ∧ (decode cJ0_getBytes_840e7 32 = .ok (.iconst 0, 1)) ∧ (decode cJ0_getBytes_840e7 33 = .ok (.aload_n 1, 1)) ∧ (decode cJ0_getBytes_840e7 34 = .ok (.iload_n 2, 1)) ∧ (decode cJ0_getBytes_840e7 35 = .ok (.aload_n 0, 1)) ∧ (decode cJ0_getBytes_840e7 36 = .ok (.getfield 9, 3)) ∧ (decode cJ0_getBytes_840e7 39 = .ok (.arraylength, 1)) ∧ (decode cJ0_getBytes_840e7 40 = .ok (.invokestatic 106, 3)) ∧ (decode cJ0_getBytes_840e7 43 = .ok (.return_, 1)) := by decide +kernel
theorem dJ0_getBytes_840e7_28 : decode cJ0_getBytes_840e7 28 = .ok (.aload_n 0, 1) := db4_60.1
theorem dJ0_getBytes_840e7_29 : decode cJ0_getBytes_840e7 29 = .ok (.getfield 9, 3) := db4_60.2.1
theorem dJ0_getBytes_840e7_32 : decode cJ0_getBytes_840e7 32 = .ok (.iconst 0, 1) := db4_60.2.2.1
theorem dJ0_getBytes_840e7_33 : decode cJ0_getBytes_840e7 33 = .ok (.aload_n 1, 1) := db4_60.2.2.2.1
theorem dJ0_getBytes_840e7_34 : decode cJ0_getBytes_840e7 34 = .ok (.iload_n 2, 1) := db4_60.2.2.2.2.1
theorem dJ0_getBytes_840e7_35 : decode cJ0_getBytes_840e7 35 = .ok (.aload_n 0, 1) := db4_60.2.2.2.2.2.1
theorem dJ0_getBytes_840e7_36 : decode cJ0_getBytes_840e7 36 = .ok (.getfield 9, 3) := db4_60.2.2.2.2.2.2.1
theorem dJ0_getBytes_840e7_39 : decode cJ0_getBytes_840e7 39 = .ok (.arraylength, 1) := db4_60.2.2.2.2.2.2.2.1
theorem dJ0_getBytes_840e7_40 : decode cJ0_getBytes_840e7 40 = .ok (.invokestatic 106, 3) := db4_60.2.2.2.2.2.2.2.2.1
theorem dJ0_getBytes_840e7_43 : decode cJ0_getBytes_840e7 43 = .ok (.return_, 1) := db4_60.2.2.2.2.2.2.2.2.2
theorem db4_61 : (decode cJ0_init_db425 0 = .ok (.aload_n 0, 1)) ∧ (decode cJ0_init_db425 1 = .ok (.invokespecial 1, 3)) ∧ (decode cJ0_init_db425 4 = .ok (.aload_n 1, 1)) ∧ (decode cJ0_init_db425 5 = .ok (.invokevirtual 552, 3)) ∧ (decode cJ0_init_db425 8 = .ok (.astore_n 3, 1)) ∧ (decode cJ0_init_db425 9 = .ok (.aload_n 1, 1)) ∧ (decode cJ0_init_db425 10 = .ok (.invokevirtual 549, 3)) ∧ (decode cJ0_init_db425 13 = .ok (.istore 4, 2)) ∧ (decode cJ0_init_db425 15 = .ok (.aload_n 1, 1)) ∧ (decode cJ0_init_db425 16 = .ok (.invokevirtual 1047, 3)) ∧ (decode cJ0_init_db425 19 = .ok (.ifCond .eq 22, 3)) ∧ (decode cJ0_init_db425 22 = .ok (.aload_n 0, 1)) ∧ (decode cJ0_init_db425 23 = .ok (.iconst 0, 1)) ∧ (decode cJ0_init_db425 24 = .ok (.putfield 15, 3)) ∧ (decode cJ0_init_db425 27 = .ok (.aload_n 0, 1)) ∧ (decode cJ0_init_db425 28 = .ok (.aload_n 3, 1)) := by decide +kernel
theorem dJ0_init_db425_0 : decode cJ0_init_db425 0 = .ok (.aload_n 0, 1) := db4_61.1
theorem dJ0_init_db425_1 : decode cJ0_init_db425 1 = .ok (.invokespecial 1, 3) := db4_61.2.1
theorem dJ0_init_db425_4 : decode cJ0_init_db425 4 = .ok (.aload_n 1, 1) := db4_61.2.2.1
theorem dJ0_init_db425_5 : decode cJ0_init_db425 5 = .ok (.invokevirtual 552, 3) := db4_61.2.2.2.1
theorem dJ0_init_db425_8 : decode cJ0_init_db425 8 = .ok (.astore_n 3, 1) := db4_61.2.2.2.2.1
theorem dJ0_init_db425_9 : decode cJ0_init_db425 9 = .ok (.aload_n 1, 1) := db4_61.2.2.2.2.2.1
theorem dJ0_init_db425_10 : decode cJ0_init_db425 10 = .ok (.invokevirtual 549, 3) := db4_61.2.2.2.2.2.2.1
theorem dJ0_init_db425_13 : decode cJ0_init_db425 13 = .ok (.istore 4, 2) := db4_61.2.2.2.2.2.2.2.1
theorem dJ0_init_db425_15 : decode cJ0_init_db425 15 = .ok (.aload_n 1, 1) := db4_61.2.2.2.2.2.2.2.2.1
theorem dJ0_init_db425_16 : decode cJ0_init_db425 16 = .ok (.invokevirtual 1047, 3) := db4_61.2.2.2.2.2.2.2.2.2.1
theorem dJ0_init_db425_19 : decode cJ0_init_db425 19 = .ok (.ifCond .eq 22, 3) := db4_61.2.2.2.2.2.2.2.2.2.2.1
theorem dJ0_init_db425_22 : decode cJ0_init_db425 22 = .ok (.aload_n 0, 1) := db4_61.2.2.2.2.2.2.2.2.2.2.2.1
theorem dJ0_init_db425_23 : decode cJ0_init_db425 23 = .ok (.iconst 0, 1) := db4_61.2.2.2.2.2.2.2.2.2.2.2.2.1
theorem dJ0_init_db425_24 : decode cJ0_init_db425 24 = .ok (.putfield 15, 3) := db4_61.2.2.2.2.2.2.2.2.2.2.2.2.2.1
theorem dJ0_init_db425_27 : decode cJ0_init_db425 27 = .ok (.aload_n 0, 1) := db4_61.2.2.2.2.2.2.2.2.2.2.2.2.2.2.1
theorem dJ0_init_db425_28 : decode cJ0_init_db425 28 = .ok (.aload_n 3, 1) := db4_61.2.2.2.2.2.2.2.2.2.2.2.2.2.2.2
theorem db4_62 : (decode cJ0_init_db425 29 = .ok (.iconst 0, 1)) ∧ (decode cJ0_init_db425 30 = .ok (.iload 4, 2)) ∧ (decode cJ0_init_db425 32 = .ok (.invokestatic 54, 3)) ∧ (decode cJ0_init_db425 35 = .ok (.putfield 9, 3)) ∧ (decode cJ0_init_db425 38 = .ok (.goto 59, 3)) ∧ (decode cJ0_init_db425 41 = .ok (.getstatic 38, 3)) ∧ (decode cJ0_init_db425 44 = .ok (.ifCond .eq 35, 3)) ∧ (decode cJ0_init_db425 47 = .ok (.aload_n 1, 1)) ∧ (decode cJ0_init_db425 48 = .ok (.getfield 1048, 3)) ∧ (decode cJ0_init_db425 51 = .ok (.ifCond .eq 28, 3)) ∧ (decode cJ0_init_db425 54 = .ok (.aload_n 0, 1)) ∧ (decode cJ0_init_db425 55 = .ok (.aload_n 3, 1)) ∧ (decode cJ0_init_db425 56 = .ok (.iconst 0, 1)) ∧ (decode cJ0_init_db425 57 = .ok (.iload 4, 2)) ∧ (decode cJ0_init_db425 59 = .ok (.invokestatic 1051, 3)) ∧ (decode cJ0_init_db425 62 = .ok (.putfield 9, 3)) := by decide +kernel
theorem dJ0_init_db425_29 : decode cJ0_init_db425 29 = .ok (.iconst 0, 1) := db4_62.1
theorem dJ0_init_db425_30 : decode cJ0_init_db425 30 = .ok (.iload 4, 2) := db4_62.2.1
theorem dJ0_init_db425_32 : decode cJ0_init_db425 32 = .ok (.invokestatic 54, 3) := db4_62.2.2.1
theorem dJ0_init_db425_35 : decode cJ0_init_db425 35 = .ok (.putfield 9, 3) := db4_62.2.2.2.1
theorem dJ0_init_db425_38 : decode cJ0_init_db425 38 = .ok (.goto 59, 3) := db4_62.2.2.2.2.1
theorem dJ0_init_db425_41 : decode cJ0_init_db425 41 = .ok (.getstatic 38, 3) := db4_62.2.2.2.2.2.1
theorem dJ0_init_db425_44 : decode cJ0_init_db425 44 = .ok (.ifCond .eq 35, 3) := db4_62.2.2.2.2.2.2.1
theorem dJ0_init_db425_47 : decode cJ0_init_db425 47 = .ok (.aload_n 1, 1) := db4_62.2.2.2.2.2.2.2.1
theorem dJ0_init_db425_48 : decode cJ0_init_db425 48 = .ok (.getfield 1048, 3) := db4_62.2.2.2.2.2.2.2.2.1
theorem dJ0_init_db425_51 : decode cJ0_init_db425 51 = .ok (.ifCond .eq 28, 3) := db4_62.2.2.2.2.2.2.2.2.2.1
theorem dJ0_init_db425_54 : decode cJ0_init_db425 54 = .ok (.aload_n 0, 1) := db4_62.2.2.2.2.2.2.2.2.2.2.1
theorem dJ0_init_db425_55 : decode cJ0_init_db425 55 = .ok (.aload_n 3, 1) := db4_62.2.2.2.2.2.2.2.2.2.2.2.1
theorem dJ0_init_db425_56 : decode cJ0_init_db425 56 = .ok (.iconst 0, 1) := db4_62.2.2.2.2.2.2.2.2.2.2.2.2.1
theorem dJ0_init_db425_57 : decode cJ0_init_db425 57 = .ok (.iload 4, 2) := db4_62.2.2.2.2.2.2.2.2.2.2.2.2.2.1
theorem dJ0_init_db425_59 : decode cJ0_init_db425 59 = .ok (.invokestatic 1051, 3) := db4_62.2.2.2.2.2.2.2.2.2.2.2.2.2.2.1
theorem dJ0_init_db425_62 : decode cJ0_init_db425 62 = .ok (.putfield 9, 3) := db4_62.2.2.2.2.2.2.2.2.2.2.2.2.2.2.2
theorem db4_63 : (decode cJ0_init_db425 65 = .ok (.aload_n 0, 1)) ∧ (decode cJ0_init_db425 66 = .ok (.aload_n 0, 1)) ∧ (decode cJ0_init_db425 67 = .ok (.getfield 9, 3)) ∧ (decode cJ0_init_db425 70 = .ok (.iload 4, 2)) ∧ (decode cJ0_init_db425 72 = .ok (.invokestatic 47, 3)) ∧ (decode cJ0_init_db425 75 = .ok (.putfield 15, 3)) ∧ (decode cJ0_init_db425 78 = .ok (.return_, 1)) ∧ (decode cJ0_init_db425 79 = .ok (.aload_n 0, 1)) ∧ (decode cJ0_init_db425 80 = .ok (.iconst 1, 1)) ∧ (decode cJ0_init_db425 81 = .ok (.putfield 15, 3)) ∧ (decode cJ0_init_db425 84 = .ok (.aload_n 0, 1)) ∧ (decode cJ0_init_db425 85 = .ok (.aload_n 3, 1)) ∧ (decode cJ0_init_db425 86 = .ok (.iconst 0, 1)) ∧ (decode cJ0_init_db425 87 = .ok (.iload 4, 2)) ∧ (decode cJ0_init_db425 89 = .ok (.iconst 1, 1)) ∧ (decode cJ0_init_db425 90 = .ok (.ishl, 1)) := by decide +kernel
theorem dJ0_init_db425_65 : decode cJ0_init_db425 65 = .ok (.aload_n 0, 1) := db4_63.1
theorem dJ0_init_db425_66 : decode cJ0_init_db425 66 = .ok (.aload_n 0, 1) := db4_63.2.1
theorem dJ0_init_db425_67 : decode cJ0_init_db425 67 = .ok (.getfield 9, 3) := db4_63.2.2.1
theorem dJ0_init_db425_70 : decode cJ0_init_db425 70 = .ok (.iload 4, 2) := db4_63.2.2.2.1
theorem dJ0_init_db425_72 : decode cJ0_init_db425 72 = .ok (.invokestatic 47, 3) := db4_63.2.2.2.2.1
theorem dJ0_init_db425_75 : decode cJ0_init_db425 75 = .ok (.putfield 15, 3) := db4_63.2.2.2.2.2.1
theorem dJ0_init_db425_78 : decode cJ0_init_db425 78 = .ok (.return_, 1) := db4_63.2.2.2.2.2.2.1
theorem dJ0_init_db425_79 : decode cJ0_init_db425 79 = .ok (.aload_n 0, 1) := db4_63.2.2.2.2.2.2.2.1
theorem dJ0_init_db425_80 : decode cJ0_init_db425 80 = .ok (.iconst 1, 1) := db4_63.2.2.2.2.2.2.2.2.1
theorem dJ0_init_db425_81 : decode cJ0_init_db425 81 = .ok (.putfield 15, 3) := db4_63.2.2.2.2.2.2.2.2.2.1
theorem dJ0_init_db425_84 : decode cJ0_init_db425 84 = .ok (.aload_n 0, 1) := db4_63.2.2.2.2.2.2.2.2.2.2.1
theorem dJ0_init_db425_85 : decode cJ0_init_db425 85 = .ok (.aload_n 3, 1) := db4_63.2.2.2.2.2.2.2.2.2.2.2.1
theorem dJ0_init_db425_86 : decode cJ0_init_db425 86 = .ok (.iconst 0, 1) := db4_63.2.2.2.2.2.2.2.2.2.2.2.2.1
theorem dJ0_init_db425_87 : decode cJ0_init_db425 87 = .ok (.iload 4, 2) := db4_63.2.2.2.2.2.2.2.2.2.2.2.2.2.1
theorem dJ0_init_db425_89 : decode cJ0_init_db425 89 = .ok (.iconst 1, 1) := db4_63.2.2.2.2.2.2.2.2.2.2.2.2.2.2.1
theorem dJ0_init_db425_90 : decode cJ0_init_db425 90 = .ok (.ishl, 1) := db4_63.2.2.2.2.2.2.2.2.2.2.2.2.2.2.2
theorem db4_64 : (decode cJ0_init_db425 91 = .ok (.invokestatic 54, 3)) ∧ (decode cJ0_init_db425 94 = .ok (.putfield 9, 3)) ∧ (decode cJ0_init_db425 97 = .ok (.return_, 1)) := by decide +kernel
theorem dJ0_init_db425_91 : decode cJ0_init_db425 91 = .ok (.invokestatic 54, 3) := db4_64.1
theorem dJ0_init_db425_94 : decode cJ0_init_db425 94 = .ok (.putfield 9, 3) := db4_64.2.1
theorem dJ0_init_db425_97 : decode cJ0_init_db425 97 = .ok (.return_, 1) := db4_64.2.2
theorem db4_65 : (decode cJ0_coder_7d493 0 = .ok (.getstatic 38, 3)) ∧ (decode cJ0_coder_7d493 3 = .ok (.ifCond .eq 10, 3)) ∧ (decode cJ0_coder_7d493 6 = .ok (.aload_n 0, 1)) ∧ (decode cJ0_coder_7d493 7 = .ok (.getfield 15, 3)) ∧ (decode cJ0_coder_7d493 10 = .ok (.goto 4, 3)) ∧ (decode cJ0_coder_7d493 13 = .ok (.iconst 1, 1)) ∧ (decode cJ0_coder_7d493 14 = .ok (.ireturn, 1)) := by decide +kernel
theorem dJ0_coder_7d493_0 : decode cJ0_coder_7d493 0 = .ok (.getstatic 38, 3) := db4_65.1
theorem dJ0_coder_7d493_3 : decode cJ0_coder_7d493 3 = .ok (.ifCond .eq 10, 3) := db4_65.2.1
theorem dJ0_coder_7d493_6 : decode cJ0_coder_7d493 6 = .ok (.aload_n 0, 1) := db4_65.2.2.1
theorem dJ0_coder_7d493_7 : decode cJ0_coder_7d493 7 = .ok (.getfield 15, 3) := db4_65.2.2.2.1
theorem dJ0_coder_7d493_10 : decode cJ0_coder_7d493 10 = .ok (.goto 4, 3) := db4_65.2.2.2.2.1
theorem dJ0_coder_7d493_13 : decode cJ0_coder_7d493 13 = .ok (.iconst 1, 1) := db4_65.2.2.2.2.2.1
theorem dJ0_coder_7d493_14 : decode cJ0_coder_7d493 14 = .ok (.ireturn, 1) := db4_65.2.2.2.2.2.2
theorem db4_66 : (decode cJ0_checkIndex_df160 0 = .ok (.iload_n 0, 1)) ∧ (decode cJ0_checkIndex_df160 1 = .ok (.iload_n 1, 1)) ∧ (decode cJ0_checkIndex_df160 2 = .ok (.getstatic 1053, 3)) ∧ (decode cJ0_checkIndex_df160 5 = .ok (.invokestatic 1059, 3)) ∧ (decode cJ0_checkIndex_df160 8 = .ok (.pop, 1)) ∧ (decode cJ0_checkIndex_df160 9 = .ok (.return_, 1)) := by decide +kernel
theorem dJ0_checkIndex_df160_0 : decode cJ0_checkIndex_df160 0 = .ok (.iload_n 0, 1) := db4_66.1
theorem dJ0_checkIndex_df160_1 : decode cJ0_checkIndex_df160 1 = .ok (.iload_n 1, 1) := db4_66.2.1
theorem dJ0_checkIndex_df160_2 : decode cJ0_checkIndex_df160 2 = .ok (.getstatic 1053, 3) := db4_66.2.2.1
theorem dJ0_checkIndex_df160_5 : decode cJ0_checkIndex_df160 5 = .ok (.invokestatic 1059, 3) := db4_66.2.2.2.1
theorem dJ0_checkIndex_df160_8 : decode cJ0_checkIndex_df160 8 = .ok (.pop, 1) := db4_66.2.2.2.2.1
theorem dJ0_checkIndex_df160_9 : decode cJ0_checkIndex_df160 9 = .ok (.return_, 1) := db4_66.2.2.2.2.2
theorem db4_67 : (decode cJ0_checkBoundsOffCount_cabcc 0 = .ok (.iload_n 0, 1)) ∧ (decode cJ0_checkBoundsOffCount_cabcc 1 = .ok (.iload_n 1, 1)) ∧ (decode cJ0_checkBoundsOffCount_cabcc 2 = .ok (.iload_n 2, 1)) ∧ (decode cJ0_checkBoundsOffCount_cabcc 3 = .ok (.getstatic 1053, 3)) ∧ (decode cJ0_checkBoundsOffCount_cabcc 6 = .ok (.invokestatic 1065, 3)) ∧ (decode cJ0_checkBoundsOffCount_cabcc 9 = .ok (.ireturn, 1)) := by decide +kernel
theorem dJ0_checkBoundsOffCount_cabcc_0 : decode cJ0_checkBoundsOffCount_cabcc 0 = .ok (.iload_n 0, 1) := db4_67.1
theorem dJ0_checkBoundsOffCount_cabcc_1 : decode cJ0_checkBoundsOffCount_cabcc 1 = .ok (.iload_n 1, 1) := db4_67.2.1
theorem dJ0_checkBoundsOffCount_cabcc_2 : decode cJ0_checkBoundsOffCount_cabcc 2 = .ok (.iload_n 2, 1) := db4_67.2.2.1
theorem dJ0_checkBoundsOffCount_cabcc_3 : decode cJ0_checkBoundsOffCount_cabcc 3 = .ok (.getstatic 1053, 3) := db4_67.2.2.2.1
theorem dJ0_checkBoundsOffCount_cabcc_6 : decode cJ0_checkBoundsOffCount_cabcc 6 = .ok (.invokestatic 1065, 3) := db4_67.2.2.2.2.1
theorem dJ0_checkBoundsOffCount_cabcc_9 : decode cJ0_checkBoundsOffCount_cabcc 9 = .ok (.ireturn, 1) := db4_67.2.2.2.2.2
theorem db4_68 : (decode cJ0_checkBoundsBeginEnd_23922 0 = .ok (.iload_n 0, 1)) ∧ (decode cJ0_checkBoundsBeginEnd_23922 1 = .ok (.iload_n 1, 1)) ∧ (decode cJ0_checkBoundsBeginEnd_23922 2 = .ok (.iload_n 2, 1)) ∧ (decode cJ0_checkBoundsBeginEnd_23922 3 = .ok (.getstatic 1053, 3)) ∧ (decode cJ0_checkBoundsBeginEnd_23922 6 = .ok (.invokestatic 1062, 3)) ∧ (decode cJ0_checkBoundsBeginEnd_23922 9 = .ok (.pop, 1)) ∧ (decode cJ0_checkBoundsBeginEnd_23922 10 = .ok (.return_, 1)) := by decide +kernel
theorem dJ0_checkBoundsBeginEnd_23922_0 : decode cJ0_checkBoundsBeginEnd_23922 0 = .ok (.iload_n 0, 1) := db4_68.1
theorem dJ0_checkBoundsBeginEnd_23922_1 : decode cJ0_checkBoundsBeginEnd_23922 1 = .ok (.iload_n 1, 1) := db4_68.2.1
theorem dJ0_checkBoundsBeginEnd_23922_2 : decode cJ0_checkBoundsBeginEnd_23922 2 = .ok (.iload_n 2, 1) := db4_68.2.2.1
theorem dJ0_checkBoundsBeginEnd_23922_3 : decode cJ0_checkBoundsBeginEnd_23922 3 = .ok (.getstatic 1053, 3) := db4_68.2.2.2.1
theorem dJ0_checkBoundsBeginEnd_23922_6 : decode cJ0_checkBoundsBeginEnd_23922 6 = .ok (.invokestatic 1062, 3) := db4_68.2.2.2.2.1
theorem dJ0_checkBoundsBeginEnd_23922_9 : decode cJ0_checkBoundsBeginEnd_23922 9 = .ok (.pop, 1) := db4_68.2.2.2.2.2.1
theorem dJ0_checkBoundsBeginEnd_23922_10 : decode cJ0_checkBoundsBeginEnd_23922 10 = .ok (.return_, 1) := db4_68.2.2.2.2.2.2
theorem db4_69 : (decode cJ4_init_da8c8 0 = .ok (.aload_n 0, 1)) ∧ (decode cJ4_init_da8c8 1 = .ok (.bipush 16, 2)) ∧ (decode cJ4_init_da8c8 3 = .ok (.invokespecial 1, 3)) ∧ (decode cJ4_init_da8c8 6 = .ok (.return_, 1)) := by decide +kernel
theorem dJ4_init_da8c8_0 : decode cJ4_init_da8c8 0 = .ok (.aload_n 0, 1) := db4_69.1
theorem dJ4_init_da8c8_1 : decode cJ4_init_da8c8 1 = .ok (.bipush 16, 2) := db4_69.2.1
theorem dJ4_init_da8c8_3 : decode cJ4_init_da8c8 3 = .ok (.invokespecial 1, 3) := db4_69.2.2.1
theorem dJ4_init_da8c8_6 : decode cJ4_init_da8c8 6 = .ok (.return_, 1) := db4_69.2.2.2
theorem db4_70 : (decode cJ4_append_15ec4 0 = .ok (.aload_n 0, 1)) ∧ (decode cJ4_append_15ec4 1 = .ok (.aload_n 1, 1)) ∧ (decode cJ4_append_15ec4 2 = .ok (.invokespecial 29, 3)) ∧ (decode cJ4_append_15ec4 5 = .ok (.pop, 1)) ∧ (decode cJ4_append_15ec4 6 = .ok (.aload_n 0, 1)) ∧ (decode cJ4_append_15ec4 7 = .ok (.areturn, 1)) := by decide +kernel
theorem dJ4_append_15ec4_0 : decode cJ4_append_15ec4 0 = .ok (.aload_n 0, 1) := db4_70.1
theorem dJ4_append_15ec4_1 : decode cJ4_append_15ec4 1 = .ok (.aload_n 1, 1) := db4_70.2.1
theorem dJ4_append_15ec4_2 : decode cJ4_append_15ec4 2 = .ok (.invokespecial 29, 3) := db4_70.2.2.1
theorem dJ4_append_15ec4_5 : decode cJ4_append_15ec4 5 = .ok (.pop, 1) := db4_70.2.2.2.1
theorem dJ4_append_15ec4_6 : decode cJ4_append_15ec4 6 = .ok (.aload_n 0, 1) := db4_70.2.2.2.2.1
theorem dJ4_append_15ec4_7 : decode cJ4_append_15ec4 7 = .ok (.areturn, 1) := db4_70.2.2.2.2.2
theorem db4_71 : (decode cJ4_append_cf468 0 = .ok (.aload_n 0, 1)) ∧ (decode cJ4_append_cf468 1 = .ok (.iload_n 1, 1)) ∧ (decode cJ4_append_cf468 2 = .ok (.invokespecial 50, 3)) ∧ (decode cJ4_append_cf468 5 = .ok (.pop, 1)) ∧ (decode cJ4_append_cf468 6 = .ok (.aload_n 0, 1)) ∧ (decode cJ4_append_cf468 7 = .ok (.areturn, 1)) := by decide +kernel
theorem dJ4_append_cf468_0 : decode cJ4_append_cf468 0 = .ok (.aload_n 0, 1) := db4_71.1
theorem dJ4_append_cf468_1 : decode cJ4_append_cf468 1 = .ok (.iload_n 1, 1) := db4_71.2.1
theorem dJ4_append_cf468_2 : decode cJ4_append_cf468 2 = .ok (.invokespecial 50, 3) := db4_71.2.2.1
theorem dJ4_append_cf468_5 : decode cJ4_append_cf468 5 = .ok (.pop, 1) := db4_71.2.2.2.1
theorem dJ4_append_cf468_6 : decode cJ4_append_cf468 6 = .ok (.aload_n 0, 1) := db4_71.2.2.2.2.1
theorem dJ4_append_cf468_7 : decode cJ4_append_cf468 7 = .ok (.areturn, 1) := db4_71.2.2.2.2.2
theorem db4_72 : (decode cJ4_append_bf812 0 = .ok (.aload_n 0, 1)) ∧ (decode cJ4_append_bf812 1 = .ok (.iload_n 1, 1)) ∧ (decode cJ4_append_bf812 2 = .ok (.invokespecial 53, 3)) ∧ (decode cJ4_append_bf812 5 = .ok (.pop, 1)) ∧ (decode cJ4_append_bf812 6 = .ok (.aload_n 0, 1)) ∧ (decode cJ4_append_bf812 7 = .ok (.areturn, 1)) := by decide +kernel
theorem dJ4_append_bf812_0 : decode cJ4_append_bf812 0 = .ok (.aload_n 0, 1) := db4_72.1
theorem dJ4_append_bf812_1 : decode cJ4_append_bf812 1 = .ok (.iload_n 1, 1) := db4_72.2.1
theorem dJ4_append_bf812_2 : decode cJ4_append_bf812 2 = .ok (.invokespecial 53, 3) := db4_72.2.2.1
theorem dJ4_append_bf812_5 : decode cJ4_append_bf812 5 = .ok (.pop, 1) := db4_72.2.2.2.1
theorem dJ4_append_bf812_6 : decode cJ4_append_bf812 6 = .ok (.aload_n 0, 1) := db4_72.2.2.2.2.1
theorem dJ4_append_bf812_7 : decode cJ4_append_bf812 7 = .ok (.areturn, 1) := db4_72.2.2.2.2.2
theorem db4_73 : (decode cJ4_toString_0e30d 0 = .ok (.new 18, 3)) ∧ (decode cJ4_toString_0e30d 3 = .ok (.dup, 1)) ∧ (decode cJ4_toString_0e30d 4 = .ok (.aload_n 0, 1)) ∧ (decode cJ4_toString_0e30d 5 = .ok (.invokespecial 137, 3)) ∧ (decode cJ4_toString_0e30d 8 = .ok (.areturn, 1)) := by decide +kernel
theorem dJ4_toString_0e30d_0 : decode cJ4_toString_0e30d 0 = .ok (.new 18, 3) := db4_73.1
theorem dJ4_toString_0e30d_3 : decode cJ4_toString_0e30d 3 = .ok (.dup, 1) := db4_73.2.1
theorem dJ4_toString_0e30d_4 : decode cJ4_toString_0e30d 4 = .ok (.aload_n 0, 1) := db4_73.2.2.1
theorem dJ4_toString_0e30d_5 : decode cJ4_toString_0e30d 5 = .ok (.invokespecial 137, 3) := db4_73.2.2.2.1
theorem dJ4_toString_0e30d_8 : decode cJ4_toString_0e30d 8 = .ok (.areturn, 1) := db4_73.2.2.2.2
theorem db4_74 : (decode cJ4_setLength_d00df 0 = .ok (.aload_n 0, 1)) ∧ (decode cJ4_setLength_d00df 1 = .ok (.iload_n 1, 1)) ∧ (decode cJ4_setLength_d00df 2 = .ok (.invokespecial 333, 3)) ∧ (decode cJ4_setLength_d00df 5 = .ok (.return_, 1)) := by decide +kernel
theorem dJ4_setLength_d00df_0 : decode cJ4_setLength_d00df 0 = .ok (.aload_n 0, 1) := db4_74.1
theorem dJ4_setLength_d00df_1 : decode cJ4_setLength_d00df 1 = .ok (.iload_n 1, 1) := db4_74.2.1
theorem dJ4_setLength_d00df_2 : decode cJ4_setLength_d00df 2 = .ok (.invokespecial 333, 3) := db4_74.2.2.1
theorem dJ4_setLength_d00df_5 : decode cJ4_setLength_d00df 5 = .ok (.return_, 1) := db4_74.2.2.2
theorem db4_75 : (decode cJ4_length_8abf5 0 = .ok (.aload_n 0, 1)) ∧ (decode cJ4_length_8abf5 1 = .ok (.invokespecial 343, 3)) ∧ (decode cJ4_length_8abf5 4 = .ok (.ireturn, 1)) := by decide +kernel
theorem dJ4_length_8abf5_0 : decode cJ4_length_8abf5 0 = .ok (.aload_n 0, 1) := db4_75.1
theorem dJ4_length_8abf5_1 : decode cJ4_length_8abf5 1 = .ok (.invokespecial 343, 3) := db4_75.2.1
theorem dJ4_length_8abf5_4 : decode cJ4_length_8abf5 4 = .ok (.ireturn, 1) := db4_75.2.2
theorem db4_76 : (decode cJx7c733_init_d00df 0 = .ok (.aload_n 0, 1)) ∧ (decode cJx7c733_init_d00df 1 = .ok (.new 10, 3)) ∧ (decode cJx7c733_init_d00df 4 = .ok (.dup, 1)) ∧ (decode cJx7c733_init_d00df 5 = .ok (.invokespecial 12, 3)) ∧ (decode cJx7c733_init_d00df 8 = .ok (.ldc 13, 2)) ∧ (decode cJx7c733_init_d00df 10 = .ok (.invokevirtual 15, 3)) ∧ (decode cJx7c733_init_d00df 13 = .ok (.iload_n 1, 1)) ∧ (decode cJx7c733_init_d00df 14 = .ok (.invokevirtual 19, 3)) ∧ (decode cJx7c733_init_d00df 17 = .ok (.invokevirtual 22, 3)) ∧ (decode cJx7c733_init_d00df 20 = .ok (.invokespecial 7, 3)) ∧ (decode cJx7c733_init_d00df 23 = .ok (.return_, 1)) := by decide +kernel
theorem dJx7c733_init_d00df_0 : decode cJx7c733_init_d00df 0 = .ok (.aload_n 0, 1) := db4_76.1
theorem dJx7c733_init_d00df_1 : decode cJx7c733_init_d00df 1 = .ok (.new 10, 3) := db4_76.2.1
theorem dJx7c733_init_d00df_4 : decode cJx7c733_init_d00df 4 = .ok (.dup, 1) := db4_76.2.2.1
theorem dJx7c733_init_d00df_5 : decode cJx7c733_init_d00df 5 = .ok (.invokespecial 12, 3) := db4_76.2.2.2.1
theorem dJx7c733_init_d00df_8 : decode cJx7c733_init_d00df 8 = .ok (.ldc 13, 2) := db4_76.2.2.2.2.1
theorem dJx7c733_init_d00df_10 : decode cJx7c733_init_d00df 10 = .ok (.invokevirtual 15, 3) := db4_76.2.2.2.2.2.1
theorem dJx7c733_init_d00df_13 : decode cJx7c733_init_d00df 13 = .ok (.iload_n 1, 1) := db4_76.2.2.2.2.2.2.1
theorem dJx7c733_init_d00df_14 : decode cJx7c733_init_d00df 14 = .ok (.invokevirtual 19, 3) := db4_76.2.2.2.2.2.2.2.1
theorem dJx7c733_init_d00df_17 : decode cJx7c733_init_d00df 17 = .ok (.invokevirtual 22, 3) := db4_76.2.2.2.2.2.2.2.2.1
theorem dJx7c733_init_d00df_20 : decode cJx7c733_init_d00df 20 = .ok (.invokespecial 7, 3) := db4_76.2.2.2.2.2.2.2.2.2.1
theorem dJx7c733_init_d00df_23 : decode cJx7c733_init_d00df 23 = .ok (.return_, 1) := db4_76.2.2.2.2.2.2.2.2.2.2
theorem db4_77 : (decode cJ1_canEncode_fc78d 0 = .ok (.iload_n 0, 1)) ∧ (decode cJ1_canEncode_fc78d 1 = .ok (.sipush 255, 3)) ∧ (decode cJ1_canEncode_fc78d 4 = .ok (.if_icmp .gt 7, 3)) ∧ (decode cJ1_canEncode_fc78d 7 = .ok (.iconst 1, 1)) ∧ (decode cJ1_canEncode_fc78d 8 = .ok (.goto 4, 3)) ∧ (decode cJ1_canEncode_fc78d 11 = .ok (.iconst 0, 1)) ∧ (decode cJ1_canEncode_fc78d 12 = .ok (.ireturn, 1)) := by decide +kernel
theorem dJ1_canEncode_fc78d_0 : decode cJ1_canEncode_fc78d 0 = .ok (.iload_n 0, 1) := db4_77.1
theorem dJ1_canEncode_fc78d_1 : decode cJ1_canEncode_fc78d 1 = .ok (.sipush 255, 3) := db4_77.2.1
theorem dJ1_canEncode_fc78d_4 : decode cJ1_canEncode_fc78d 4 = .ok (.if_icmp .gt 7, 3) := db4_77.2.2.1
theorem dJ1_canEncode_fc78d_7 : decode cJ1_canEncode_fc78d 7 = .ok (.iconst 1, 1) := db4_77.2.2.2.1
theorem dJ1_canEncode_fc78d_8 : decode cJ1_canEncode_fc78d 8 = .ok (.goto 4, 3) := db4_77.2.2.2.2.1
theorem dJ1_canEncode_fc78d_11 : decode cJ1_canEncode_fc78d 11 = .ok (.iconst 0, 1) := db4_77.2.2.2.2.2.1
theorem dJ1_canEncode_fc78d_12 : decode cJ1_canEncode_fc78d 12 = .ok (.ireturn, 1) := db4_77.2.2.2.2.2.2
theorem db4_78 : (decode cJ1_fillNull_b72d1 0 = .ok (.aload_n 0, 1)) ∧ (decode cJ1_fillNull_b72d1 1 = .ok (.iload_n 1, 1)) ∧ (decode cJ1_fillNull_b72d1 2 = .ok (.iload_n 2, 1)) ∧ (decode cJ1_fillNull_b72d1 3 = .ok (.iconst 0, 1)) ∧ (decode cJ1_fillNull_b72d1 4 = .ok (.invokestatic 236, 3)) ∧ (decode cJ1_fillNull_b72d1 7 = .ok (.return_, 1)) := by decide +kernel
theorem dJ1_fillNull_b72d1_0 : decode cJ1_fillNull_b72d1 0 = .ok (.aload_n 0, 1) := db4_78.1
theorem dJ1_fillNull_b72d1_1 : decode cJ1_fillNull_b72d1 1 = .ok (.iload_n 1, 1) := db4_78.2.1
theorem dJ1_fillNull_b72d1_2 : decode cJ1_fillNull_b72d1 2 = .ok (.iload_n 2, 1) := db4_78.2.2.1
theorem dJ1_fillNull_b72d1_3 : decode cJ1_fillNull_b72d1 3 = .ok (.iconst 0, 1) := db4_78.2.2.2.1
theorem dJ1_fillNull_b72d1_4 : decode cJ1_fillNull_b72d1 4 = .ok (.invokestatic 236, 3) := db4_78.2.2.2.2.1
theorem dJ1_fillNull_b72d1_7 : decode cJ1_fillNull_b72d1 7 = .ok (.return_, 1) := db4_78.2.2.2.2.2
theorem db4_79 : (decode cJ1_inflate_0e8fd 0 = .ok (.aload_n 0, 1)) ∧ (decode cJ1_inflate_0e8fd 1 = .ok (.iload_n 1, 1)) ∧ (decode cJ1_inflate_0e8fd 2 = .ok (.aload_n 2, 1)) ∧ (decode cJ1_inflate_0e8fd 3 = .ok (.iload_n 3, 1)) ∧ (decode cJ1_inflate_0e8fd 4 = .ok (.iload 4, 2)) ∧ (decode cJ1_inflate_0e8fd 6 = .ok (.invokestatic 240, 3)) ∧ (decode cJ1_inflate_0e8fd 9 = .ok (.return_, 1)) := by decide +kernel
theorem dJ1_inflate_0e8fd_0 : decode cJ1_inflate_0e8fd 0 = .ok (.aload_n 0, 1) := db4_79.1
theorem dJ1_inflate_0e8fd_1 : decode cJ1_inflate_0e8fd 1 = .ok (.iload_n 1, 1) := db4_79.2.1
theorem dJ1_inflate_0e8fd_2 : decode cJ1_inflate_0e8fd 2 = .ok (.aload_n 2, 1) := db4_79.2.2.1
theorem dJ1_inflate_0e8fd_3 : decode cJ1_inflate_0e8fd 3 = .ok (.iload_n 3, 1) := db4_79.2.2.2.1
theorem dJ1_inflate_0e8fd_4 : decode cJ1_inflate_0e8fd 4 = .ok (.iload 4, 2) := db4_79.2.2.2.2.1
theorem dJ1_inflate_0e8fd_6 : decode cJ1_inflate_0e8fd 6 = .ok (.invokestatic 240, 3) := db4_79.2.2.2.2.2.1
theorem dJ1_inflate_0e8fd_9 : decode cJ1_inflate_0e8fd 9 = .ok (.return_, 1) := db4_79.2.2.2.2.2.2
theorem db4_80 : (decode cJ2_newBytesFor_77867 0 = .ok (.iload_n 0, 1)) ∧ (decode cJ2_newBytesFor_77867 1 = .ok (.invokestatic 11, 3)) ∧ (decode cJ2_newBytesFor_77867 4 = .ok (.newarray .byte, 2)) ∧ (decode cJ2_newBytesFor_77867 6 = .ok (.areturn, 1)) := by decide +kernel
theorem dJ2_newBytesFor_77867_0 : decode cJ2_newBytesFor_77867 0 = .ok (.iload_n 0, 1) := db4_80.1
theorem dJ2_newBytesFor_77867_1 : decode cJ2_newBytesFor_77867 1 = .ok (.invokestatic 11, 3) := db4_80.2.1
theorem dJ2_newBytesFor_77867_4 : decode cJ2_newBytesFor_77867 4 = .ok (.newarray .byte, 2) := db4_80.2.2.1
theorem dJ2_newBytesFor_77867_6 : decode cJ2_newBytesFor_77867 6 = .ok (.areturn, 1) := db4_80.2.2.2
theorem db4_81 : (decode cJ2_newBytesLength_0f7a4 0 = .ok (.iload_n 0, 1)) ∧ (decode cJ2_newBytesLength_0f7a4 1 = .ok (.ifCond .ge 11, 3)) ∧ (decode cJ2_newBytesLength_0f7a4 4 = .ok (.new 17, 3)) ∧ (decode cJ2_newBytesLength_0f7a4 7 = .ok (.dup, 1)) ∧ (decode cJ2_newBytesLength_0f7a4 8 = .ok (.invokespecial 19, 3)) ∧ (decode cJ2_newBytesLength_0f7a4 11 = .ok (.athrow, 1)) ∧ (decode cJ2_newBytesLength_0f7a4 12 = .ok (.iload_n 0, 1)) ∧ (decode cJ2_newBytesLength_0f7a4 13 = .ok (.ldc 20, 2)) ∧ (decode cJ2_newBytesLength_0f7a4 15 = .ok (.if_icmp .lt 40, 3)) ∧ (decode cJ2_newBytesLength_0f7a4 18 = .ok (.new 21, 3)) ∧ (decode cJ2_newBytesLength_0f7a4 21 = .ok (.dup, 1)) ∧ (decode cJ2_newBytesLength_0f7a4 22 = .ok (.new 23, 3)) ∧ (decode cJ2_newBytesLength_0f7a4 25 = .ok (.dup, 1)) ∧ (decode cJ2_newBytesLength_0f7a4 26 = .ok (.invokespecial 25, 3)) ∧ (decode cJ2_newBytesLength_0f7a4 29 = .ok (.ldc 26, 2)) ∧ (decode cJ2_newBytesLength_0f7a4 31 = .ok (.invokevirtual 28, 3)) := by decide +kernel
theorem dJ2_newBytesLength_0f7a4_0 : decode cJ2_newBytesLength_0f7a4 0 = .ok (.iload_n 0, 1) := db4_81.1
theorem dJ2_newBytesLength_0f7a4_1 : decode cJ2_newBytesLength_0f7a4 1 = .ok (.ifCond .ge 11, 3) := db4_81.2.1
theorem dJ2_newBytesLength_0f7a4_4 : decode cJ2_newBytesLength_0f7a4 4 = .ok (.new 17, 3) := db4_81.2.2.1
theorem dJ2_newBytesLength_0f7a4_7 : decode cJ2_newBytesLength_0f7a4 7 = .ok (.dup, 1) := db4_81.2.2.2.1
theorem dJ2_newBytesLength_0f7a4_8 : decode cJ2_newBytesLength_0f7a4 8 = .ok (.invokespecial 19, 3) := db4_81.2.2.2.2.1
theorem dJ2_newBytesLength_0f7a4_11 : decode cJ2_newBytesLength_0f7a4 11 = .ok (.athrow, 1) := db4_81.2.2.2.2.2.1
theorem dJ2_newBytesLength_0f7a4_12 : decode cJ2_newBytesLength_0f7a4 12 = .ok (.iload_n 0, 1) := db4_81.2.2.2.2.2.2.1
theorem dJ2_newBytesLength_0f7a4_13 : decode cJ2_newBytesLength_0f7a4 13 = .ok (.ldc 20, 2) := db4_81.2.2.2.2.2.2.2.1
theorem dJ2_newBytesLength_0f7a4_15 : decode cJ2_newBytesLength_0f7a4 15 = .ok (.if_icmp .lt 40, 3) := db4_81.2.2.2.2.2.2.2.2.1
theorem dJ2_newBytesLength_0f7a4_18 : decode cJ2_newBytesLength_0f7a4 18 = .ok (.new 21, 3) := db4_81.2.2.2.2.2.2.2.2.2.1
theorem dJ2_newBytesLength_0f7a4_21 : decode cJ2_newBytesLength_0f7a4 21 = .ok (.dup, 1) := db4_81.2.2.2.2.2.2.2.2.2.2.1
theorem dJ2_newBytesLength_0f7a4_22 : decode cJ2_newBytesLength_0f7a4 22 = .ok (.new 23, 3) := db4_81.2.2.2.2.2.2.2.2.2.2.2.1
theorem dJ2_newBytesLength_0f7a4_25 : decode cJ2_newBytesLength_0f7a4 25 = .ok (.dup, 1) := db4_81.2.2.2.2.2.2.2.2.2.2.2.2.1
theorem dJ2_newBytesLength_0f7a4_26 : decode cJ2_newBytesLength_0f7a4 26 = .ok (.invokespecial 25, 3) := db4_81.2.2.2.2.2.2.2.2.2.2.2.2.2.1
theorem dJ2_newBytesLength_0f7a4_29 : decode cJ2_newBytesLength_0f7a4 29 = .ok (.ldc 26, 2) := db4_81.2.2.2.2.2.2.2.2.2.2.2.2.2.2.1
theorem dJ2_newBytesLength_0f7a4_31 : decode cJ2_newBytesLength_0f7a4 31 = .ok (.invokevirtual 28, 3) := db4_81.2.2.2.2.2.2.2.2.2.2.2.2.2.2.2
theorem db4_82 : (decode cJ2_newBytesLength_0f7a4 34 = .ok (.iload_n 0, 1)) ∧ (decode cJ2_newBytesLength_0f7a4 35 = .ok (.invokevirtual 32, 3)) ∧ (decode cJ2_newBytesLength_0f7a4 38 = .ok (.ldc 35, 2)) ∧ (decode cJ2_newBytesLength_0f7a4 40 = .ok (.invokevirtual 28, 3)) ∧ (decode cJ2_newBytesLength_0f7a4 43 = .ok (.ldc 20, 2)) ∧ (decode cJ2_newBytesLength_0f7a4 45 = .ok (.invokevirtual 32, 3)) ∧ (decode cJ2_newBytesLength_0f7a4 48 = .ok (.invokevirtual 37, 3)) ∧ (decode cJ2_newBytesLength_0f7a4 51 = .ok (.invokespecial 41, 3)) ∧ (decode cJ2_newBytesLength_0f7a4 54 = .ok (.athrow, 1)) ∧ (decode cJ2_newBytesLength_0f7a4 55 = .ok (.iload_n 0, 1)) ∧ (decode cJ2_newBytesLength_0f7a4 56 = .ok (.iconst 1, 1)) ∧ (decode cJ2_newBytesLength_0f7a4 57 = .ok (.ishl, 1)) ∧ (decode cJ2_newBytesLength_0f7a4 58 = .ok (.ireturn, 1)) := by decide +kernel
theorem dJ2_newBytesLength_0f7a4_34 : decode cJ2_newBytesLength_0f7a4 34 = .ok (.iload_n 0, 1) := db4_82.1
theorem dJ2_newBytesLength_0f7a4_35 : decode cJ2_newBytesLength_0f7a4 35 = .ok (.invokevirtual 32, 3) := db4_82.2.1
theorem dJ2_newBytesLength_0f7a4_38 : decode cJ2_newBytesLength_0f7a4 38 = .ok (.ldc 35, 2) := db4_82.2.2.1
theorem dJ2_newBytesLength_0f7a4_40 : decode cJ2_newBytesLength_0f7a4 40 = .ok (.invokevirtual 28, 3) := db4_82.2.2.2.1
theorem dJ2_newBytesLength_0f7a4_43 : decode cJ2_newBytesLength_0f7a4 43 = .ok (.ldc 20, 2) := db4_82.2.2.2.2.1
theorem dJ2_newBytesLength_0f7a4_45 : decode cJ2_newBytesLength_0f7a4 45 = .ok (.invokevirtual 32, 3) := db4_82.2.2.2.2.2.1
theorem dJ2_newBytesLength_0f7a4_48 : decode cJ2_newBytesLength_0f7a4 48 = .ok (.invokevirtual 37, 3) := db4_82.2.2.2.2.2.2.1
theorem dJ2_newBytesLength_0f7a4_51 : decode cJ2_newBytesLength_0f7a4 51 = .ok (.invokespecial 41, 3) := db4_82.2.2.2.2.2.2.2.1
theorem dJ2_newBytesLength_0f7a4_54 : decode cJ2_newBytesLength_0f7a4 54 = .ok (.athrow, 1) := db4_82.2.2.2.2.2.2.2.2.1
theorem dJ2_newBytesLength_0f7a4_55 : decode cJ2_newBytesLength_0f7a4 55 = .ok (.iload_n 0, 1) := db4_82.2.2.2.2.2.2.2.2.2.1
theorem dJ2_newBytesLength_0f7a4_56 : decode cJ2_newBytesLength_0f7a4 56 = .ok (.iconst 1, 1) := db4_82.2.2.2.2.2.2.2.2.2.2.1
theorem dJ2_newBytesLength_0f7a4_57 : decode cJ2_newBytesLength_0f7a4 57 = .ok (.ishl, 1) := db4_82.2.2.2.2.2.2.2.2.2.2.2.1
theorem dJ2_newBytesLength_0f7a4_58 : decode cJ2_newBytesLength_0f7a4 58 = .ok (.ireturn, 1) := db4_82.2.2.2.2.2.2.2.2.2.2.2.2
theorem db4_83 : (decode cJ2_putChar_b72d1 0 = .ok (.getstatic 44, 3)) ∧ (decode cJ2_putChar_b72d1 3 = .ok (.ifCond .ne 25, 3)) ∧ (decode cJ2_putChar_b72d1 6 = .ok (.iload_n 1, 1)) ∧ (decode cJ2_putChar_b72d1 7 = .ok (.ifCond .lt 11, 3)) ∧ (decode cJ2_putChar_b72d1 10 = .ok (.iload_n 1, 1)) ∧ (decode cJ2_putChar_b72d1 11 = .ok (.aload_n 0, 1)) ∧ (decode cJ2_putChar_b72d1 12 = .ok (.invokestatic 48, 3)) ∧ (decode cJ2_putChar_b72d1 15 = .ok (.if_icmp .lt 13, 3)) ∧ (decode cJ2_putChar_b72d1 18 = .ok (.new 52, 3)) ∧ (decode cJ2_putChar_b72d1 21 = .ok (.dup, 1)) ∧ (decode cJ2_putChar_b72d1 22 = .ok (.ldc 54, 2)) ∧ (decode cJ2_putChar_b72d1 24 = .ok (.invokespecial 56, 3)) ∧ (decode cJ2_putChar_b72d1 27 = .ok (.athrow, 1)) ∧ (decode cJ2_putChar_b72d1 28 = .ok (.iload_n 1, 1)) ∧ (decode cJ2_putChar_b72d1 29 = .ok (.iconst 1, 1)) ∧ (decode cJ2_putChar_b72d1 30 = .ok (.ishl, 1)) := by decide +kernel
theorem dJ2_putChar_b72d1_0 : decode cJ2_putChar_b72d1 0 = .ok (.getstatic 44, 3) := db4_83.1
theorem dJ2_putChar_b72d1_3 : decode cJ2_putChar_b72d1 3 = .ok (.ifCond .ne 25, 3) := db4_83.2.1
theorem dJ2_putChar_b72d1_6 : decode cJ2_putChar_b72d1 6 = .ok (.iload_n 1, 1) := db4_83.2.2.1
theorem dJ2_putChar_b72d1_7 : decode cJ2_putChar_b72d1 7 = .ok (.ifCond .lt 11, 3) := db4_83.2.2.2.1
theorem dJ2_putChar_b72d1_10 : decode cJ2_putChar_b72d1 10 = .ok (.iload_n 1, 1) := db4_83.2.2.2.2.1
theorem dJ2_putChar_b72d1_11 : decode cJ2_putChar_b72d1 11 = .ok (.aload_n 0, 1) := db4_83.2.2.2.2.2.1
theorem dJ2_putChar_b72d1_12 : decode cJ2_putChar_b72d1 12 = .ok (.invokestatic 48, 3) := db4_83.2.2.2.2.2.2.1
theorem dJ2_putChar_b72d1_15 : decode cJ2_putChar_b72d1 15 = .ok (.if_icmp .lt 13, 3) := db4_83.2.2.2.2.2.2.2.1
theorem dJ2_putChar_b72d1_18 : decode cJ2_putChar_b72d1 18 = .ok (.new 52, 3) := db4_83.2.2.2.2.2.2.2.2.1
theorem dJ2_putChar_b72d1_21 : decode cJ2_putChar_b72d1 21 = .ok (.dup, 1) := db4_83.2.2.2.2.2.2.2.2.2.1
theorem dJ2_putChar_b72d1_22 : decode cJ2_putChar_b72d1 22 = .ok (.ldc 54, 2) := db4_83.2.2.2.2.2.2.2.2.2.2.1
theorem dJ2_putChar_b72d1_24 : decode cJ2_putChar_b72d1 24 = .ok (.invokespecial 56, 3) := db4_83.2.2.2.2.2.2.2.2.2.2.2.1
theorem dJ2_putChar_b72d1_27 : decode cJ2_putChar_b72d1 27 = .ok (.athrow, 1) := db4_83.2.2.2.2.2.2.2.2.2.2.2.2.1
theorem dJ2_putChar_b72d1_28 : decode cJ2_putChar_b72d1 28 = .ok (.iload_n 1, 1) := db4_83.2.2.2.2.2.2.2.2.2.2.2.2.2.1
theorem dJ2_putChar_b72d1_29 : decode cJ2_putChar_b72d1 29 = .ok (.iconst 1, 1) := db4_83.2.2.2.2.2.2.2.2.2.2.2.2.2.2.1
theorem dJ2_putChar_b72d1_30 : decode cJ2_putChar_b72d1 30 = .ok (.ishl, 1) := db4_83.2.2.2.2.2.2.2.2.2.2.2.2.2.2.2
theorem db4_84 : (decode cJ2_putChar_b72d1 31 = .ok (.istore_n 1, 1)) ∧ (decode cJ2_putChar_b72d1 32 = .ok (.aload_n 0, 1)) ∧ (decode cJ2_putChar_b72d1 33 = .ok (.iload_n 1, 1)) ∧ (decode cJ2_putChar_b72d1 34 = .ok (.iinc 1 1, 3)) ∧ (decode cJ2_putChar_b72d1 37 = .ok (.iload_n 2, 1)) ∧ (decode cJ2_putChar_b72d1 38 = .ok (.getstatic 59, 3)) ∧ (decode cJ2_putChar_b72d1 41 = .ok (.ishr, 1)) ∧ (decode cJ2_putChar_b72d1 42 = .ok (.i2b, 1)) ∧ (decode cJ2_putChar_b72d1 43 = .ok (.bastore, 1)) ∧ (decode cJ2_putChar_b72d1 44 = .ok (.aload_n 0, 1)) ∧ (decode cJ2_putChar_b72d1 45 = .ok (.iload_n 1, 1)) ∧ (decode cJ2_putChar_b72d1 46 = .ok (.iload_n 2, 1)) ∧ (decode cJ2_putChar_b72d1 47 = .ok (.getstatic 63, 3)) ∧ (decode cJ2_putChar_b72d1 50 = .ok (.ishr, 1)) ∧ (decode cJ2_putChar_b72d1 51 = .ok (.i2b, 1)) ∧ (decode cJ2_putChar_b72d1 52 = .ok (.bastore, 1)) := by decide +kernel
theorem dJ2_putChar_b72d1_31 : decode cJ2_putChar_b72d1 31 = .ok (.istore_n 1, 1) := db4_84.1
theorem dJ2_putChar_b72d1_32 : decode cJ2_putChar_b72d1 32 = .ok (.aload_n 0, 1) := db4_84.2.1
theorem dJ2_putChar_b72d1_33 : decode cJ2_putChar_b72d1 33 = .ok (.iload_n 1, 1) := db4_84.2.2.1
theorem dJ2_putChar_b72d1_34 : decode cJ2_putChar_b72d1 34 = .ok (.iinc 1 1, 3) := db4_84.2.2.2.1
theorem dJ2_putChar_b72d1_37 : decode cJ2_putChar_b72d1 37 = .ok (.iload_n 2, 1) := db4_84.2.2.2.2.1
theorem dJ2_putChar_b72d1_38 : decode cJ2_putChar_b72d1 38 = .ok (.getstatic 59, 3) := db4_84.2.2.2.2.2.1
theorem dJ2_putChar_b72d1_41 : decode cJ2_putChar_b72d1 41 = .ok (.ishr, 1) := db4_84.2.2.2.2.2.2.1
theorem dJ2_putChar_b72d1_42 : decode cJ2_putChar_b72d1 42 = .ok (.i2b, 1) := db4_84.2.2.2.2.2.2.2.1
theorem dJ2_putChar_b72d1_43 : decode cJ2_putChar_b72d1 43 = .ok (.bastore, 1) := db4_84.2.2.2.2.2.2.2.2.1
theorem dJ2_putChar_b72d1_44 : decode cJ2_putChar_b72d1 44 = .ok (.aload_n 0, 1) := db4_84.2.2.2.2.2.2.2.2.2.1
theorem dJ2_putChar_b72d1_45 : decode cJ2_putChar_b72d1 45 = .ok (.iload_n 1, 1) := db4_84.2.2.2.2.2.2.2.2.2.2.1
theorem dJ2_putChar_b72d1_46 : decode cJ2_putChar_b72d1 46 = .ok (.iload_n 2, 1) := db4_84.2.2.2.2.2.2.2.2.2.2.2.1
theorem dJ2_putChar_b72d1_47 : decode cJ2_putChar_b72d1 47 = .ok (.getstatic 63, 3) := db4_84.2.2.2.2.2.2.2.2.2.2.2.2.1
theorem dJ2_putChar_b72d1_50 : decode cJ2_putChar_b72d1 50 = .ok (.ishr, 1) := db4_84.2.2.2.2.2.2.2.2.2.2.2.2.2.1
theorem dJ2_putChar_b72d1_51 : decode cJ2_putChar_b72d1 51 = .ok (.i2b, 1) := db4_84.2.2.2.2.2.2.2.2.2.2.2.2.2.2.1
theorem dJ2_putChar_b72d1_52 : decode cJ2_putChar_b72d1 52 = .ok (.bastore, 1) := db4_84.2.2.2.2.2.2.2.2.2.2.2.2.2.2.2
theorem dJ2_putChar_b72d1_53 : decode cJ2_putChar_b72d1 53 = .ok (.return_, 1) := by decide +kernel
theorem db4_85 : (decode cJ2_getChar_3b067 0 = .ok (.getstatic 44, 3)) ∧ (decode cJ2_getChar_3b067 3 = .ok (.ifCond .ne 25, 3)) ∧ (decode cJ2_getChar_3b067 6 = .ok (.iload_n 1, 1)) ∧ (decode cJ2_getChar_3b067 7 = .ok (.ifCond .lt 11, 3)) ∧ (decode cJ2_getChar_3b067 10 = .ok (.iload_n 1, 1)) ∧ (decode cJ2_getChar_3b067 11 = .ok (.aload_n 0, 1)) ∧ (decode cJ2_getChar_3b067 12 = .ok (.invokestatic 48, 3)) ∧ (decode cJ2_getChar_3b067 15 = .ok (.if_icmp .lt 13, 3)) ∧ (decode cJ2_getChar_3b067 18 = .ok (.new 52, 3)) ∧ (decode cJ2_getChar_3b067 21 = .ok (.dup, 1)) ∧ (decode cJ2_getChar_3b067 22 = .ok (.ldc 54, 2)) ∧ (decode cJ2_getChar_3b067 24 = .ok (.invokespecial 56, 3)) ∧ (decode cJ2_getChar_3b067 27 = .ok (.athrow, 1)) ∧ (decode cJ2_getChar_3b067 28 = .ok (.iload_n 1, 1)) ∧ (decode cJ2_getChar_3b067 29 = .ok (.iconst 1, 1)) ∧ (decode cJ2_getChar_3b067 30 = .ok (.ishl, 1)) := by decide +kernel
theorem dJ2_getChar_3b067_0 : decode cJ2_getChar_3b067 0 = .ok (.getstatic 44, 3) := db4_85.1
theorem dJ2_getChar_3b067_3 : decode cJ2_getChar_3b067 3 = .ok (.ifCond .ne 25, 3) := db4_85.2.1
theorem dJ2_getChar_3b067_6 : decode cJ2_getChar_3b067 6 = .ok (.iload_n 1, 1) := db4_85.2.2.1
theorem dJ2_getChar_3b067_7 : decode cJ2_getChar_3b067 7 = .ok (.ifCond .lt 11, 3) := db4_85.2.2.2.1
theorem dJ2_getChar_3b067_10 : decode cJ2_getChar_3b067 10 = .ok (.iload_n 1, 1) := db4_85.2.2.2.2.1
theorem dJ2_getChar_3b067_11 : decode cJ2_getChar_3b067 11 = .ok (.aload_n 0, 1) := db4_85.2.2.2.2.2.1
theorem dJ2_getChar_3b067_12 : decode cJ2_getChar_3b067 12 = .ok (.invokestatic 48, 3) := db4_85.2.2.2.2.2.2.1
theorem dJ2_getChar_3b067_15 : decode cJ2_getChar_3b067 15 = .ok (.if_icmp .lt 13, 3) := db4_85.2.2.2.2.2.2.2.1
theorem dJ2_getChar_3b067_18 : decode cJ2_getChar_3b067 18 = .ok (.new 52, 3) := db4_85.2.2.2.2.2.2.2.2.1
theorem dJ2_getChar_3b067_21 : decode cJ2_getChar_3b067 21 = .ok (.dup, 1) := db4_85.2.2.2.2.2.2.2.2.2.1
theorem dJ2_getChar_3b067_22 : decode cJ2_getChar_3b067 22 = .ok (.ldc 54, 2) := db4_85.2.2.2.2.2.2.2.2.2.2.1
theorem dJ2_getChar_3b067_24 : decode cJ2_getChar_3b067 24 = .ok (.invokespecial 56, 3) := db4_85.2.2.2.2.2.2.2.2.2.2.2.1
theorem dJ2_getChar_3b067_27 : decode cJ2_getChar_3b067 27 = .ok (.athrow, 1) := db4_85.2.2.2.2.2.2.2.2.2.2.2.2.1
theorem dJ2_getChar_3b067_28 : decode cJ2_getChar_3b067 28 = .ok (.iload_n 1, 1) := db4_85.2.2.2.2.2.2.2.2.2.2.2.2.2.1
theorem dJ2_getChar_3b067_29 : decode cJ2_getChar_3b067 29 = .ok (.iconst 1, 1) := db4_85.2.2.2.2.2.2.2.2.2.2.2.2.2.2.1
theorem dJ2_getChar_3b067_30 : decode cJ2_getChar_3b067 30 = .ok (.ishl, 1) := db4_85.2.2.2.2.2.2.2.2.2.2.2.2.2.2.2
theorem db4_86 : (decode cJ2_getChar_3b067 31 = .ok (.istore_n 1, 1)) ∧ (decode cJ2_getChar_3b067 32 = .ok (.aload_n 0, 1)) ∧ (decode cJ2_getChar_3b067 33 = .ok (.iload_n 1, 1)) ∧ (decode cJ2_getChar_3b067 34 = .ok (.iinc 1 1, 3)) ∧ (decode cJ2_getChar_3b067 37 = .ok (.baload, 1)) ∧ (decode cJ2_getChar_3b067 38 = .ok (.sipush 255, 3)) ∧ (decode cJ2_getChar_3b067 41 = .ok (.iand, 1)) ∧ (decode cJ2_getChar_3b067 42 = .ok (.getstatic 59, 3)) ∧ (decode cJ2_getChar_3b067 45 = .ok (.ishl, 1)) ∧ (decode cJ2_getChar_3b067 46 = .ok (.aload_n 0, 1)) ∧ (decode cJ2_getChar_3b067 47 = .ok (.iload_n 1, 1)) ∧ (decode cJ2_getChar_3b067 48 = .ok (.baload, 1)) ∧ (decode cJ2_getChar_3b067 49 = .ok (.sipush 255, 3)) ∧ (decode cJ2_getChar_3b067 52 = .ok (.iand, 1)) ∧ (decode cJ2_getChar_3b067 53 = .ok (.getstatic 63, 3)) ∧ (decode cJ2_getChar_3b067 56 = .ok (.ishl, 1)) := by decide +kernel
theorem dJ2_getChar_3b067_31 : decode cJ2_getChar_3b067 31 = .ok (.istore_n 1, 1) := db4_86.1
theorem dJ2_getChar_3b067_32 : decode cJ2_getChar_3b067 32 = .ok (.aload_n 0, 1) := db4_86.2.1
theorem dJ2_getChar_3b067_33 : decode cJ2_getChar_3b067 33 = .ok (.iload_n 1, 1) := db4_86.2.2.1
theorem dJ2_getChar_3b067_34 : decode cJ2_getChar_3b067 34 = .ok (.iinc 1 1, 3) := db4_86.2.2.2.1
theorem dJ2_getChar_3b067_37 : decode cJ2_getChar_3b067 37 = .ok (.baload, 1) := db4_86.2.2.2.2.1
theorem dJ2_getChar_3b067_38 : decode cJ2_getChar_3b067 38 = .ok (.sipush 255, 3) := db4_86.2.2.2.2.2.1
theorem dJ2_getChar_3b067_41 : decode cJ2_getChar_3b067 41 = .ok (.iand, 1) := db4_86.2.2.2.2.2.2.1
theorem dJ2_getChar_3b067_42 : decode cJ2_getChar_3b067 42 = .ok (.getstatic 59, 3) := db4_86.2.2.2.2.2.2.2.1
theorem dJ2_getChar_3b067_45 : decode cJ2_getChar_3b067 45 = .ok (.ishl, 1) := db4_86.2.2.2.2.2.2.2.2.1
theorem dJ2_getChar_3b067_46 : decode cJ2_getChar_3b067 46 = .ok (.aload_n 0, 1) := db4_86.2.2.2.2.2.2.2.2.2.1
theorem dJ2_getChar_3b067_47 : decode cJ2_getChar_3b067 47 = .ok (.iload_n 1, 1) := db4_86.2.2.2.2.2.2.2.2.2.2.1
theorem dJ2_getChar_3b067_48 : decode cJ2_getChar_3b067 48 = .ok (.baload, 1) := db4_86.2.2.2.2.2.2.2.2.2.2.2.1
theorem dJ2_getChar_3b067_49 : decode cJ2_getChar_3b067 49 = .ok (.sipush 255, 3) := db4_86.2.2.2.2.2.2.2.2.2.2.2.2.1
theorem dJ2_getChar_3b067_52 : decode cJ2_getChar_3b067 52 = .ok (.iand, 1) := db4_86.2.2.2.2.2.2.2.2.2.2.2.2.2.1
theorem dJ2_getChar_3b067_53 : decode cJ2_getChar_3b067 53 = .ok (.getstatic 63, 3) := db4_86.2.2.2.2.2.2.2.2.2.2.2.2.2.2.1
theorem dJ2_getChar_3b067_56 : decode cJ2_getChar_3b067 56 = .ok (.ishl, 1) := db4_86.2.2.2.2.2.2.2.2.2.2.2.2.2.2.2
theorem db4_87 : (decode cJ2_getChar_3b067 57 = .ok (.ior, 1)) ∧ (decode cJ2_getChar_3b067 58 = .ok (.i2c, 1)) ∧ (decode cJ2_getChar_3b067 59 = .ok (.ireturn, 1)) := by decide +kernel
theorem dJ2_getChar_3b067_57 : decode cJ2_getChar_3b067 57 = .ok (.ior, 1) := db4_87.1
theorem dJ2_getChar_3b067_58 : decode cJ2_getChar_3b067 58 = .ok (.i2c, 1) := db4_87.2.1
theorem dJ2_getChar_3b067_59 : decode cJ2_getChar_3b067 59 = .ok (.ireturn, 1) := db4_87.2.2
theorem db4_88 : (decode cJ2_length_9d52b 0 = .ok (.aload_n 0, 1)) ∧ (decode cJ2_length_9d52b 1 = .ok (.arraylength, 1)) ∧ (decode cJ2_length_9d52b 2 = .ok (.iconst 1, 1)) ∧ (decode cJ2_length_9d52b 3 = .ok (.ishr, 1)) ∧ (decode cJ2_length_9d52b 4 = .ok (.ireturn, 1)) := by decide +kernel
theorem dJ2_length_9d52b_0 : decode cJ2_length_9d52b 0 = .ok (.aload_n 0, 1) := db4_88.1
theorem dJ2_length_9d52b_1 : decode cJ2_length_9d52b 1 = .ok (.arraylength, 1) := db4_88.2.1
theorem dJ2_length_9d52b_2 : decode cJ2_length_9d52b 2 = .ok (.iconst 1, 1) := db4_88.2.2.1
theorem dJ2_length_9d52b_3 : decode cJ2_length_9d52b 3 = .ok (.ishr, 1) := db4_88.2.2.2.1
theorem dJ2_length_9d52b_4 : decode cJ2_length_9d52b 4 = .ok (.ireturn, 1) := db4_88.2.2.2.2
theorem db4_89 : (decode cJ2_coderFromArrayLen_85cad 0 = .ok (.iload_n 1, 1)) ∧ (decode cJ2_coderFromArrayLen_85cad 1 = .ok (.aload_n 0, 1)) ∧ (decode cJ2_coderFromArrayLen_85cad 2 = .ok (.arraylength, 1)) ∧ (decode cJ2_coderFromArrayLen_85cad 3 = .ok (.isub, 1)) ∧ (decode cJ2_coderFromArrayLen_85cad 4 = .ok (.bipush 31, 2)) ∧ (decode cJ2_coderFromArrayLen_85cad 6 = .ok (.iushr, 1)) ∧ (decode cJ2_coderFromArrayLen_85cad 7 = .ok (.i2b, 1)) ∧ (decode cJ2_coderFromArrayLen_85cad 8 = .ok (.ireturn, 1)) := by decide +kernel
theorem dJ2_coderFromArrayLen_85cad_0 : decode cJ2_coderFromArrayLen_85cad 0 = .ok (.iload_n 1, 1) := db4_89.1
theorem dJ2_coderFromArrayLen_85cad_1 : decode cJ2_coderFromArrayLen_85cad 1 = .ok (.aload_n 0, 1) := db4_89.2.1
theorem dJ2_coderFromArrayLen_85cad_2 : decode cJ2_coderFromArrayLen_85cad 2 = .ok (.arraylength, 1) := db4_89.2.2.1
theorem dJ2_coderFromArrayLen_85cad_3 : decode cJ2_coderFromArrayLen_85cad 3 = .ok (.isub, 1) := db4_89.2.2.2.1
theorem dJ2_coderFromArrayLen_85cad_4 : decode cJ2_coderFromArrayLen_85cad 4 = .ok (.bipush 31, 2) := db4_89.2.2.2.2.1
theorem dJ2_coderFromArrayLen_85cad_6 : decode cJ2_coderFromArrayLen_85cad 6 = .ok (.iushr, 1) := db4_89.2.2.2.2.2.1
theorem dJ2_coderFromArrayLen_85cad_7 : decode cJ2_coderFromArrayLen_85cad 7 = .ok (.i2b, 1) := db4_89.2.2.2.2.2.2.1
theorem dJ2_coderFromArrayLen_85cad_8 : decode cJ2_coderFromArrayLen_85cad 8 = .ok (.ireturn, 1) := db4_89.2.2.2.2.2.2.2
theorem db4_90 : (decode cJ2_compress_39247 0 = .ok (.iload_n 2, 1)) ∧ (decode cJ2_compress_39247 1 = .ok (.newarray .byte, 2)) ∧ (decode cJ2_compress_39247 3 = .ok (.astore_n 3, 1)) ∧ (decode cJ2_compress_39247 4 = .ok (.aload_n 0, 1)) ∧ (decode cJ2_compress_39247 5 = .ok (.iload_n 1, 1)) ∧ (decode cJ2_compress_39247 6 = .ok (.aload_n 3, 1)) ∧ (decode cJ2_compress_39247 7 = .ok (.iconst 0, 1)) ∧ (decode cJ2_compress_39247 8 = .ok (.iload_n 2, 1)) ∧ (decode cJ2_compress_39247 9 = .ok (.invokestatic 123, 3)) ∧ (decode cJ2_compress_39247 12 = .ok (.istore 4, 2)) ∧ (decode cJ2_compress_39247 14 = .ok (.iload 4, 2)) ∧ (decode cJ2_compress_39247 16 = .ok (.iload_n 2, 1)) ∧ (decode cJ2_compress_39247 17 = .ok (.if_icmp .eq 47, 3)) ∧ (decode cJ2_compress_39247 20 = .ok (.aload_n 0, 1)) ∧ (decode cJ2_compress_39247 21 = .ok (.iload_n 1, 1)) ∧ (decode cJ2_compress_39247 22 = .ok (.iconst 1, 1)) := by decide +kernel
theorem dJ2_compress_39247_0 : decode cJ2_compress_39247 0 = .ok (.iload_n 2, 1) := db4_90.1
theorem dJ2_compress_39247_1 : decode cJ2_compress_39247 1 = .ok (.newarray .byte, 2) := db4_90.2.1
theorem dJ2_compress_39247_3 : decode cJ2_compress_39247 3 = .ok (.astore_n 3, 1) := db4_90.2.2.1
theorem dJ2_compress_39247_4 : decode cJ2_compress_39247 4 = .ok (.aload_n 0, 1) := db4_90.2.2.2.1
theorem dJ2_compress_39247_5 : decode cJ2_compress_39247 5 = .ok (.iload_n 1, 1) := db4_90.2.2.2.2.1
theorem dJ2_compress_39247_6 : decode cJ2_compress_39247 6 = .ok (.aload_n 3, 1) := db4_90.2.2.2.2.2.1
theorem dJ2_compress_39247_7 : decode cJ2_compress_39247 7 = .ok (.iconst 0, 1) := db4_90.2.2.2.2.2.2.1
theorem dJ2_compress_39247_8 : decode cJ2_compress_39247 8 = .ok (.iload_n 2, 1) := db4_90.2.2.2.2.2.2.2.1
theorem dJ2_compress_39247_9 : decode cJ2_compress_39247 9 = .ok (.invokestatic 123, 3) := db4_90.2.2.2.2.2.2.2.2.1
theorem dJ2_compress_39247_12 : decode cJ2_compress_39247 12 = .ok (.istore 4, 2) := db4_90.2.2.2.2.2.2.2.2.2.1
theorem dJ2_compress_39247_14 : decode cJ2_compress_39247 14 = .ok (.iload 4, 2) := db4_90.2.2.2.2.2.2.2.2.2.2.1
theorem dJ2_compress_39247_16 : decode cJ2_compress_39247 16 = .ok (.iload_n 2, 1) := db4_90.2.2.2.2.2.2.2.2.2.2.2.1
theorem dJ2_compress_39247_17 : decode cJ2_compress_39247 17 = .ok (.if_icmp .eq 47, 3) := db4_90.2.2.2.2.2.2.2.2.2.2.2.2.1
theorem dJ2_compress_39247_20 : decode cJ2_compress_39247 20 = .ok (.aload_n 0, 1) := db4_90.2.2.2.2.2.2.2.2.2.2.2.2.2.1
theorem dJ2_compress_39247_21 : decode cJ2_compress_39247 21 = .ok (.iload_n 1, 1) := db4_90.2.2.2.2.2.2.2.2.2.2.2.2.2.2.1
theorem dJ2_compress_39247_22 : decode cJ2_compress_39247 22 = .ok (.iconst 1, 1) := db4_90.2.2.2.2.2.2.2.2.2.2.2.2.2.2.2
theorem db4_91 : (decode cJ2_compress_39247 23 = .ok (.ishl, 1)) ∧ (decode cJ2_compress_39247 24 = .ok (.iload_n 1, 1)) ∧ (decode cJ2_compress_39247 25 = .ok (.iload_n 2, 1)) ∧ (decode cJ2_compress_39247 26 = .ok (.iadd, 1)) ∧ (decode cJ2_compress_39247 27 = .ok (.invokestatic 11, 3)) ∧ (decode cJ2_compress_39247 30 = .ok (.invokestatic 126, 3)) ∧ (decode cJ2_compress_39247 33 = .ok (.astore 5, 2)) ∧ (decode cJ2_compress_39247 35 = .ok (.aload 5, 2)) ∧ (decode cJ2_compress_39247 37 = .ok (.iload 4, 2)) ∧ (decode cJ2_compress_39247 39 = .ok (.invokestatic 71, 3)) ∧ (decode cJ2_compress_39247 42 = .ok (.sipush 255, 3)) ∧ (decode cJ2_compress_39247 45 = .ok (.if_icmp .gt 16, 3)) ∧ (decode cJ2_compress_39247 48 = .ok (.aload 5, 2)) ∧ (decode cJ2_compress_39247 50 = .ok (.iconst 0, 1)) ∧ (decode cJ2_compress_39247 51 = .ok (.aload_n 3, 1)) ∧ (decode cJ2_compress_39247 52 = .ok (.iconst 0, 1)) := by decide +kernel
theorem dJ2_compress_39247_23 : decode cJ2_compress_39247 23 = .ok (.ishl, 1) := db4_91.1
theorem dJ2_compress_39247_24 : decode cJ2_compress_39247 24 = .ok (.iload_n 1, 1) := db4_91.2.1
theorem dJ2_compress_39247_25 : decode cJ2_compress_39247 25 = .ok (.iload_n 2, 1) := db4_91.2.2.1
theorem dJ2_compress_39247_26 : decode cJ2_compress_39247 26 = .ok (.iadd, 1) := db4_91.2.2.2.1
theorem dJ2_compress_39247_27 : decode cJ2_compress_39247 27 = .ok (.invokestatic 11, 3) := db4_91.2.2.2.2.1
theorem dJ2_compress_39247_30 : decode cJ2_compress_39247 30 = .ok (.invokestatic 126, 3) := db4_91.2.2.2.2.2.1
theorem dJ2_compress_39247_33 : decode cJ2_compress_39247 33 = .ok (.astore 5, 2) := db4_91.2.2.2.2.2.2.1
theorem dJ2_compress_39247_35 : decode cJ2_compress_39247 35 = .ok (.aload 5, 2) := db4_91.2.2.2.2.2.2.2.1
theorem dJ2_compress_39247_37 : decode cJ2_compress_39247 37 = .ok (.iload 4, 2) := db4_91.2.2.2.2.2.2.2.2.1
theorem dJ2_compress_39247_39 : decode cJ2_compress_39247 39 = .ok (.invokestatic 71, 3) := db4_91.2.2.2.2.2.2.2.2.2.1
theorem dJ2_compress_39247_42 : decode cJ2_compress_39247 42 = .ok (.sipush 255, 3) := db4_91.2.2.2.2.2.2.2.2.2.2.1
theorem dJ2_compress_39247_45 : decode cJ2_compress_39247 45 = .ok (.if_icmp .gt 16, 3) := db4_91.2.2.2.2.2.2.2.2.2.2.2.1
theorem dJ2_compress_39247_48 : decode cJ2_compress_39247 48 = .ok (.aload 5, 2) := db4_91.2.2.2.2.2.2.2.2.2.2.2.2.1
theorem dJ2_compress_39247_50 : decode cJ2_compress_39247 50 = .ok (.iconst 0, 1) := db4_91.2.2.2.2.2.2.2.2.2.2.2.2.2.1
theorem dJ2_compress_39247_51 : decode cJ2_compress_39247 51 = .ok (.aload_n 3, 1) := db4_91.2.2.2.2.2.2.2.2.2.2.2.2.2.2.1
theorem dJ2_compress_39247_52 : decode cJ2_compress_39247 52 = .ok (.iconst 0, 1) := db4_91.2.2.2.2.2.2.2.2.2.2.2.2.2.2.2
theorem db4_92 : (decode cJ2_compress_39247 53 = .ok (.iload_n 2, 1)) ∧ (decode cJ2_compress_39247 54 = .ok (.invokestatic 123, 3)) ∧ (decode cJ2_compress_39247 57 = .ok (.iload_n 2, 1)) ∧ (decode cJ2_compress_39247 58 = .ok (.if_icmp .eq 6, 3)) ∧ (decode cJ2_compress_39247 61 = .ok (.aload 5, 2)) ∧ (decode cJ2_compress_39247 63 = .ok (.areturn, 1)) ∧ (decode cJ2_compress_39247 64 = .ok (.aload_n 3, 1)) ∧ (decode cJ2_compress_39247 65 = .ok (.areturn, 1)) := by decide +kernel
theorem dJ2_compress_39247_53 : decode cJ2_compress_39247 53 = .ok (.iload_n 2, 1) := db4_92.1
theorem dJ2_compress_39247_54 : decode cJ2_compress_39247 54 = .ok (.invokestatic 123, 3) := db4_92.2.1
theorem dJ2_compress_39247_57 : decode cJ2_compress_39247 57 = .ok (.iload_n 2, 1) := db4_92.2.2.1
theorem dJ2_compress_39247_58 : decode cJ2_compress_39247 58 = .ok (.if_icmp .eq 6, 3) := db4_92.2.2.2.1
theorem dJ2_compress_39247_61 : decode cJ2_compress_39247 61 = .ok (.aload 5, 2) := db4_92.2.2.2.2.1
theorem dJ2_compress_39247_63 : decode cJ2_compress_39247 63 = .ok (.areturn, 1) := db4_92.2.2.2.2.2.1
theorem dJ2_compress_39247_64 : decode cJ2_compress_39247 64 = .ok (.aload_n 3, 1) := db4_92.2.2.2.2.2.2.1
theorem dJ2_compress_39247_65 : decode cJ2_compress_39247 65 = .ok (.areturn, 1) := db4_92.2.2.2.2.2.2.2
theorem db4_93 : (decode cJ2_compress_5af95 0 = .ok (.iload_n 1, 1)) ∧ (decode cJ2_compress_5af95 1 = .ok (.iload 4, 2)) ∧ (decode cJ2_compress_5af95 3 = .ok (.aload_n 0, 1)) ∧ (decode cJ2_compress_5af95 4 = .ok (.invokestatic 173, 3)) ∧ (decode cJ2_compress_5af95 7 = .ok (.iconst 0, 1)) ∧ (decode cJ2_compress_5af95 8 = .ok (.istore 5, 2)) ∧ (decode cJ2_compress_5af95 10 = .ok (.iload 5, 2)) ∧ (decode cJ2_compress_5af95 12 = .ok (.iload 4, 2)) ∧ (decode cJ2_compress_5af95 14 = .ok (.if_icmp .ge 39, 3)) ∧ (decode cJ2_compress_5af95 17 = .ok (.aload_n 0, 1)) ∧ (decode cJ2_compress_5af95 18 = .ok (.iload_n 1, 1)) ∧ (decode cJ2_compress_5af95 19 = .ok (.invokestatic 71, 3)) ∧ (decode cJ2_compress_5af95 22 = .ok (.istore 6, 2)) ∧ (decode cJ2_compress_5af95 24 = .ok (.iload 6, 2)) ∧ (decode cJ2_compress_5af95 26 = .ok (.sipush 255, 3)) ∧ (decode cJ2_compress_5af95 29 = .ok (.if_icmp .le 6, 3)) := by decide +kernel
theorem dJ2_compress_5af95_0 : decode cJ2_compress_5af95 0 = .ok (.iload_n 1, 1) := db4_93.1
theorem dJ2_compress_5af95_1 : decode cJ2_compress_5af95 1 = .ok (.iload 4, 2) := db4_93.2.1
theorem dJ2_compress_5af95_3 : decode cJ2_compress_5af95 3 = .ok (.aload_n 0, 1) := db4_93.2.2.1
theorem dJ2_compress_5af95_4 : decode cJ2_compress_5af95 4 = .ok (.invokestatic 173, 3) := db4_93.2.2.2.1
theorem dJ2_compress_5af95_7 : decode cJ2_compress_5af95 7 = .ok (.iconst 0, 1) := db4_93.2.2.2.2.1
theorem dJ2_compress_5af95_8 : decode cJ2_compress_5af95 8 = .ok (.istore 5, 2) := db4_93.2.2.2.2.2.1
theorem dJ2_compress_5af95_10 : decode cJ2_compress_5af95 10 = .ok (.iload 5, 2) := db4_93.2.2.2.2.2.2.1
theorem dJ2_compress_5af95_12 : decode cJ2_compress_5af95 12 = .ok (.iload 4, 2) := db4_93.2.2.2.2.2.2.2.1
theorem dJ2_compress_5af95_14 : decode cJ2_compress_5af95 14 = .ok (.if_icmp .ge 39, 3) := db4_93.2.2.2.2.2.2.2.2.1
theorem dJ2_compress_5af95_17 : decode cJ2_compress_5af95 17 = .ok (.aload_n 0, 1) := db4_93.2.2.2.2.2.2.2.2.2.1
theorem dJ2_compress_5af95_18 : decode cJ2_compress_5af95 18 = .ok (.iload_n 1, 1) := db4_93.2.2.2.2.2.2.2.2.2.2.1
theorem dJ2_compress_5af95_19 : decode cJ2_compress_5af95 19 = .ok (.invokestatic 71, 3) := db4_93.2.2.2.2.2.2.2.2.2.2.2.1
theorem dJ2_compress_5af95_22 : decode cJ2_compress_5af95 22 = .ok (.istore 6, 2) := db4_93.2.2.2.2.2.2.2.2.2.2.2.2.1
theorem dJ2_compress_5af95_24 : decode cJ2_compress_5af95 24 = .ok (.iload 6, 2) := db4_93.2.2.2.2.2.2.2.2.2.2.2.2.2.1
theorem dJ2_compress_5af95_26 : decode cJ2_compress_5af95 26 = .ok (.sipush 255, 3) := db4_93.2.2.2.2.2.2.2.2.2.2.2.2.2.2.1
theorem dJ2_compress_5af95_29 : decode cJ2_compress_5af95 29 = .ok (.if_icmp .le 6, 3) := db4_93.2.2.2.2.2.2.2.2.2.2.2.2.2.2.2
theorem db4_94 : (decode cJ2_compress_5af95 32 = .ok (.iload 5, 2)) ∧ (decode cJ2_compress_5af95 34 = .ok (.ireturn, 1)) ∧ (decode cJ2_compress_5af95 35 = .ok (.aload_n 2, 1)) ∧ (decode cJ2_compress_5af95 36 = .ok (.iload_n 3, 1)) ∧ (decode cJ2_compress_5af95 37 = .ok (.iload 6, 2)) ∧ (decode cJ2_compress_5af95 39 = .ok (.i2b, 1)) ∧ (decode cJ2_compress_5af95 40 = .ok (.bastore, 1)) ∧ (decode cJ2_compress_5af95 41 = .ok (.iinc 1 1, 3)) ∧ (decode cJ2_compress_5af95 44 = .ok (.iinc 3 1, 3)) ∧ (decode cJ2_compress_5af95 47 = .ok (.iinc 5 1, 3)) ∧ (decode cJ2_compress_5af95 50 = .ok (.goto (-40), 3)) ∧ (decode cJ2_compress_5af95 53 = .ok (.iload 4, 2)) ∧ (decode cJ2_compress_5af95 55 = .ok (.ireturn, 1)) := by decide +kernel
theorem dJ2_compress_5af95_32 : decode cJ2_compress_5af95 32 = .ok (.iload 5, 2) := db4_94.1
theorem dJ2_compress_5af95_34 : decode cJ2_compress_5af95 34 = .ok (.ireturn, 1) := db4_94.2.1
theorem dJ2_compress_5af95_35 : decode cJ2_compress_5af95 35 = .ok (.aload_n 2, 1) := db4_94.2.2.1
theorem dJ2_compress_5af95_36 : decode cJ2_compress_5af95 36 = .ok (.iload_n 3, 1) := db4_94.2.2.2.1
theorem dJ2_compress_5af95_37 : decode cJ2_compress_5af95 37 = .ok (.iload 6, 2) := db4_94.2.2.2.2.1
theorem dJ2_compress_5af95_39 : decode cJ2_compress_5af95 39 = .ok (.i2b, 1) := db4_94.2.2.2.2.2.1
theorem dJ2_compress_5af95_40 : decode cJ2_compress_5af95 40 = .ok (.bastore, 1) := db4_94.2.2.2.2.2.2.1
theorem dJ2_compress_5af95_41 : decode cJ2_compress_5af95 41 = .ok (.iinc 1 1, 3) := db4_94.2.2.2.2.2.2.2.1
theorem dJ2_compress_5af95_44 : decode cJ2_compress_5af95 44 = .ok (.iinc 3 1, 3) := db4_94.2.2.2.2.2.2.2.2.1
theorem dJ2_compress_5af95_47 : decode cJ2_compress_5af95 47 = .ok (.iinc 5 1, 3) := db4_94.2.2.2.2.2.2.2.2.2.1
theorem dJ2_compress_5af95_50 : decode cJ2_compress_5af95 50 = .ok (.goto (-40), 3) := db4_94.2.2.2.2.2.2.2.2.2.2.1
theorem dJ2_compress_5af95_53 : decode cJ2_compress_5af95 53 = .ok (.iload 4, 2) := db4_94.2.2.2.2.2.2.2.2.2.2.2.1
theorem dJ2_compress_5af95_55 : decode cJ2_compress_5af95 55 = .ok (.ireturn, 1) := db4_94.2.2.2.2.2.2.2.2.2.2.2.2
theorem db4_95 : (decode cJ2_fillNull_b72d1 0 = .ok (.aload_n 0, 1)) ∧ (decode cJ2_fillNull_b72d1 1 = .ok (.iload_n 1, 1)) ∧ (decode cJ2_fillNull_b72d1 2 = .ok (.iconst 1, 1)) ∧ (decode cJ2_fillNull_b72d1 3 = .ok (.ishl, 1)) ∧ (decode cJ2_fillNull_b72d1 4 = .ok (.iload_n 2, 1)) ∧ (decode cJ2_fillNull_b72d1 5 = .ok (.iconst 1, 1)) ∧ (decode cJ2_fillNull_b72d1 6 = .ok (.ishl, 1)) ∧ (decode cJ2_fillNull_b72d1 7 = .ok (.iconst 0, 1)) ∧ (decode cJ2_fillNull_b72d1 8 = .ok (.invokestatic 380, 3)) ∧ (decode cJ2_fillNull_b72d1 11 = .ok (.return_, 1)) := by decide +kernel
theorem dJ2_fillNull_b72d1_0 : decode cJ2_fillNull_b72d1 0 = .ok (.aload_n 0, 1) := db4_95.1
theorem dJ2_fillNull_b72d1_1 : decode cJ2_fillNull_b72d1 1 = .ok (.iload_n 1, 1) := db4_95.2.1
theorem dJ2_fillNull_b72d1_2 : decode cJ2_fillNull_b72d1 2 = .ok (.iconst 1, 1) := db4_95.2.2.1
theorem dJ2_fillNull_b72d1_3 : decode cJ2_fillNull_b72d1 3 = .ok (.ishl, 1) := db4_95.2.2.2.1
theorem dJ2_fillNull_b72d1_4 : decode cJ2_fillNull_b72d1 4 = .ok (.iload_n 2, 1) := db4_95.2.2.2.2.1
theorem dJ2_fillNull_b72d1_5 : decode cJ2_fillNull_b72d1 5 = .ok (.iconst 1, 1) := db4_95.2.2.2.2.2.1
theorem dJ2_fillNull_b72d1_6 : decode cJ2_fillNull_b72d1 6 = .ok (.ishl, 1) := db4_95.2.2.2.2.2.2.1
theorem dJ2_fillNull_b72d1_7 : decode cJ2_fillNull_b72d1 7 = .ok (.iconst 0, 1) := db4_95.2.2.2.2.2.2.2.1
theorem dJ2_fillNull_b72d1_8 : decode cJ2_fillNull_b72d1 8 = .ok (.invokestatic 380, 3) := db4_95.2.2.2.2.2.2.2.2.1
theorem dJ2_fillNull_b72d1_11 : decode cJ2_fillNull_b72d1 11 = .ok (.return_, 1) := db4_95.2.2.2.2.2.2.2.2.2
theorem db4_96 : (decode cJ2_putCharSB_b72d1 0 = .ok (.iload_n 1, 1)) ∧ (decode cJ2_putCharSB_b72d1 1 = .ok (.aload_n 0, 1)) ∧ (decode cJ2_putCharSB_b72d1 2 = .ok (.invokestatic 67, 3)) ∧ (decode cJ2_putCharSB_b72d1 5 = .ok (.aload_n 0, 1)) ∧ (decode cJ2_putCharSB_b72d1 6 = .ok (.iload_n 1, 1)) ∧ (decode cJ2_putCharSB_b72d1 7 = .ok (.iload_n 2, 1)) ∧ (decode cJ2_putCharSB_b72d1 8 = .ok (.invokestatic 111, 3)) ∧ (decode cJ2_putCharSB_b72d1 11 = .ok (.return_, 1)) := by decide +kernel
theorem dJ2_putCharSB_b72d1_0 : decode cJ2_putCharSB_b72d1 0 = .ok (.iload_n 1, 1) := db4_96.1
theorem dJ2_putCharSB_b72d1_1 : decode cJ2_putCharSB_b72d1 1 = .ok (.aload_n 0, 1) := db4_96.2.1
theorem dJ2_putCharSB_b72d1_2 : decode cJ2_putCharSB_b72d1 2 = .ok (.invokestatic 67, 3) := db4_96.2.2.1
theorem dJ2_putCharSB_b72d1_5 : decode cJ2_putCharSB_b72d1 5 = .ok (.aload_n 0, 1) := db4_96.2.2.2.1
theorem dJ2_putCharSB_b72d1_6 : decode cJ2_putCharSB_b72d1 6 = .ok (.iload_n 1, 1) := db4_96.2.2.2.2.1
theorem dJ2_putCharSB_b72d1_7 : decode cJ2_putCharSB_b72d1 7 = .ok (.iload_n 2, 1) := db4_96.2.2.2.2.2.1
theorem dJ2_putCharSB_b72d1_8 : decode cJ2_putCharSB_b72d1 8 = .ok (.invokestatic 111, 3) := db4_96.2.2.2.2.2.2.1
theorem dJ2_putCharSB_b72d1_11 : decode cJ2_putCharSB_b72d1 11 = .ok (.return_, 1) := db4_96.2.2.2.2.2.2.2
theorem db4_97 : (decode cJ2_getChars_46870 0 = .ok (.iload_n 1, 1)) ∧ (decode cJ2_getChars_46870 1 = .ok (.iload_n 2, 1)) ∧ (decode cJ2_getChars_46870 2 = .ok (.aload_n 3, 1)) ∧ (decode cJ2_getChars_46870 3 = .ok (.invokestatic 96, 3)) ∧ (decode cJ2_getChars_46870 6 = .ok (.iload_n 0, 1)) ∧ (decode cJ2_getChars_46870 7 = .ok (.iload_n 2, 1)) ∧ (decode cJ2_getChars_46870 8 = .ok (.aload_n 3, 1)) ∧ (decode cJ2_getChars_46870 9 = .ok (.invokestatic 393, 3)) ∧ (decode cJ2_getChars_46870 12 = .ok (.istore 4, 2)) ∧ (decode cJ2_getChars_46870 14 = .ok (.getstatic 44, 3)) ∧ (decode cJ2_getChars_46870 17 = .ok (.ifCond .ne 17, 3)) ∧ (decode cJ2_getChars_46870 20 = .ok (.iload_n 1, 1)) ∧ (decode cJ2_getChars_46870 21 = .ok (.iload 4, 2)) ∧ (decode cJ2_getChars_46870 23 = .ok (.if_icmp .eq 11, 3)) ∧ (decode cJ2_getChars_46870 26 = .ok (.new 52, 3)) ∧ (decode cJ2_getChars_46870 29 = .ok (.dup, 1)) := by decide +kernel
theorem dJ2_getChars_46870_0 : decode cJ2_getChars_46870 0 = .ok (.iload_n 1, 1) := db4_97.1
theorem dJ2_getChars_46870_1 : decode cJ2_getChars_46870 1 = .ok (.iload_n 2, 1) := db4_97.2.1
theorem dJ2_getChars_46870_2 : decode cJ2_getChars_46870 2 = .ok (.aload_n 3, 1) := db4_97.2.2.1
theorem dJ2_getChars_46870_3 : decode cJ2_getChars_46870 3 = .ok (.invokestatic 96, 3) := db4_97.2.2.2.1
theorem dJ2_getChars_46870_6 : decode cJ2_getChars_46870 6 = .ok (.iload_n 0, 1) := db4_97.2.2.2.2.1
theorem dJ2_getChars_46870_7 : decode cJ2_getChars_46870 7 = .ok (.iload_n 2, 1) := db4_97.2.2.2.2.2.1
theorem dJ2_getChars_46870_8 : decode cJ2_getChars_46870 8 = .ok (.aload_n 3, 1) := db4_97.2.2.2.2.2.2.1
theorem dJ2_getChars_46870_9 : decode cJ2_getChars_46870 9 = .ok (.invokestatic 393, 3) := db4_97.2.2.2.2.2.2.2.1
theorem dJ2_getChars_46870_12 : decode cJ2_getChars_46870 12 = .ok (.istore 4, 2) := db4_97.2.2.2.2.2.2.2.2.1
theorem dJ2_getChars_46870_14 : decode cJ2_getChars_46870 14 = .ok (.getstatic 44, 3) := db4_97.2.2.2.2.2.2.2.2.2.1
theorem dJ2_getChars_46870_17 : decode cJ2_getChars_46870 17 = .ok (.ifCond .ne 17, 3) := db4_97.2.2.2.2.2.2.2.2.2.2.1
theorem dJ2_getChars_46870_20 : decode cJ2_getChars_46870 20 = .ok (.iload_n 1, 1) := db4_97.2.2.2.2.2.2.2.2.2.2.2.1
theorem dJ2_getChars_46870_21 : decode cJ2_getChars_46870 21 = .ok (.iload 4, 2) := db4_97.2.2.2.2.2.2.2.2.2.2.2.2.1
theorem dJ2_getChars_46870_23 : decode cJ2_getChars_46870 23 = .ok (.if_icmp .eq 11, 3) := db4_97.2.2.2.2.2.2.2.2.2.2.2.2.2.1
theorem dJ2_getChars_46870_26 : decode cJ2_getChars_46870 26 = .ok (.new 52, 3) := db4_97.2.2.2.2.2.2.2.2.2.2.2.2.2.2.1
theorem dJ2_getChars_46870_29 : decode cJ2_getChars_46870 29 = .ok (.dup, 1) := db4_97.2.2.2.2.2.2.2.2.2.2.2.2.2.2.2
theorem db4_98 : (decode cJ2_getChars_46870 30 = .ok (.invokespecial 66, 3)) ∧ (decode cJ2_getChars_46870 33 = .ok (.athrow, 1)) ∧ (decode cJ2_getChars_46870 34 = .ok (.iload 4, 2)) ∧ (decode cJ2_getChars_46870 36 = .ok (.ireturn, 1)) := by decide +kernel
theorem dJ2_getChars_46870_30 : decode cJ2_getChars_46870 30 = .ok (.invokespecial 66, 3) := db4_98.1
theorem dJ2_getChars_46870_33 : decode cJ2_getChars_46870 33 = .ok (.athrow, 1) := db4_98.2.1
theorem dJ2_getChars_46870_34 : decode cJ2_getChars_46870 34 = .ok (.iload 4, 2) := db4_98.2.2.1
theorem dJ2_getChars_46870_36 : decode cJ2_getChars_46870 36 = .ok (.ireturn, 1) := db4_98.2.2.2
theorem db4_99 : (decode cJ2_putCharsAt_cd4e5 0 = .ok (.iload_n 1, 1)) ∧ (decode cJ2_putCharsAt_cd4e5 1 = .ok (.iconst 4, 1)) ∧ (decode cJ2_putCharsAt_cd4e5 2 = .ok (.iadd, 1)) ∧ (decode cJ2_putCharsAt_cd4e5 3 = .ok (.istore 6, 2)) ∧ (decode cJ2_putCharsAt_cd4e5 5 = .ok (.iload_n 1, 1)) ∧ (decode cJ2_putCharsAt_cd4e5 6 = .ok (.iload 6, 2)) ∧ (decode cJ2_putCharsAt_cd4e5 8 = .ok (.aload_n 0, 1)) ∧ (decode cJ2_putCharsAt_cd4e5 9 = .ok (.invokestatic 96, 3)) ∧ (decode cJ2_putCharsAt_cd4e5 12 = .ok (.aload_n 0, 1)) ∧ (decode cJ2_putCharsAt_cd4e5 13 = .ok (.iload_n 1, 1)) ∧ (decode cJ2_putCharsAt_cd4e5 14 = .ok (.iinc 1 1, 3)) ∧ (decode cJ2_putCharsAt_cd4e5 17 = .ok (.iload_n 2, 1)) ∧ (decode cJ2_putCharsAt_cd4e5 18 = .ok (.invokestatic 111, 3)) ∧ (decode cJ2_putCharsAt_cd4e5 21 = .ok (.aload_n 0, 1)) ∧ (decode cJ2_putCharsAt_cd4e5 22 = .ok (.iload_n 1, 1)) ∧ (decode cJ2_putCharsAt_cd4e5 23 = .ok (.iinc 1 1, 3)) := by decide +kernel
theorem dJ2_putCharsAt_cd4e5_0 : decode cJ2_putCharsAt_cd4e5 0 = .ok (.iload_n 1, 1) := db4_99.1
theorem dJ2_putCharsAt_cd4e5_1 : decode cJ2_putCharsAt_cd4e5 1 = .ok (.iconst 4, 1) := db4_99.2.1
theorem dJ2_putCharsAt_cd4e5_2 : decode cJ2_putCharsAt_cd4e5 2 = .ok (.iadd, 1) := db4_99.2.2.1
theorem dJ2_putCharsAt_cd4e5_3 : decode cJ2_putCharsAt_cd4e5 3 = .ok (.istore 6, 2) := db4_99.2.2.2.1
theorem dJ2_putCharsAt_cd4e5_5 : decode cJ2_putCharsAt_cd4e5 5 = .ok (.iload_n 1, 1) := db4_99.2.2.2.2.1
theorem dJ2_putCharsAt_cd4e5_6 : decode cJ2_putCharsAt_cd4e5 6 = .ok (.iload 6, 2) := db4_99.2.2.2.2.2.1
theorem dJ2_putCharsAt_cd4e5_8 : decode cJ2_putCharsAt_cd4e5 8 = .ok (.aload_n 0, 1) := db4_99.2.2.2.2.2.2.1
theorem dJ2_putCharsAt_cd4e5_9 : decode cJ2_putCharsAt_cd4e5 9 = .ok (.invokestatic 96, 3) := db4_99.2.2.2.2.2.2.2.1
theorem dJ2_putCharsAt_cd4e5_12 : decode cJ2_putCharsAt_cd4e5 12 = .ok (.aload_n 0, 1) := db4_99.2.2.2.2.2.2.2.2.1
theorem dJ2_putCharsAt_cd4e5_13 : decode cJ2_putCharsAt_cd4e5 13 = .ok (.iload_n 1, 1) := db4_99.2.2.2.2.2.2.2.2.2.1
theorem dJ2_putCharsAt_cd4e5_14 : decode cJ2_putCharsAt_cd4e5 14 = .ok (.iinc 1 1, 3) := db4_99.2.2.2.2.2.2.2.2.2.2.1
theorem dJ2_putCharsAt_cd4e5_17 : decode cJ2_putCharsAt_cd4e5 17 = .ok (.iload_n 2, 1) := db4_99.2.2.2.2.2.2.2.2.2.2.2.1
theorem dJ2_putCharsAt_cd4e5_18 : decode cJ2_putCharsAt_cd4e5 18 = .ok (.invokestatic 111, 3) := db4_99.2.2.2.2.2.2.2.2.2.2.2.2.1
theorem dJ2_putCharsAt_cd4e5_21 : decode cJ2_putCharsAt_cd4e5 21 = .ok (.aload_n 0, 1) := db4_99.2.2.2.2.2.2.2.2.2.2.2.2.2.1
theorem dJ2_putCharsAt_cd4e5_22 : decode cJ2_putCharsAt_cd4e5 22 = .ok (.iload_n 1, 1) := db4_99.2.2.2.2.2.2.2.2.2.2.2.2.2.2.1
theorem dJ2_putCharsAt_cd4e5_23 : decode cJ2_putCharsAt_cd4e5 23 = .ok (.iinc 1 1, 3) := db4_99.2.2.2.2.2.2.2.2.2.2.2.2.2.2.2
theorem db4_100 : (decode cJ2_putCharsAt_cd4e5 26 = .ok (.iload_n 3, 1)) ∧ (decode cJ2_putCharsAt_cd4e5 27 = .ok (.invokestatic 111, 3)) ∧ (decode cJ2_putCharsAt_cd4e5 30 = .ok (.aload_n 0, 1)) ∧ (decode cJ2_putCharsAt_cd4e5 31 = .ok (.iload_n 1, 1)) ∧ (decode cJ2_putCharsAt_cd4e5 32 = .ok (.iinc 1 1, 3)) ∧ (decode cJ2_putCharsAt_cd4e5 35 = .ok (.iload 4, 2)) ∧ (decode cJ2_putCharsAt_cd4e5 37 = .ok (.invokestatic 111, 3)) ∧ (decode cJ2_putCharsAt_cd4e5 40 = .ok (.aload_n 0, 1)) ∧ (decode cJ2_putCharsAt_cd4e5 41 = .ok (.iload_n 1, 1)) ∧ (decode cJ2_putCharsAt_cd4e5 42 = .ok (.iinc 1 1, 3)) ∧ (decode cJ2_putCharsAt_cd4e5 45 = .ok (.iload 5, 2)) ∧ (decode cJ2_putCharsAt_cd4e5 47 = .ok (.invokestatic 111, 3)) ∧ (decode cJ2_putCharsAt_cd4e5 50 = .ok (.getstatic 44, 3)) ∧ (decode cJ2_putCharsAt_cd4e5 53 = .ok (.ifCond .ne 17, 3)) ∧ (decode cJ2_putCharsAt_cd4e5 56 = .ok (.iload_n 1, 1)) ∧ (decode cJ2_putCharsAt_cd4e5 57 = .ok (.iload 6, 2)) := by decide +kernel
theorem dJ2_putCharsAt_cd4e5_26 : decode cJ2_putCharsAt_cd4e5 26 = .ok (.iload_n 3, 1) := db4_100.1
theorem dJ2_putCharsAt_cd4e5_27 : decode cJ2_putCharsAt_cd4e5 27 = .ok (.invokestatic 111, 3) := db4_100.2.1
theorem dJ2_putCharsAt_cd4e5_30 : decode cJ2_putCharsAt_cd4e5 30 = .ok (.aload_n 0, 1) := db4_100.2.2.1
theorem dJ2_putCharsAt_cd4e5_31 : decode cJ2_putCharsAt_cd4e5 31 = .ok (.iload_n 1, 1) := db4_100.2.2.2.1
theorem dJ2_putCharsAt_cd4e5_32 : decode cJ2_putCharsAt_cd4e5 32 = .ok (.iinc 1 1, 3) := db4_100.2.2.2.2.1
theorem dJ2_putCharsAt_cd4e5_35 : decode cJ2_putCharsAt_cd4e5 35 = .ok (.iload 4, 2) := db4_100.2.2.2.2.2.1
theorem dJ2_putCharsAt_cd4e5_37 : decode cJ2_putCharsAt_cd4e5 37 = .ok (.invokestatic 111, 3) := db4_100.2.2.2.2.2.2.1
theorem dJ2_putCharsAt_cd4e5_40 : decode cJ2_putCharsAt_cd4e5 40 = .ok (.aload_n 0, 1) := db4_100.2.2.2.2.2.2.2.1
theorem dJ2_putCharsAt_cd4e5_41 : decode cJ2_putCharsAt_cd4e5 41 = .ok (.iload_n 1, 1) := db4_100.2.2.2.2.2.2.2.2.1
theorem dJ2_putCharsAt_cd4e5_42 : decode cJ2_putCharsAt_cd4e5 42 = .ok (.iinc 1 1, 3) := db4_100.2.2.2.2.2.2.2.2.2.1
theorem dJ2_putCharsAt_cd4e5_45 : decode cJ2_putCharsAt_cd4e5 45 = .ok (.iload 5, 2) := db4_100.2.2.2.2.2.2.2.2.2.2.1
theorem dJ2_putCharsAt_cd4e5_47 : decode cJ2_putCharsAt_cd4e5 47 = .ok (.invokestatic 111, 3) := db4_100.2.2.2.2.2.2.2.2.2.2.2.1
theorem dJ2_putCharsAt_cd4e5_50 : decode cJ2_putCharsAt_cd4e5 50 = .ok (.getstatic 44, 3) := db4_100.2.2.2.2.2.2.2.2.2.2.2.2.1
theorem dJ2_putCharsAt_cd4e5_53 : decode cJ2_putCharsAt_cd4e5 53 = .ok (.ifCond .ne 17, 3) := db4_100.2.2.2.2.2.2.2.2.2.2.2.2.2.1
theorem dJ2_putCharsAt_cd4e5_56 : decode cJ2_putCharsAt_cd4e5 56 = .ok (.iload_n 1, 1) := db4_100.2.2.2.2.2.2.2.2.2.2.2.2.2.2.1
theorem dJ2_putCharsAt_cd4e5_57 : decode cJ2_putCharsAt_cd4e5 57 = .ok (.iload 6, 2) := db4_100.2.2.2.2.2.2.2.2.2.2.2.2.2.2.2
theorem db4_101 : (decode cJ2_putCharsAt_cd4e5 59 = .ok (.if_icmp .eq 11, 3)) ∧ (decode cJ2_putCharsAt_cd4e5 62 = .ok (.new 52, 3)) ∧ (decode cJ2_putCharsAt_cd4e5 65 = .ok (.dup, 1)) ∧ (decode cJ2_putCharsAt_cd4e5 66 = .ok (.invokespecial 66, 3)) ∧ (decode cJ2_putCharsAt_cd4e5 69 = .ok (.athrow, 1)) ∧ (decode cJ2_putCharsAt_cd4e5 70 = .ok (.iload 6, 2)) ∧ (decode cJ2_putCharsAt_cd4e5 72 = .ok (.ireturn, 1)) := by decide +kernel
theorem dJ2_putCharsAt_cd4e5_59 : decode cJ2_putCharsAt_cd4e5 59 = .ok (.if_icmp .eq 11, 3) := db4_101.1
theorem dJ2_putCharsAt_cd4e5_62 : decode cJ2_putCharsAt_cd4e5 62 = .ok (.new 52, 3) := db4_101.2.1
theorem dJ2_putCharsAt_cd4e5_65 : decode cJ2_putCharsAt_cd4e5 65 = .ok (.dup, 1) := db4_101.2.2.1
theorem dJ2_putCharsAt_cd4e5_66 : decode cJ2_putCharsAt_cd4e5 66 = .ok (.invokespecial 66, 3) := db4_101.2.2.2.1
theorem dJ2_putCharsAt_cd4e5_69 : decode cJ2_putCharsAt_cd4e5 69 = .ok (.athrow, 1) := db4_101.2.2.2.2.1
theorem dJ2_putCharsAt_cd4e5_70 : decode cJ2_putCharsAt_cd4e5 70 = .ok (.iload 6, 2) := db4_101.2.2.2.2.2.1
theorem dJ2_putCharsAt_cd4e5_72 : decode cJ2_putCharsAt_cd4e5 72 = .ok (.ireturn, 1) := db4_101.2.2.2.2.2.2
theorem db4_102 : (decode cJ2_inflate_0e8fd 0 = .ok (.iload_n 3, 1)) ∧ (decode cJ2_inflate_0e8fd 1 = .ok (.iload 4, 2)) ∧ (decode cJ2_inflate_0e8fd 3 = .ok (.aload_n 2, 1)) ∧ (decode cJ2_inflate_0e8fd 4 = .ok (.invokestatic 173, 3)) ∧ (decode cJ2_inflate_0e8fd 7 = .ok (.iconst 0, 1)) ∧ (decode cJ2_inflate_0e8fd 8 = .ok (.istore 5, 2)) ∧ (decode cJ2_inflate_0e8fd 10 = .ok (.iload 5, 2)) ∧ (decode cJ2_inflate_0e8fd 12 = .ok (.iload 4, 2)) ∧ (decode cJ2_inflate_0e8fd 14 = .ok (.if_icmp .ge 27, 3)) ∧ (decode cJ2_inflate_0e8fd 17 = .ok (.aload_n 2, 1)) ∧ (decode cJ2_inflate_0e8fd 18 = .ok (.iload_n 3, 1)) ∧ (decode cJ2_inflate_0e8fd 19 = .ok (.iinc 3 1, 3)) ∧ (decode cJ2_inflate_0e8fd 22 = .ok (.aload_n 0, 1)) ∧ (decode cJ2_inflate_0e8fd 23 = .ok (.iload_n 1, 1)) ∧ (decode cJ2_inflate_0e8fd 24 = .ok (.iinc 1 1, 3)) ∧ (decode cJ2_inflate_0e8fd 27 = .ok (.baload, 1)) := by decide +kernel
theorem dJ2_inflate_0e8fd_0 : decode cJ2_inflate_0e8fd 0 = .ok (.iload_n 3, 1) := db4_102.1
theorem dJ2_inflate_0e8fd_1 : decode cJ2_inflate_0e8fd 1 = .ok (.iload 4, 2) := db4_102.2.1
theorem dJ2_inflate_0e8fd_3 : decode cJ2_inflate_0e8fd 3 = .ok (.aload_n 2, 1) := db4_102.2.2.1
theorem dJ2_inflate_0e8fd_4 : decode cJ2_inflate_0e8fd 4 = .ok (.invokestatic 173, 3) := db4_102.2.2.2.1
theorem dJ2_inflate_0e8fd_7 : decode cJ2_inflate_0e8fd 7 = .ok (.iconst 0, 1) := db4_102.2.2.2.2.1
theorem dJ2_inflate_0e8fd_8 : decode cJ2_inflate_0e8fd 8 = .ok (.istore 5, 2) := db4_102.2.2.2.2.2.1
theorem dJ2_inflate_0e8fd_10 : decode cJ2_inflate_0e8fd 10 = .ok (.iload 5, 2) := db4_102.2.2.2.2.2.2.1
theorem dJ2_inflate_0e8fd_12 : decode cJ2_inflate_0e8fd 12 = .ok (.iload 4, 2) := db4_102.2.2.2.2.2.2.2.1
theorem dJ2_inflate_0e8fd_14 : decode cJ2_inflate_0e8fd 14 = .ok (.if_icmp .ge 27, 3) := db4_102.2.2.2.2.2.2.2.2.1
theorem dJ2_inflate_0e8fd_17 : decode cJ2_inflate_0e8fd 17 = .ok (.aload_n 2, 1) := db4_102.2.2.2.2.2.2.2.2.2.1
theorem dJ2_inflate_0e8fd_18 : decode cJ2_inflate_0e8fd 18 = .ok (.iload_n 3, 1) := db4_102.2.2.2.2.2.2.2.2.2.2.1
theorem dJ2_inflate_0e8fd_19 : decode cJ2_inflate_0e8fd 19 = .ok (.iinc 3 1, 3) := db4_102.2.2.2.2.2.2.2.2.2.2.2.1
theorem dJ2_inflate_0e8fd_22 : decode cJ2_inflate_0e8fd 22 = .ok (.aload_n 0, 1) := db4_102.2.2.2.2.2.2.2.2.2.2.2.2.1
theorem dJ2_inflate_0e8fd_23 : decode cJ2_inflate_0e8fd 23 = .ok (.iload_n 1, 1) := db4_102.2.2.2.2.2.2.2.2.2.2.2.2.2.1
theorem dJ2_inflate_0e8fd_24 : decode cJ2_inflate_0e8fd 24 = .ok (.iinc 1 1, 3) := db4_102.2.2.2.2.2.2.2.2.2.2.2.2.2.2.1
theorem dJ2_inflate_0e8fd_27 : decode cJ2_inflate_0e8fd 27 = .ok (.baload, 1) := db4_102.2.2.2.2.2.2.2.2.2.2.2.2.2.2.2
theorem db4_103 : (decode cJ2_inflate_0e8fd 28 = .ok (.sipush 255, 3)) ∧ (decode cJ2_inflate_0e8fd 31 = .ok (.iand, 1)) ∧ (decode cJ2_inflate_0e8fd 32 = .ok (.invokestatic 111, 3)) ∧ (decode cJ2_inflate_0e8fd 35 = .ok (.iinc 5 1, 3)) ∧ (decode cJ2_inflate_0e8fd 38 = .ok (.goto (-28), 3)) ∧ (decode cJ2_inflate_0e8fd 41 = .ok (.return_, 1)) := by decide +kernel
theorem dJ2_inflate_0e8fd_28 : decode cJ2_inflate_0e8fd 28 = .ok (.sipush 255, 3) := db4_103.1
theorem dJ2_inflate_0e8fd_31 : decode cJ2_inflate_0e8fd 31 = .ok (.iand, 1) := db4_103.2.1
theorem dJ2_inflate_0e8fd_32 : decode cJ2_inflate_0e8fd 32 = .ok (.invokestatic 111, 3) := db4_103.2.2.1
theorem dJ2_inflate_0e8fd_35 : decode cJ2_inflate_0e8fd 35 = .ok (.iinc 5 1, 3) := db4_103.2.2.2.1
theorem dJ2_inflate_0e8fd_38 : decode cJ2_inflate_0e8fd 38 = .ok (.goto (-28), 3) := db4_103.2.2.2.2.1
theorem dJ2_inflate_0e8fd_41 : decode cJ2_inflate_0e8fd 41 = .ok (.return_, 1) := db4_103.2.2.2.2.2
theorem db4_104 : (decode cJ2_getChars_ba4f3 0 = .ok (.iload_n 1, 1)) ∧ (decode cJ2_getChars_ba4f3 1 = .ok (.istore 5, 2)) ∧ (decode cJ2_getChars_ba4f3 3 = .ok (.iload_n 0, 1)) ∧ (decode cJ2_getChars_ba4f3 4 = .ok (.ifCond .ge 7, 3)) ∧ (decode cJ2_getChars_ba4f3 7 = .ok (.iconst 1, 1)) ∧ (decode cJ2_getChars_ba4f3 8 = .ok (.goto 4, 3)) ∧ (decode cJ2_getChars_ba4f3 11 = .ok (.iconst 0, 1)) ∧ (decode cJ2_getChars_ba4f3 12 = .ok (.istore 6, 2)) ∧ (decode cJ2_getChars_ba4f3 14 = .ok (.iload 6, 2)) ∧ (decode cJ2_getChars_ba4f3 16 = .ok (.ifCond .ne 6, 3)) ∧ (decode cJ2_getChars_ba4f3 19 = .ok (.iload_n 0, 1)) ∧ (decode cJ2_getChars_ba4f3 20 = .ok (.ineg, 1)) ∧ (decode cJ2_getChars_ba4f3 21 = .ok (.istore_n 0, 1)) ∧ (decode cJ2_getChars_ba4f3 22 = .ok (.iload_n 0, 1)) ∧ (decode cJ2_getChars_ba4f3 23 = .ok (.bipush (-100), 2)) ∧ (decode cJ2_getChars_ba4f3 25 = .ok (.if_icmp .gt 51, 3)) := by decide +kernel
theorem dJ2_getChars_ba4f3_0 : decode cJ2_getChars_ba4f3 0 = .ok (.iload_n 1, 1) := db4_104.1
theorem dJ2_getChars_ba4f3_1 : decode cJ2_getChars_ba4f3 1 = .ok (.istore 5, 2) := db4_104.2.1
theorem dJ2_getChars_ba4f3_3 : decode cJ2_getChars_ba4f3 3 = .ok (.iload_n 0, 1) := db4_104.2.2.1
theorem dJ2_getChars_ba4f3_4 : decode cJ2_getChars_ba4f3 4 = .ok (.ifCond .ge 7, 3) := db4_104.2.2.2.1
theorem dJ2_getChars_ba4f3_7 : decode cJ2_getChars_ba4f3 7 = .ok (.iconst 1, 1) := db4_104.2.2.2.2.1
theorem dJ2_getChars_ba4f3_8 : decode cJ2_getChars_ba4f3 8 = .ok (.goto 4, 3) := db4_104.2.2.2.2.2.1
theorem dJ2_getChars_ba4f3_11 : decode cJ2_getChars_ba4f3 11 = .ok (.iconst 0, 1) := db4_104.2.2.2.2.2.2.1
theorem dJ2_getChars_ba4f3_12 : decode cJ2_getChars_ba4f3 12 = .ok (.istore 6, 2) := db4_104.2.2.2.2.2.2.2.1
theorem dJ2_getChars_ba4f3_14 : decode cJ2_getChars_ba4f3 14 = .ok (.iload 6, 2) := db4_104.2.2.2.2.2.2.2.2.1
theorem dJ2_getChars_ba4f3_16 : decode cJ2_getChars_ba4f3 16 = .ok (.ifCond .ne 6, 3) := db4_104.2.2.2.2.2.2.2.2.2.1
theorem dJ2_getChars_ba4f3_19 : decode cJ2_getChars_ba4f3 19 = .ok (.iload_n 0, 1) := db4_104.2.2.2.2.2.2.2.2.2.2.1
theorem dJ2_getChars_ba4f3_20 : decode cJ2_getChars_ba4f3 20 = .ok (.ineg, 1) := db4_104.2.2.2.2.2.2.2.2.2.2.2.1
theorem dJ2_getChars_ba4f3_21 : decode cJ2_getChars_ba4f3 21 = .ok (.istore_n 0, 1) := db4_104.2.2.2.2.2.2.2.2.2.2.2.2.1
theorem dJ2_getChars_ba4f3_22 : decode cJ2_getChars_ba4f3 22 = .ok (.iload_n 0, 1) := db4_104.2.2.2.2.2.2.2.2.2.2.2.2.2.1
theorem dJ2_getChars_ba4f3_23 : decode cJ2_getChars_ba4f3 23 = .ok (.bipush (-100), 2) := db4_104.2.2.2.2.2.2.2.2.2.2.2.2.2.2.1
theorem dJ2_getChars_ba4f3_25 : decode cJ2_getChars_ba4f3 25 = .ok (.if_icmp .gt 51, 3) := db4_104.2.2.2.2.2.2.2.2.2.2.2.2.2.2.2
theorem db4_105 : (decode cJ2_getChars_ba4f3 28 = .ok (.iload_n 0, 1)) ∧ (decode cJ2_getChars_ba4f3 29 = .ok (.bipush 100, 2)) ∧ (decode cJ2_getChars_ba4f3 31 = .ok (.idiv, 1)) ∧ (decode cJ2_getChars_ba4f3 32 = .ok (.istore_n 3, 1)) ∧ (decode cJ2_getChars_ba4f3 33 = .ok (.iload_n 3, 1)) ∧ (decode cJ2_getChars_ba4f3 34 = .ok (.bipush 100, 2)) ∧ (decode cJ2_getChars_ba4f3 36 = .ok (.imul, 1)) ∧ (decode cJ2_getChars_ba4f3 37 = .ok (.iload_n 0, 1)) ∧ (decode cJ2_getChars_ba4f3 38 = .ok (.isub, 1)) ∧ (decode cJ2_getChars_ba4f3 39 = .ok (.istore 4, 2)) ∧ (decode cJ2_getChars_ba4f3 41 = .ok (.iload_n 3, 1)) ∧ (decode cJ2_getChars_ba4f3 42 = .ok (.istore_n 0, 1)) ∧ (decode cJ2_getChars_ba4f3 43 = .ok (.aload_n 2, 1)) ∧ (decode cJ2_getChars_ba4f3 44 = .ok (.iinc 5 (-1), 3)) ∧ (decode cJ2_getChars_ba4f3 47 = .ok (.iload 5, 2)) ∧ (decode cJ2_getChars_ba4f3 49 = .ok (.getstatic 403, 3)) := by decide +kernel
theorem dJ2_getChars_ba4f3_28 : decode cJ2_getChars_ba4f3 28 = .ok (.iload_n 0, 1) := db4_105.1
theorem dJ2_getChars_ba4f3_29 : decode cJ2_getChars_ba4f3 29 = .ok (.bipush 100, 2) := db4_105.2.1
theorem dJ2_getChars_ba4f3_31 : decode cJ2_getChars_ba4f3 31 = .ok (.idiv, 1) := db4_105.2.2.1
theorem dJ2_getChars_ba4f3_32 : decode cJ2_getChars_ba4f3 32 = .ok (.istore_n 3, 1) := db4_105.2.2.2.1
theorem dJ2_getChars_ba4f3_33 : decode cJ2_getChars_ba4f3 33 = .ok (.iload_n 3, 1) := db4_105.2.2.2.2.1
theorem dJ2_getChars_ba4f3_34 : decode cJ2_getChars_ba4f3 34 = .ok (.bipush 100, 2) := db4_105.2.2.2.2.2.1
theorem dJ2_getChars_ba4f3_36 : decode cJ2_getChars_ba4f3 36 = .ok (.imul, 1) := db4_105.2.2.2.2.2.2.1
theorem dJ2_getChars_ba4f3_37 : decode cJ2_getChars_ba4f3 37 = .ok (.iload_n 0, 1) := db4_105.2.2.2.2.2.2.2.1
theorem dJ2_getChars_ba4f3_38 : decode cJ2_getChars_ba4f3 38 = .ok (.isub, 1) := db4_105.2.2.2.2.2.2.2.2.1
theorem dJ2_getChars_ba4f3_39 : decode cJ2_getChars_ba4f3 39 = .ok (.istore 4, 2) := db4_105.2.2.2.2.2.2.2.2.2.1
theorem dJ2_getChars_ba4f3_41 : decode cJ2_getChars_ba4f3 41 = .ok (.iload_n 3, 1) := db4_105.2.2.2.2.2.2.2.2.2.2.1
theorem dJ2_getChars_ba4f3_42 : decode cJ2_getChars_ba4f3 42 = .ok (.istore_n 0, 1) := db4_105.2.2.2.2.2.2.2.2.2.2.2.1
theorem dJ2_getChars_ba4f3_43 : decode cJ2_getChars_ba4f3 43 = .ok (.aload_n 2, 1) := db4_105.2.2.2.2.2.2.2.2.2.2.2.2.1
theorem dJ2_getChars_ba4f3_44 : decode cJ2_getChars_ba4f3 44 = .ok (.iinc 5 (-1), 3) := db4_105.2.2.2.2.2.2.2.2.2.2.2.2.2.1
theorem dJ2_getChars_ba4f3_47 : decode cJ2_getChars_ba4f3 47 = .ok (.iload 5, 2) := db4_105.2.2.2.2.2.2.2.2.2.2.2.2.2.2.1
theorem dJ2_getChars_ba4f3_49 : decode cJ2_getChars_ba4f3 49 = .ok (.getstatic 403, 3) := db4_105.2.2.2.2.2.2.2.2.2.2.2.2.2.2.2
theorem db4_106 : (decode cJ2_getChars_ba4f3 52 = .ok (.iload 4, 2)) ∧ (decode cJ2_getChars_ba4f3 54 = .ok (.baload, 1)) ∧ (decode cJ2_getChars_ba4f3 55 = .ok (.invokestatic 111, 3)) ∧ (decode cJ2_getChars_ba4f3 58 = .ok (.aload_n 2, 1)) ∧ (decode cJ2_getChars_ba4f3 59 = .ok (.iinc 5 (-1), 3)) ∧ (decode cJ2_getChars_ba4f3 62 = .ok (.iload 5, 2)) ∧ (decode cJ2_getChars_ba4f3 64 = .ok (.getstatic 407, 3)) ∧ (decode cJ2_getChars_ba4f3 67 = .ok (.iload 4, 2)) ∧ (decode cJ2_getChars_ba4f3 69 = .ok (.baload, 1)) ∧ (decode cJ2_getChars_ba4f3 70 = .ok (.invokestatic 111, 3)) ∧ (decode cJ2_getChars_ba4f3 73 = .ok (.goto (-51), 3)) ∧ (decode cJ2_getChars_ba4f3 76 = .ok (.aload_n 2, 1)) ∧ (decode cJ2_getChars_ba4f3 77 = .ok (.iinc 5 (-1), 3)) ∧ (decode cJ2_getChars_ba4f3 80 = .ok (.iload 5, 2)) ∧ (decode cJ2_getChars_ba4f3 82 = .ok (.getstatic 403, 3)) ∧ (decode cJ2_getChars_ba4f3 85 = .ok (.iload_n 0, 1)) := by decide +kernel
theorem dJ2_getChars_ba4f3_52 : decode cJ2_getChars_ba4f3 52 = .ok (.iload 4, 2) := db4_106.1
theorem dJ2_getChars_ba4f3_54 : decode cJ2_getChars_ba4f3 54 = .ok (.baload, 1) := db4_106.2.1
theorem dJ2_getChars_ba4f3_55 : decode cJ2_getChars_ba4f3 55 = .ok (.invokestatic 111, 3) := db4_106.2.2.1
theorem dJ2_getChars_ba4f3_58 : decode cJ2_getChars_ba4f3 58 = .ok (.aload_n 2, 1) := db4_106.2.2.2.1
theorem dJ2_getChars_ba4f3_59 : decode cJ2_getChars_ba4f3 59 = .ok (.iinc 5 (-1), 3) := db4_106.2.2.2.2.1
theorem dJ2_getChars_ba4f3_62 : decode cJ2_getChars_ba4f3 62 = .ok (.iload 5, 2) := db4_106.2.2.2.2.2.1
theorem dJ2_getChars_ba4f3_64 : decode cJ2_getChars_ba4f3 64 = .ok (.getstatic 407, 3) := db4_106.2.2.2.2.2.2.1
theorem dJ2_getChars_ba4f3_67 : decode cJ2_getChars_ba4f3 67 = .ok (.iload 4, 2) := db4_106.2.2.2.2.2.2.2.1
theorem dJ2_getChars_ba4f3_69 : decode cJ2_getChars_ba4f3 69 = .ok (.baload, 1) := db4_106.2.2.2.2.2.2.2.2.1
theorem dJ2_getChars_ba4f3_70 : decode cJ2_getChars_ba4f3 70 = .ok (.invokestatic 111, 3) := db4_106.2.2.2.2.2.2.2.2.2.1
theorem dJ2_getChars_ba4f3_73 : decode cJ2_getChars_ba4f3 73 = .ok (.goto (-51), 3) := db4_106.2.2.2.2.2.2.2.2.2.2.1
theorem dJ2_getChars_ba4f3_76 : decode cJ2_getChars_ba4f3 76 = .ok (.aload_n 2, 1) := db4_106.2.2.2.2.2.2.2.2.2.2.2.1
theorem dJ2_getChars_ba4f3_77 : decode cJ2_getChars_ba4f3 77 = .ok (.iinc 5 (-1), 3) := db4_106.2.2.2.2.2.2.2.2.2.2.2.2.1
theorem dJ2_getChars_ba4f3_80 : decode cJ2_getChars_ba4f3 80 = .ok (.iload 5, 2) := db4_106.2.2.2.2.2.2.2.2.2.2.2.2.2.1
theorem dJ2_getChars_ba4f3_82 : decode cJ2_getChars_ba4f3 82 = .ok (.getstatic 403, 3) := db4_106.2.2.2.2.2.2.2.2.2.2.2.2.2.2.1
theorem dJ2_getChars_ba4f3_85 : decode cJ2_getChars_ba4f3 85 = .ok (.iload_n 0, 1) := db4_106.2.2.2.2.2.2.2.2.2.2.2.2.2.2.2
theorem db4_107 : (decode cJ2_getChars_ba4f3 86 = .ok (.ineg, 1)) ∧ (decode cJ2_getChars_ba4f3 87 = .ok (.baload, 1)) ∧ (decode cJ2_getChars_ba4f3 88 = .ok (.invokestatic 111, 3)) ∧ (decode cJ2_getChars_ba4f3 91 = .ok (.iload_n 0, 1)) ∧ (decode cJ2_getChars_ba4f3 92 = .ok (.bipush (-9), 2)) ∧ (decode cJ2_getChars_ba4f3 94 = .ok (.if_icmp .ge 18, 3)) ∧ (decode cJ2_getChars_ba4f3 97 = .ok (.aload_n 2, 1)) ∧ (decode cJ2_getChars_ba4f3 98 = .ok (.iinc 5 (-1), 3)) ∧ (decode cJ2_getChars_ba4f3 101 = .ok (.iload 5, 2)) ∧ (decode cJ2_getChars_ba4f3 103 = .ok (.getstatic 407, 3)) ∧ (decode cJ2_getChars_ba4f3 106 = .ok (.iload_n 0, 1)) ∧ (decode cJ2_getChars_ba4f3 107 = .ok (.ineg, 1)) ∧ (decode cJ2_getChars_ba4f3 108 = .ok (.baload, 1)) ∧ (decode cJ2_getChars_ba4f3 109 = .ok (.invokestatic 111, 3)) ∧ (decode cJ2_getChars_ba4f3 112 = .ok (.iload 6, 2)) ∧ (decode cJ2_getChars_ba4f3 114 = .ok (.ifCond .eq 14, 3)) := by decide +kernel
theorem dJ2_getChars_ba4f3_86 : decode cJ2_getChars_ba4f3 86 = .ok (.ineg, 1) := db4_107.1
theorem dJ2_getChars_ba4f3_87 : decode cJ2_getChars_ba4f3 87 = .ok (.baload, 1) := db4_107.2.1
theorem dJ2_getChars_ba4f3_88 : decode cJ2_getChars_ba4f3 88 = .ok (.invokestatic 111, 3) := db4_107.2.2.1
theorem dJ2_getChars_ba4f3_91 : decode cJ2_getChars_ba4f3 91 = .ok (.iload_n 0, 1) := db4_107.2.2.2.1
theorem dJ2_getChars_ba4f3_92 : decode cJ2_getChars_ba4f3 92 = .ok (.bipush (-9), 2) := db4_107.2.2.2.2.1
theorem dJ2_getChars_ba4f3_94 : decode cJ2_getChars_ba4f3 94 = .ok (.if_icmp .ge 18, 3) := db4_107.2.2.2.2.2.1
theorem dJ2_getChars_ba4f3_97 : decode cJ2_getChars_ba4f3 97 = .ok (.aload_n 2, 1) := db4_107.2.2.2.2.2.2.1
theorem dJ2_getChars_ba4f3_98 : decode cJ2_getChars_ba4f3 98 = .ok (.iinc 5 (-1), 3) := db4_107.2.2.2.2.2.2.2.1
theorem dJ2_getChars_ba4f3_101 : decode cJ2_getChars_ba4f3 101 = .ok (.iload 5, 2) := db4_107.2.2.2.2.2.2.2.2.1
theorem dJ2_getChars_ba4f3_103 : decode cJ2_getChars_ba4f3 103 = .ok (.getstatic 407, 3) := db4_107.2.2.2.2.2.2.2.2.2.1
theorem dJ2_getChars_ba4f3_106 : decode cJ2_getChars_ba4f3 106 = .ok (.iload_n 0, 1) := db4_107.2.2.2.2.2.2.2.2.2.2.1
theorem dJ2_getChars_ba4f3_107 : decode cJ2_getChars_ba4f3 107 = .ok (.ineg, 1) := db4_107.2.2.2.2.2.2.2.2.2.2.2.1
theorem dJ2_getChars_ba4f3_108 : decode cJ2_getChars_ba4f3 108 = .ok (.baload, 1) := db4_107.2.2.2.2.2.2.2.2.2.2.2.2.1
theorem dJ2_getChars_ba4f3_109 : decode cJ2_getChars_ba4f3 109 = .ok (.invokestatic 111, 3) := db4_107.2.2.2.2.2.2.2.2.2.2.2.2.2.1
theorem dJ2_getChars_ba4f3_112 : decode cJ2_getChars_ba4f3 112 = .ok (.iload 6, 2) := db4_107.2.2.2.2.2.2.2.2.2.2.2.2.2.2.1
theorem dJ2_getChars_ba4f3_114 : decode cJ2_getChars_ba4f3 114 = .ok (.ifCond .eq 14, 3) := db4_107.2.2.2.2.2.2.2.2.2.2.2.2.2.2.2
theorem db4_108 : (decode cJ2_getChars_ba4f3 117 = .ok (.aload_n 2, 1)) ∧ (decode cJ2_getChars_ba4f3 118 = .ok (.iinc 5 (-1), 3)) ∧ (decode cJ2_getChars_ba4f3 121 = .ok (.iload 5, 2)) ∧ (decode cJ2_getChars_ba4f3 123 = .ok (.bipush 45, 2)) ∧ (decode cJ2_getChars_ba4f3 125 = .ok (.invokestatic 111, 3)) ∧ (decode cJ2_getChars_ba4f3 128 = .ok (.iload 5, 2)) ∧ (decode cJ2_getChars_ba4f3 130 = .ok (.ireturn, 1)) := by decide +kernel
theorem dJ2_getChars_ba4f3_117 : decode cJ2_getChars_ba4f3 117 = .ok (.aload_n 2, 1) := db4_108.1
theorem dJ2_getChars_ba4f3_118 : decode cJ2_getChars_ba4f3 118 = .ok (.iinc 5 (-1), 3) := db4_108.2.1
theorem dJ2_getChars_ba4f3_121 : decode cJ2_getChars_ba4f3 121 = .ok (.iload 5, 2) := db4_108.2.2.1
theorem dJ2_getChars_ba4f3_123 : decode cJ2_getChars_ba4f3 123 = .ok (.bipush 45, 2) := db4_108.2.2.2.1
theorem dJ2_getChars_ba4f3_125 : decode cJ2_getChars_ba4f3 125 = .ok (.invokestatic 111, 3) := db4_108.2.2.2.2.1
theorem dJ2_getChars_ba4f3_128 : decode cJ2_getChars_ba4f3 128 = .ok (.iload 5, 2) := db4_108.2.2.2.2.2.1
theorem dJ2_getChars_ba4f3_130 : decode cJ2_getChars_ba4f3 130 = .ok (.ireturn, 1) := db4_108.2.2.2.2.2.2
theorem db4_109 : (decode cJ2_checkIndex_2214a 0 = .ok (.iload_n 0, 1)) ∧ (decode cJ2_checkIndex_2214a 1 = .ok (.aload_n 1, 1)) ∧ (decode cJ2_checkIndex_2214a 2 = .ok (.invokestatic 48, 3)) ∧ (decode cJ2_checkIndex_2214a 5 = .ok (.invokestatic 414, 3)) ∧ (decode cJ2_checkIndex_2214a 8 = .ok (.return_, 1)) := by decide +kernel
theorem dJ2_checkIndex_2214a_0 : decode cJ2_checkIndex_2214a 0 = .ok (.iload_n 0, 1) := db4_109.1
theorem dJ2_checkIndex_2214a_1 : decode cJ2_checkIndex_2214a 1 = .ok (.aload_n 1, 1) := db4_109.2.1
theorem dJ2_checkIndex_2214a_2 : decode cJ2_checkIndex_2214a 2 = .ok (.invokestatic 48, 3) := db4_109.2.2.1
theorem dJ2_checkIndex_2214a_5 : decode cJ2_checkIndex_2214a 5 = .ok (.invokestatic 414, 3) := db4_109.2.2.2.1
theorem dJ2_checkIndex_2214a_8 : decode cJ2_checkIndex_2214a 8 = .ok (.return_, 1) := db4_109.2.2.2.2
theorem db4_110 : (decode cJ2_checkBoundsBeginEnd_d044e 0 = .ok (.iload_n 0, 1)) ∧ (decode cJ2_checkBoundsBeginEnd_d044e 1 = .ok (.iload_n 1, 1)) ∧ (decode cJ2_checkBoundsBeginEnd_d044e 2 = .ok (.aload_n 2, 1)) ∧ (decode cJ2_checkBoundsBeginEnd_d044e 3 = .ok (.invokestatic 48, 3)) ∧ (decode cJ2_checkBoundsBeginEnd_d044e 6 = .ok (.invokestatic 241, 3)) ∧ (decode cJ2_checkBoundsBeginEnd_d044e 9 = .ok (.return_, 1)) := by decide +kernel
theorem dJ2_checkBoundsBeginEnd_d044e_0 : decode cJ2_checkBoundsBeginEnd_d044e 0 = .ok (.iload_n 0, 1) := db4_110.1
theorem dJ2_checkBoundsBeginEnd_d044e_1 : decode cJ2_checkBoundsBeginEnd_d044e 1 = .ok (.iload_n 1, 1) := db4_110.2.1
theorem dJ2_checkBoundsBeginEnd_d044e_2 : decode cJ2_checkBoundsBeginEnd_d044e 2 = .ok (.aload_n 2, 1) := db4_110.2.2.1
theorem dJ2_checkBoundsBeginEnd_d044e_3 : decode cJ2_checkBoundsBeginEnd_d044e 3 = .ok (.invokestatic 48, 3) := db4_110.2.2.2.1
theorem dJ2_checkBoundsBeginEnd_d044e_6 : decode cJ2_checkBoundsBeginEnd_d044e 6 = .ok (.invokestatic 241, 3) := db4_110.2.2.2.2.1
theorem dJ2_checkBoundsBeginEnd_d044e_9 : decode cJ2_checkBoundsBeginEnd_d044e 9 = .ok (.return_, 1) := db4_110.2.2.2.2.2
theorem db4_111 : (decode cJ2_checkBoundsOffCount_d044e 0 = .ok (.iload_n 0, 1)) ∧ (decode cJ2_checkBoundsOffCount_d044e 1 = .ok (.iload_n 1, 1)) ∧ (decode cJ2_checkBoundsOffCount_d044e 2 = .ok (.aload_n 2, 1)) ∧ (decode cJ2_checkBoundsOffCount_d044e 3 = .ok (.invokestatic 48, 3)) ∧ (decode cJ2_checkBoundsOffCount_d044e 6 = .ok (.invokestatic 419, 3)) ∧ (decode cJ2_checkBoundsOffCount_d044e 9 = .ok (.pop, 1)) ∧ (decode cJ2_checkBoundsOffCount_d044e 10 = .ok (.return_, 1)) := by decide +kernel
theorem dJ2_checkBoundsOffCount_d044e_0 : decode cJ2_checkBoundsOffCount_d044e 0 = .ok (.iload_n 0, 1) := db4_111.1
theorem dJ2_checkBoundsOffCount_d044e_1 : decode cJ2_checkBoundsOffCount_d044e 1 = .ok (.iload_n 1, 1) := db4_111.2.1
theorem dJ2_checkBoundsOffCount_d044e_2 : decode cJ2_checkBoundsOffCount_d044e 2 = .ok (.aload_n 2, 1) := db4_111.2.2.1
theorem dJ2_checkBoundsOffCount_d044e_3 : decode cJ2_checkBoundsOffCount_d044e 3 = .ok (.invokestatic 48, 3) := db4_111.2.2.2.1
theorem dJ2_checkBoundsOffCount_d044e_6 : decode cJ2_checkBoundsOffCount_d044e 6 = .ok (.invokestatic 419, 3) := db4_111.2.2.2.2.1
theorem dJ2_checkBoundsOffCount_d044e_9 : decode cJ2_checkBoundsOffCount_d044e 9 = .ok (.pop, 1) := db4_111.2.2.2.2.2.1
theorem dJ2_checkBoundsOffCount_d044e_10 : decode cJ2_checkBoundsOffCount_d044e 10 = .ok (.return_, 1) := db4_111.2.2.2.2.2.2
theorem db4_112 : (decode cJxa1e45_init_da8c8 0 = .ok (.aload_n 0, 1)) ∧ (decode cJxa1e45_init_da8c8 1 = .ok (.invokespecial 1, 3)) ∧ (decode cJxa1e45_init_da8c8 4 = .ok (.return_, 1)) := by decide +kernel
theorem dJxa1e45_init_da8c8_0 : decode cJxa1e45_init_da8c8 0 = .ok (.aload_n 0, 1) := db4_112.1
theorem dJxa1e45_init_da8c8_1 : decode cJxa1e45_init_da8c8 1 = .ok (.invokespecial 1, 3) := db4_112.2.1
theorem dJxa1e45_init_da8c8_4 : decode cJxa1e45_init_da8c8 4 = .ok (.return_, 1) := db4_112.2.2
theorem db4_113 : (decode cJxc12de_init_da8c8 0 = .ok (.aload_n 0, 1)) ∧ (decode cJxc12de_init_da8c8 1 = .ok (.invokespecial 1, 3)) ∧ (decode cJxc12de_init_da8c8 4 = .ok (.aload_n 0, 1)) ∧ (decode cJxc12de_init_da8c8 5 = .ok (.iconst 0, 1)) ∧ (decode cJxc12de_init_da8c8 6 = .ok (.putfield 7, 3)) ∧ (decode cJxc12de_init_da8c8 9 = .ok (.return_, 1)) := by decide +kernel
theorem dJxc12de_init_da8c8_0 : decode cJxc12de_init_da8c8 0 = .ok (.aload_n 0, 1) := db4_113.1
theorem dJxc12de_init_da8c8_1 : decode cJxc12de_init_da8c8 1 = .ok (.invokespecial 1, 3) := db4_113.2.1
theorem dJxc12de_init_da8c8_4 : decode cJxc12de_init_da8c8 4 = .ok (.aload_n 0, 1) := db4_113.2.2.1
theorem dJxc12de_init_da8c8_5 : decode cJxc12de_init_da8c8 5 = .ok (.iconst 0, 1) := db4_113.2.2.2.1
theorem dJxc12de_init_da8c8_6 : decode cJxc12de_init_da8c8 6 = .ok (.putfield 7, 3) := db4_113.2.2.2.2.1
theorem dJxc12de_init_da8c8_9 : decode cJxc12de_init_da8c8 9 = .ok (.return_, 1) := db4_113.2.2.2.2.2
theorem db4_114 : (decode cJx35411_init_45d68 0 = .ok (.aload_n 0, 1)) ∧ (decode cJx35411_init_45d68 1 = .ok (.aload_n 1, 1)) ∧ (decode cJx35411_init_45d68 2 = .ok (.putfield 1, 3)) ∧ (decode cJx35411_init_45d68 5 = .ok (.aload_n 0, 1)) ∧ (decode cJx35411_init_45d68 6 = .ok (.invokespecial 7, 3)) ∧ (decode cJx35411_init_45d68 9 = .ok (.aload_n 0, 1)) ∧ (decode cJx35411_init_45d68 10 = .ok (.iconst (-1), 1)) ∧ (decode cJx35411_init_45d68 11 = .ok (.putfield 13, 3)) ∧ (decode cJx35411_init_45d68 14 = .ok (.aload_n 0, 1)) ∧ (decode cJx35411_init_45d68 15 = .ok (.aload_n 0, 1)) ∧ (decode cJx35411_init_45d68 16 = .ok (.getfield 1, 3)) ∧ (decode cJx35411_init_45d68 19 = .ok (.getfield 17, 3)) ∧ (decode cJx35411_init_45d68 22 = .ok (.putfield 22, 3)) ∧ (decode cJx35411_init_45d68 25 = .ok (.return_, 1)) := by decide +kernel
theorem dJx35411_init_45d68_0 : decode cJx35411_init_45d68 0 = .ok (.aload_n 0, 1) := db4_114.1
theorem dJx35411_init_45d68_1 : decode cJx35411_init_45d68 1 = .ok (.aload_n 1, 1) := db4_114.2.1
theorem dJx35411_init_45d68_2 : decode cJx35411_init_45d68 2 = .ok (.putfield 1, 3) := db4_114.2.2.1
theorem dJx35411_init_45d68_5 : decode cJx35411_init_45d68 5 = .ok (.aload_n 0, 1) := db4_114.2.2.2.1
theorem dJx35411_init_45d68_6 : decode cJx35411_init_45d68 6 = .ok (.invokespecial 7, 3) := db4_114.2.2.2.2.1
theorem dJx35411_init_45d68_9 : decode cJx35411_init_45d68 9 = .ok (.aload_n 0, 1) := db4_114.2.2.2.2.2.1
theorem dJx35411_init_45d68_10 : decode cJx35411_init_45d68 10 = .ok (.iconst (-1), 1) := db4_114.2.2.2.2.2.2.1
theorem dJx35411_init_45d68_11 : decode cJx35411_init_45d68 11 = .ok (.putfield 13, 3) := db4_114.2.2.2.2.2.2.2.1
theorem dJx35411_init_45d68_14 : decode cJx35411_init_45d68 14 = .ok (.aload_n 0, 1) := db4_114.2.2.2.2.2.2.2.2.1
theorem dJx35411_init_45d68_15 : decode cJx35411_init_45d68 15 = .ok (.aload_n 0, 1) := db4_114.2.2.2.2.2.2.2.2.2.1
theorem dJx35411_init_45d68_16 : decode cJx35411_init_45d68 16 = .ok (.getfield 1, 3) := db4_114.2.2.2.2.2.2.2.2.2.2.1
theorem dJx35411_init_45d68_19 : decode cJx35411_init_45d68 19 = .ok (.getfield 17, 3) := db4_114.2.2.2.2.2.2.2.2.2.2.2.1
theorem dJx35411_init_45d68_22 : decode cJx35411_init_45d68 22 = .ok (.putfield 22, 3) := db4_114.2.2.2.2.2.2.2.2.2.2.2.2.1
theorem dJx35411_init_45d68_25 : decode cJx35411_init_45d68 25 = .ok (.return_, 1) := db4_114.2.2.2.2.2.2.2.2.2.2.2.2.2
theorem db4_115 : (decode cJx35411_hasNext_aae02 0 = .ok (.aload_n 0, 1)) ∧ (decode cJx35411_hasNext_aae02 1 = .ok (.getfield 25, 3)) ∧ (decode cJx35411_hasNext_aae02 4 = .ok (.aload_n 0, 1)) ∧ (decode cJx35411_hasNext_aae02 5 = .ok (.getfield 1, 3)) ∧ (decode cJx35411_hasNext_aae02 8 = .ok (.getfield 28, 3)) ∧ (decode cJx35411_hasNext_aae02 11 = .ok (.if_icmp .eq 7, 3)) ∧ (decode cJx35411_hasNext_aae02 14 = .ok (.iconst 1, 1)) ∧ (decode cJx35411_hasNext_aae02 15 = .ok (.goto 4, 3)) ∧ (decode cJx35411_hasNext_aae02 18 = .ok (.iconst 0, 1)) ∧ (decode cJx35411_hasNext_aae02 19 = .ok (.ireturn, 1)) := by decide +kernel
theorem dJx35411_hasNext_aae02_0 : decode cJx35411_hasNext_aae02 0 = .ok (.aload_n 0, 1) := db4_115.1
theorem dJx35411_hasNext_aae02_1 : decode cJx35411_hasNext_aae02 1 = .ok (.getfield 25, 3) := db4_115.2.1
theorem dJx35411_hasNext_aae02_4 : decode cJx35411_hasNext_aae02 4 = .ok (.aload_n 0, 1) := db4_115.2.2.1
theorem dJx35411_hasNext_aae02_5 : decode cJx35411_hasNext_aae02 5 = .ok (.getfield 1, 3) := db4_115.2.2.2.1
theorem dJx35411_hasNext_aae02_8 : decode cJx35411_hasNext_aae02 8 = .ok (.getfield 28, 3) := db4_115.2.2.2.2.1
theorem dJx35411_hasNext_aae02_11 : decode cJx35411_hasNext_aae02 11 = .ok (.if_icmp .eq 7, 3) := db4_115.2.2.2.2.2.1
theorem dJx35411_hasNext_aae02_14 : decode cJx35411_hasNext_aae02 14 = .ok (.iconst 1, 1) := db4_115.2.2.2.2.2.2.1
theorem dJx35411_hasNext_aae02_15 : decode cJx35411_hasNext_aae02 15 = .ok (.goto 4, 3) := db4_115.2.2.2.2.2.2.2.1
theorem dJx35411_hasNext_aae02_18 : decode cJx35411_hasNext_aae02 18 = .ok (.iconst 0, 1) := db4_115.2.2.2.2.2.2.2.2.1
theorem dJx35411_hasNext_aae02_19 : decode cJx35411_hasNext_aae02 19 = .ok (.ireturn, 1) := db4_115.2.2.2.2.2.2.2.2.2
theorem db4_116 : (decode cJx35411_next_0502b 0 = .ok (.aload_n 0, 1)) ∧ (decode cJx35411_next_0502b 1 = .ok (.invokevirtual 31, 3)) ∧ (decode cJx35411_next_0502b 4 = .ok (.aload_n 0, 1)) ∧ (decode cJx35411_next_0502b 5 = .ok (.getfield 25, 3)) ∧ (decode cJx35411_next_0502b 8 = .ok (.istore_n 1, 1)) ∧ (decode cJx35411_next_0502b 9 = .ok (.iload_n 1, 1)) ∧ (decode cJx35411_next_0502b 10 = .ok (.aload_n 0, 1)) ∧ (decode cJx35411_next_0502b 11 = .ok (.getfield 1, 3)) ∧ (decode cJx35411_next_0502b 14 = .ok (.getfield 28, 3)) ∧ (decode cJx35411_next_0502b 17 = .ok (.if_icmp .lt 11, 3)) ∧ (decode cJx35411_next_0502b 20 = .ok (.new 34, 3)) ∧ (decode cJx35411_next_0502b 23 = .ok (.dup, 1)) ∧ (decode cJx35411_next_0502b 24 = .ok (.invokespecial 36, 3)) ∧ (decode cJx35411_next_0502b 27 = .ok (.athrow, 1)) ∧ (decode cJx35411_next_0502b 28 = .ok (.aload_n 0, 1)) ∧ (decode cJx35411_next_0502b 29 = .ok (.getfield 1, 3)) := by decide +kernel
theorem dJx35411_next_0502b_0 : decode cJx35411_next_0502b 0 = .ok (.aload_n 0, 1) := db4_116.1
theorem dJx35411_next_0502b_1 : decode cJx35411_next_0502b 1 = .ok (.invokevirtual 31, 3) := db4_116.2.1
theorem dJx35411_next_0502b_4 : decode cJx35411_next_0502b 4 = .ok (.aload_n 0, 1) := db4_116.2.2.1
theorem dJx35411_next_0502b_5 : decode cJx35411_next_0502b 5 = .ok (.getfield 25, 3) := db4_116.2.2.2.1
theorem dJx35411_next_0502b_8 : decode cJx35411_next_0502b 8 = .ok (.istore_n 1, 1) := db4_116.2.2.2.2.1
theorem dJx35411_next_0502b_9 : decode cJx35411_next_0502b 9 = .ok (.iload_n 1, 1) := db4_116.2.2.2.2.2.1
theorem dJx35411_next_0502b_10 : decode cJx35411_next_0502b 10 = .ok (.aload_n 0, 1) := db4_116.2.2.2.2.2.2.1
theorem dJx35411_next_0502b_11 : decode cJx35411_next_0502b 11 = .ok (.getfield 1, 3) := db4_116.2.2.2.2.2.2.2.1
theorem dJx35411_next_0502b_14 : decode cJx35411_next_0502b 14 = .ok (.getfield 28, 3) := db4_116.2.2.2.2.2.2.2.2.1
theorem dJx35411_next_0502b_17 : decode cJx35411_next_0502b 17 = .ok (.if_icmp .lt 11, 3) := db4_116.2.2.2.2.2.2.2.2.2.1
theorem dJx35411_next_0502b_20 : decode cJx35411_next_0502b 20 = .ok (.new 34, 3) := db4_116.2.2.2.2.2.2.2.2.2.2.1
theorem dJx35411_next_0502b_23 : decode cJx35411_next_0502b 23 = .ok (.dup, 1) := db4_116.2.2.2.2.2.2.2.2.2.2.2.1
theorem dJx35411_next_0502b_24 : decode cJx35411_next_0502b 24 = .ok (.invokespecial 36, 3) := db4_116.2.2.2.2.2.2.2.2.2.2.2.2.1
theorem dJx35411_next_0502b_27 : decode cJx35411_next_0502b 27 = .ok (.athrow, 1) := db4_116.2.2.2.2.2.2.2.2.2.2.2.2.2.1
theorem dJx35411_next_0502b_28 : decode cJx35411_next_0502b 28 = .ok (.aload_n 0, 1) := db4_116.2.2.2.2.2.2.2.2.2.2.2.2.2.2.1
theorem dJx35411_next_0502b_29 : decode cJx35411_next_0502b 29 = .ok (.getfield 1, 3) := db4_116.2.2.2.2.2.2.2.2.2.2.2.2.2.2.2
theorem db4_117 : (decode cJx35411_next_0502b 32 = .ok (.getfield 37, 3)) ∧ (decode cJx35411_next_0502b 35 = .ok (.astore_n 2, 1)) ∧ (decode cJx35411_next_0502b 36 = .ok (.iload_n 1, 1)) ∧ (decode cJx35411_next_0502b 37 = .ok (.aload_n 2, 1)) ∧ (decode cJx35411_next_0502b 38 = .ok (.arraylength, 1)) ∧ (decode cJx35411_next_0502b 39 = .ok (.if_icmp .lt 11, 3)) ∧ (decode cJx35411_next_0502b 42 = .ok (.new 41, 3)) ∧ (decode cJx35411_next_0502b 45 = .ok (.dup, 1)) ∧ (decode cJx35411_next_0502b 46 = .ok (.invokespecial 43, 3)) ∧ (decode cJx35411_next_0502b 49 = .ok (.athrow, 1)) ∧ (decode cJx35411_next_0502b 50 = .ok (.aload_n 0, 1)) ∧ (decode cJx35411_next_0502b 51 = .ok (.iload_n 1, 1)) ∧ (decode cJx35411_next_0502b 52 = .ok (.iconst 1, 1)) ∧ (decode cJx35411_next_0502b 53 = .ok (.iadd, 1)) ∧ (decode cJx35411_next_0502b 54 = .ok (.putfield 25, 3)) ∧ (decode cJx35411_next_0502b 57 = .ok (.aload_n 2, 1)) := by decide +kernel
theorem dJx35411_next_0502b_32 : decode cJx35411_next_0502b 32 = .ok (.getfield 37, 3) := db4_117.1
theorem dJx35411_next_0502b_35 : decode cJx35411_next_0502b 35 = .ok (.astore_n 2, 1) := db4_117.2.1
theorem dJx35411_next_0502b_36 : decode cJx35411_next_0502b 36 = .ok (.iload_n 1, 1) := db4_117.2.2.1
theorem dJx35411_next_0502b_37 : decode cJx35411_next_0502b 37 = .ok (.aload_n 2, 1) := db4_117.2.2.2.1
theorem dJx35411_next_0502b_38 : decode cJx35411_next_0502b 38 = .ok (.arraylength, 1) := db4_117.2.2.2.2.1
theorem dJx35411_next_0502b_39 : decode cJx35411_next_0502b 39 = .ok (.if_icmp .lt 11, 3) := db4_117.2.2.2.2.2.1
theorem dJx35411_next_0502b_42 : decode cJx35411_next_0502b 42 = .ok (.new 41, 3) := db4_117.2.2.2.2.2.2.1
theorem dJx35411_next_0502b_45 : decode cJx35411_next_0502b 45 = .ok (.dup, 1) := db4_117.2.2.2.2.2.2.2.1
theorem dJx35411_next_0502b_46 : decode cJx35411_next_0502b 46 = .ok (.invokespecial 43, 3) := db4_117.2.2.2.2.2.2.2.2.1
theorem dJx35411_next_0502b_49 : decode cJx35411_next_0502b 49 = .ok (.athrow, 1) := db4_117.2.2.2.2.2.2.2.2.2.1
theorem dJx35411_next_0502b_50 : decode cJx35411_next_0502b 50 = .ok (.aload_n 0, 1) := db4_117.2.2.2.2.2.2.2.2.2.2.1
theorem dJx35411_next_0502b_51 : decode cJx35411_next_0502b 51 = .ok (.iload_n 1, 1) := db4_117.2.2.2.2.2.2.2.2.2.2.2.1
theorem dJx35411_next_0502b_52 : decode cJx35411_next_0502b 52 = .ok (.iconst 1, 1) := db4_117.2.2.2.2.2.2.2.2.2.2.2.2.1
theorem dJx35411_next_0502b_53 : decode cJx35411_next_0502b 53 = .ok (.iadd, 1) := db4_117.2.2.2.2.2.2.2.2.2.2.2.2.2.1
theorem dJx35411_next_0502b_54 : decode cJx35411_next_0502b 54 = .ok (.putfield 25, 3) := db4_117.2.2.2.2.2.2.2.2.2.2.2.2.2.2.1
theorem dJx35411_next_0502b_57 : decode cJx35411_next_0502b 57 = .ok (.aload_n 2, 1) := db4_117.2.2.2.2.2.2.2.2.2.2.2.2.2.2.2
theorem db4_118 : (decode cJx35411_next_0502b 58 = .ok (.aload_n 0, 1)) ∧ (decode cJx35411_next_0502b 59 = .ok (.iload_n 1, 1)) ∧ (decode cJx35411_next_0502b 60 = .ok (.dup_x1, 1)) ∧ (decode cJx35411_next_0502b 61 = .ok (.putfield 13, 3)) ∧ (decode cJx35411_next_0502b 64 = .ok (.aaload, 1)) ∧ (decode cJx35411_next_0502b 65 = .ok (.areturn, 1)) := by decide +kernel
theorem dJx35411_next_0502b_58 : decode cJx35411_next_0502b 58 = .ok (.aload_n 0, 1) := db4_118.1
theorem dJx35411_next_0502b_59 : decode cJx35411_next_0502b 59 = .ok (.iload_n 1, 1) := db4_118.2.1
theorem dJx35411_next_0502b_60 : decode cJx35411_next_0502b 60 = .ok (.dup_x1, 1) := db4_118.2.2.1
theorem dJx35411_next_0502b_61 : decode cJx35411_next_0502b 61 = .ok (.putfield 13, 3) := db4_118.2.2.2.1
theorem dJx35411_next_0502b_64 : decode cJx35411_next_0502b 64 = .ok (.aaload, 1) := db4_118.2.2.2.2.1
theorem dJx35411_next_0502b_65 : decode cJx35411_next_0502b 65 = .ok (.areturn, 1) := db4_118.2.2.2.2.2
theorem db4_119 : (decode cJx35411_checkForComodification_da8c8 0 = .ok (.aload_n 0, 1)) ∧ (decode cJx35411_checkForComodification_da8c8 1 = .ok (.getfield 1, 3)) ∧ (decode cJx35411_checkForComodification_da8c8 4 = .ok (.getfield 17, 3)) ∧ (decode cJx35411_checkForComodification_da8c8 7 = .ok (.aload_n 0, 1)) ∧ (decode cJx35411_checkForComodification_da8c8 8 = .ok (.getfield 22, 3)) ∧ (decode cJx35411_checkForComodification_da8c8 11 = .ok (.if_icmp .eq 11, 3)) ∧ (decode cJx35411_checkForComodification_da8c8 14 = .ok (.new 41, 3)) ∧ (decode cJx35411_checkForComodification_da8c8 17 = .ok (.dup, 1)) ∧ (decode cJx35411_checkForComodification_da8c8 18 = .ok (.invokespecial 43, 3)) ∧ (decode cJx35411_checkForComodification_da8c8 21 = .ok (.athrow, 1)) ∧ (decode cJx35411_checkForComodification_da8c8 22 = .ok (.return_, 1)) := by decide +kernel
theorem dJx35411_checkForComodification_da8c8_0 : decode cJx35411_checkForComodification_da8c8 0 = .ok (.aload_n 0, 1) := db4_119.1
theorem dJx35411_checkForComodification_da8c8_1 : decode cJx35411_checkForComodification_da8c8 1 = .ok (.getfield 1, 3) := db4_119.2.1
theorem dJx35411_checkForComodification_da8c8_4 : decode cJx35411_checkForComodification_da8c8 4 = .ok (.getfield 17, 3) := db4_119.2.2.1
theorem dJx35411_checkForComodification_da8c8_7 : decode cJx35411_checkForComodification_da8c8 7 = .ok (.aload_n 0, 1) := db4_119.2.2.2.1
theorem dJx35411_checkForComodification_da8c8_8 : decode cJx35411_checkForComodification_da8c8 8 = .ok (.getfield 22, 3) := db4_119.2.2.2.2.1
theorem dJx35411_checkForComodification_da8c8_11 : decode cJx35411_checkForComodification_da8c8 11 = .ok (.if_icmp .eq 11, 3) := db4_119.2.2.2.2.2.1
theorem dJx35411_checkForComodification_da8c8_14 : decode cJx35411_checkForComodification_da8c8 14 = .ok (.new 41, 3) := db4_119.2.2.2.2.2.2.1
theorem dJx35411_checkForComodification_da8c8_17 : decode cJx35411_checkForComodification_da8c8 17 = .ok (.dup, 1) := db4_119.2.2.2.2.2.2.2.1
theorem dJx35411_checkForComodification_da8c8_18 : decode cJx35411_checkForComodification_da8c8 18 = .ok (.invokespecial 43, 3) := db4_119.2.2.2.2.2.2.2.2.1
theorem dJx35411_checkForComodification_da8c8_21 : decode cJx35411_checkForComodification_da8c8 21 = .ok (.athrow, 1) := db4_119.2.2.2.2.2.2.2.2.2.1
theorem dJx35411_checkForComodification_da8c8_22 : decode cJx35411_checkForComodification_da8c8 22 = .ok (.return_, 1) := db4_119.2.2.2.2.2.2.2.2.2.2
theorem db4_120 : (decode cJx4a65c_init_da8c8 0 = .ok (.aload_n 0, 1)) ∧ (decode cJx4a65c_init_da8c8 1 = .ok (.invokespecial 1, 3)) ∧ (decode cJx4a65c_init_da8c8 4 = .ok (.aload_n 0, 1)) ∧ (decode cJx4a65c_init_da8c8 5 = .ok (.getstatic 39, 3)) ∧ (decode cJx4a65c_init_da8c8 8 = .ok (.putfield 9, 3)) ∧ (decode cJx4a65c_init_da8c8 11 = .ok (.return_, 1)) := by decide +kernel
theorem dJx4a65c_init_da8c8_0 : decode cJx4a65c_init_da8c8 0 = .ok (.aload_n 0, 1) := db4_120.1
theorem dJx4a65c_init_da8c8_1 : decode cJx4a65c_init_da8c8 1 = .ok (.invokespecial 1, 3) := db4_120.2.1
theorem dJx4a65c_init_da8c8_4 : decode cJx4a65c_init_da8c8 4 = .ok (.aload_n 0, 1) := db4_120.2.2.1
theorem dJx4a65c_init_da8c8_5 : decode cJx4a65c_init_da8c8 5 = .ok (.getstatic 39, 3) := db4_120.2.2.2.1
theorem dJx4a65c_init_da8c8_8 : decode cJx4a65c_init_da8c8 8 = .ok (.putfield 9, 3) := db4_120.2.2.2.2.1
theorem dJx4a65c_init_da8c8_11 : decode cJx4a65c_init_da8c8 11 = .ok (.return_, 1) := db4_120.2.2.2.2.2
theorem db4_121 : (decode cJx4a65c_grow_92f84 0 = .ok (.aload_n 0, 1)) ∧ (decode cJx4a65c_grow_92f84 1 = .ok (.getfield 9, 3)) ∧ (decode cJx4a65c_grow_92f84 4 = .ok (.arraylength, 1)) ∧ (decode cJx4a65c_grow_92f84 5 = .ok (.istore_n 2, 1)) ∧ (decode cJx4a65c_grow_92f84 6 = .ok (.iload_n 2, 1)) ∧ (decode cJx4a65c_grow_92f84 7 = .ok (.ifCond .gt 13, 3)) ∧ (decode cJx4a65c_grow_92f84 10 = .ok (.aload_n 0, 1)) ∧ (decode cJx4a65c_grow_92f84 11 = .ok (.getfield 9, 3)) ∧ (decode cJx4a65c_grow_92f84 14 = .ok (.getstatic 39, 3)) ∧ (decode cJx4a65c_grow_92f84 17 = .ok (.if_acmp .eq 28, 3)) ∧ (decode cJx4a65c_grow_92f84 20 = .ok (.iload_n 2, 1)) ∧ (decode cJx4a65c_grow_92f84 21 = .ok (.iload_n 1, 1)) ∧ (decode cJx4a65c_grow_92f84 22 = .ok (.iload_n 2, 1)) ∧ (decode cJx4a65c_grow_92f84 23 = .ok (.isub, 1)) ∧ (decode cJx4a65c_grow_92f84 24 = .ok (.iload_n 2, 1)) ∧ (decode cJx4a65c_grow_92f84 25 = .ok (.iconst 1, 1)) := by decide +kernel
theorem dJx4a65c_grow_92f84_0 : decode cJx4a65c_grow_92f84 0 = .ok (.aload_n 0, 1) := db4_121.1
theorem dJx4a65c_grow_92f84_1 : decode cJx4a65c_grow_92f84 1 = .ok (.getfield 9, 3) := db4_121.2.1
theorem dJx4a65c_grow_92f84_4 : decode cJx4a65c_grow_92f84 4 = .ok (.arraylength, 1) := db4_121.2.2.1
theorem dJx4a65c_grow_92f84_5 : decode cJx4a65c_grow_92f84 5 = .ok (.istore_n 2, 1) := db4_121.2.2.2.1
theorem dJx4a65c_grow_92f84_6 : decode cJx4a65c_grow_92f84 6 = .ok (.iload_n 2, 1) := db4_121.2.2.2.2.1
theorem dJx4a65c_grow_92f84_7 : decode cJx4a65c_grow_92f84 7 = .ok (.ifCond .gt 13, 3) := db4_121.2.2.2.2.2.1
theorem dJx4a65c_grow_92f84_10 : decode cJx4a65c_grow_92f84 10 = .ok (.aload_n 0, 1) := db4_121.2.2.2.2.2.2.1
theorem dJx4a65c_grow_92f84_11 : decode cJx4a65c_grow_92f84 11 = .ok (.getfield 9, 3) := db4_121.2.2.2.2.2.2.2.1
theorem dJx4a65c_grow_92f84_14 : decode cJx4a65c_grow_92f84 14 = .ok (.getstatic 39, 3) := db4_121.2.2.2.2.2.2.2.2.1
theorem dJx4a65c_grow_92f84_17 : decode cJx4a65c_grow_92f84 17 = .ok (.if_acmp .eq 28, 3) := db4_121.2.2.2.2.2.2.2.2.2.1
theorem dJx4a65c_grow_92f84_20 : decode cJx4a65c_grow_92f84 20 = .ok (.iload_n 2, 1) := db4_121.2.2.2.2.2.2.2.2.2.2.1
theorem dJx4a65c_grow_92f84_21 : decode cJx4a65c_grow_92f84 21 = .ok (.iload_n 1, 1) := db4_121.2.2.2.2.2.2.2.2.2.2.2.1
theorem dJx4a65c_grow_92f84_22 : decode cJx4a65c_grow_92f84 22 = .ok (.iload_n 2, 1) := db4_121.2.2.2.2.2.2.2.2.2.2.2.2.1
theorem dJx4a65c_grow_92f84_23 : decode cJx4a65c_grow_92f84 23 = .ok (.isub, 1) := db4_121.2.2.2.2.2.2.2.2.2.2.2.2.2.1
theorem dJx4a65c_grow_92f84_24 : decode cJx4a65c_grow_92f84 24 = .ok (.iload_n 2, 1) := db4_121.2.2.2.2.2.2.2.2.2.2.2.2.2.2.1
theorem dJx4a65c_grow_92f84_25 : decode cJx4a65c_grow_92f84 25 = .ok (.iconst 1, 1) := db4_121.2.2.2.2.2.2.2.2.2.2.2.2.2.2.2
theorem db4_122 : (decode cJx4a65c_grow_92f84 26 = .ok (.ishr, 1)) ∧ (decode cJx4a65c_grow_92f84 27 = .ok (.invokestatic 73, 3)) ∧ (decode cJx4a65c_grow_92f84 30 = .ok (.istore_n 3, 1)) ∧ (decode cJx4a65c_grow_92f84 31 = .ok (.aload_n 0, 1)) ∧ (decode cJx4a65c_grow_92f84 32 = .ok (.aload_n 0, 1)) ∧ (decode cJx4a65c_grow_92f84 33 = .ok (.getfield 9, 3)) ∧ (decode cJx4a65c_grow_92f84 36 = .ok (.iload_n 3, 1)) ∧ (decode cJx4a65c_grow_92f84 37 = .ok (.invokestatic 66, 3)) ∧ (decode cJx4a65c_grow_92f84 40 = .ok (.dup_x1, 1)) ∧ (decode cJx4a65c_grow_92f84 41 = .ok (.putfield 9, 3)) ∧ (decode cJx4a65c_grow_92f84 44 = .ok (.areturn, 1)) ∧ (decode cJx4a65c_grow_92f84 45 = .ok (.aload_n 0, 1)) ∧ (decode cJx4a65c_grow_92f84 46 = .ok (.bipush 10, 2)) ∧ (decode cJx4a65c_grow_92f84 48 = .ok (.iload_n 1, 1)) ∧ (decode cJx4a65c_grow_92f84 49 = .ok (.invokestatic 79, 3)) ∧ (decode cJx4a65c_grow_92f84 52 = .ok (.anewarray 7, 3)) := by decide +kernel
theorem dJx4a65c_grow_92f84_26 : decode cJx4a65c_grow_92f84 26 = .ok (.ishr, 1) := db4_122.1
theorem dJx4a65c_grow_92f84_27 : decode cJx4a65c_grow_92f84 27 = .ok (.invokestatic 73, 3) := db4_122.2.1
theorem dJx4a65c_grow_92f84_30 : decode cJx4a65c_grow_92f84 30 = .ok (.istore_n 3, 1) := db4_122.2.2.1
theorem dJx4a65c_grow_92f84_31 : decode cJx4a65c_grow_92f84 31 = .ok (.aload_n 0, 1) := db4_122.2.2.2.1
theorem dJx4a65c_grow_92f84_32 : decode cJx4a65c_grow_92f84 32 = .ok (.aload_n 0, 1) := db4_122.2.2.2.2.1
theorem dJx4a65c_grow_92f84_33 : decode cJx4a65c_grow_92f84 33 = .ok (.getfield 9, 3) := db4_122.2.2.2.2.2.1
theorem dJx4a65c_grow_92f84_36 : decode cJx4a65c_grow_92f84 36 = .ok (.iload_n 3, 1) := db4_122.2.2.2.2.2.2.1
theorem dJx4a65c_grow_92f84_37 : decode cJx4a65c_grow_92f84 37 = .ok (.invokestatic 66, 3) := db4_122.2.2.2.2.2.2.2.1
theorem dJx4a65c_grow_92f84_40 : decode cJx4a65c_grow_92f84 40 = .ok (.dup_x1, 1) := db4_122.2.2.2.2.2.2.2.2.1
theorem dJx4a65c_grow_92f84_41 : decode cJx4a65c_grow_92f84 41 = .ok (.putfield 9, 3) := db4_122.2.2.2.2.2.2.2.2.2.1
theorem dJx4a65c_grow_92f84_44 : decode cJx4a65c_grow_92f84 44 = .ok (.areturn, 1) := db4_122.2.2.2.2.2.2.2.2.2.2.1
theorem dJx4a65c_grow_92f84_45 : decode cJx4a65c_grow_92f84 45 = .ok (.aload_n 0, 1) := db4_122.2.2.2.2.2.2.2.2.2.2.2.1
theorem dJx4a65c_grow_92f84_46 : decode cJx4a65c_grow_92f84 46 = .ok (.bipush 10, 2) := db4_122.2.2.2.2.2.2.2.2.2.2.2.2.1
theorem dJx4a65c_grow_92f84_48 : decode cJx4a65c_grow_92f84 48 = .ok (.iload_n 1, 1) := db4_122.2.2.2.2.2.2.2.2.2.2.2.2.2.1
theorem dJx4a65c_grow_92f84_49 : decode cJx4a65c_grow_92f84 49 = .ok (.invokestatic 79, 3) := db4_122.2.2.2.2.2.2.2.2.2.2.2.2.2.2.1
theorem dJx4a65c_grow_92f84_52 : decode cJx4a65c_grow_92f84 52 = .ok (.anewarray 7, 3) := db4_122.2.2.2.2.2.2.2.2.2.2.2.2.2.2.2
theorem db4_123 : (decode cJx4a65c_grow_92f84 55 = .ok (.dup_x1, 1)) ∧ (decode cJx4a65c_grow_92f84 56 = .ok (.putfield 9, 3)) ∧ (decode cJx4a65c_grow_92f84 59 = .ok (.areturn, 1)) := by decide +kernel
theorem dJx4a65c_grow_92f84_55 : decode cJx4a65c_grow_92f84 55 = .ok (.dup_x1, 1) := db4_123.1
theorem dJx4a65c_grow_92f84_56 : decode cJx4a65c_grow_92f84 56 = .ok (.putfield 9, 3) := db4_123.2.1
theorem dJx4a65c_grow_92f84_59 : decode cJx4a65c_grow_92f84 59 = .ok (.areturn, 1) := db4_123.2.2
theorem db4_124 : (decode cJx4a65c_grow_d5877 0 = .ok (.aload_n 0, 1)) ∧ (decode cJx4a65c_grow_d5877 1 = .ok (.aload_n 0, 1)) ∧ (decode cJx4a65c_grow_d5877 2 = .ok (.getfield 48, 3)) ∧ (decode cJx4a65c_grow_d5877 5 = .ok (.iconst 1, 1)) ∧ (decode cJx4a65c_grow_d5877 6 = .ok (.iadd, 1)) ∧ (decode cJx4a65c_grow_d5877 7 = .ok (.invokevirtual 69, 3)) ∧ (decode cJx4a65c_grow_d5877 10 = .ok (.areturn, 1)) := by decide +kernel
theorem dJx4a65c_grow_d5877_0 : decode cJx4a65c_grow_d5877 0 = .ok (.aload_n 0, 1) := db4_124.1
theorem dJx4a65c_grow_d5877_1 : decode cJx4a65c_grow_d5877 1 = .ok (.aload_n 0, 1) := db4_124.2.1
theorem dJx4a65c_grow_d5877_2 : decode cJx4a65c_grow_d5877 2 = .ok (.getfield 48, 3) := db4_124.2.2.1
theorem dJx4a65c_grow_d5877_5 : decode cJx4a65c_grow_d5877 5 = .ok (.iconst 1, 1) := db4_124.2.2.2.1
theorem dJx4a65c_grow_d5877_6 : decode cJx4a65c_grow_d5877 6 = .ok (.iadd, 1) := db4_124.2.2.2.2.1
theorem dJx4a65c_grow_d5877_7 : decode cJx4a65c_grow_d5877 7 = .ok (.invokevirtual 69, 3) := db4_124.2.2.2.2.2.1
theorem dJx4a65c_grow_d5877_10 : decode cJx4a65c_grow_d5877 10 = .ok (.areturn, 1) := db4_124.2.2.2.2.2.2
theorem db4_125 : (decode cJx4a65c_elementData_915e3 0 = .ok (.aload_n 0, 1)) ∧ (decode cJx4a65c_elementData_915e3 1 = .ok (.getfield 9, 3)) ∧ (decode cJx4a65c_elementData_915e3 4 = .ok (.iload_n 1, 1)) ∧ (decode cJx4a65c_elementData_915e3 5 = .ok (.aaload, 1)) ∧ (decode cJx4a65c_elementData_915e3 6 = .ok (.areturn, 1)) := by decide +kernel
theorem dJx4a65c_elementData_915e3_0 : decode cJx4a65c_elementData_915e3 0 = .ok (.aload_n 0, 1) := db4_125.1
theorem dJx4a65c_elementData_915e3_1 : decode cJx4a65c_elementData_915e3 1 = .ok (.getfield 9, 3) := db4_125.2.1
theorem dJx4a65c_elementData_915e3_4 : decode cJx4a65c_elementData_915e3 4 = .ok (.iload_n 1, 1) := db4_125.2.2.1
theorem dJx4a65c_elementData_915e3_5 : decode cJx4a65c_elementData_915e3 5 = .ok (.aaload, 1) := db4_125.2.2.2.1
theorem dJx4a65c_elementData_915e3_6 : decode cJx4a65c_elementData_915e3 6 = .ok (.areturn, 1) := db4_125.2.2.2.2
theorem db4_126 : (decode cJx4a65c_get_915e3 0 = .ok (.iload_n 1, 1)) ∧ (decode cJx4a65c_get_915e3 1 = .ok (.aload_n 0, 1)) ∧ (decode cJx4a65c_get_915e3 2 = .ok (.getfield 48, 3)) ∧ (decode cJx4a65c_get_915e3 5 = .ok (.invokestatic 118, 3)) ∧ (decode cJx4a65c_get_915e3 8 = .ok (.pop, 1)) ∧ (decode cJx4a65c_get_915e3 9 = .ok (.aload_n 0, 1)) ∧ (decode cJx4a65c_get_915e3 10 = .ok (.iload_n 1, 1)) ∧ (decode cJx4a65c_get_915e3 11 = .ok (.invokevirtual 123, 3)) ∧ (decode cJx4a65c_get_915e3 14 = .ok (.areturn, 1)) := by decide +kernel
theorem dJx4a65c_get_915e3_0 : decode cJx4a65c_get_915e3 0 = .ok (.iload_n 1, 1) := db4_126.1
theorem dJx4a65c_get_915e3_1 : decode cJx4a65c_get_915e3 1 = .ok (.aload_n 0, 1) := db4_126.2.1
theorem dJx4a65c_get_915e3_2 : decode cJx4a65c_get_915e3 2 = .ok (.getfield 48, 3) := db4_126.2.2.1
theorem dJx4a65c_get_915e3_5 : decode cJx4a65c_get_915e3 5 = .ok (.invokestatic 118, 3) := db4_126.2.2.2.1
theorem dJx4a65c_get_915e3_8 : decode cJx4a65c_get_915e3 8 = .ok (.pop, 1) := db4_126.2.2.2.2.1
theorem dJx4a65c_get_915e3_9 : decode cJx4a65c_get_915e3 9 = .ok (.aload_n 0, 1) := db4_126.2.2.2.2.2.1
theorem dJx4a65c_get_915e3_10 : decode cJx4a65c_get_915e3 10 = .ok (.iload_n 1, 1) := db4_126.2.2.2.2.2.2.1
theorem dJx4a65c_get_915e3_11 : decode cJx4a65c_get_915e3 11 = .ok (.invokevirtual 123, 3) := db4_126.2.2.2.2.2.2.2.1
theorem dJx4a65c_get_915e3_14 : decode cJx4a65c_get_915e3 14 = .ok (.areturn, 1) := db4_126.2.2.2.2.2.2.2.2
theorem db4_127 : (decode cJx4a65c_add_72be8 0 = .ok (.iload_n 3, 1)) ∧ (decode cJx4a65c_add_72be8 1 = .ok (.aload_n 2, 1)) ∧ (decode cJx4a65c_add_72be8 2 = .ok (.arraylength, 1)) ∧ (decode cJx4a65c_add_72be8 3 = .ok (.if_icmp .ne 8, 3)) ∧ (decode cJx4a65c_add_72be8 6 = .ok (.aload_n 0, 1)) ∧ (decode cJx4a65c_add_72be8 7 = .ok (.invokevirtual 129, 3)) ∧ (decode cJx4a65c_add_72be8 10 = .ok (.astore_n 2, 1)) ∧ (decode cJx4a65c_add_72be8 11 = .ok (.aload_n 2, 1)) ∧ (decode cJx4a65c_add_72be8 12 = .ok (.iload_n 3, 1)) ∧ (decode cJx4a65c_add_72be8 13 = .ok (.aload_n 1, 1)) ∧ (decode cJx4a65c_add_72be8 14 = .ok (.aastore, 1)) ∧ (decode cJx4a65c_add_72be8 15 = .ok (.aload_n 0, 1)) ∧ (decode cJx4a65c_add_72be8 16 = .ok (.iload_n 3, 1)) ∧ (decode cJx4a65c_add_72be8 17 = .ok (.iconst 1, 1)) ∧ (decode cJx4a65c_add_72be8 18 = .ok (.iadd, 1)) ∧ (decode cJx4a65c_add_72be8 19 = .ok (.putfield 48, 3)) := by decide +kernel
theorem dJx4a65c_add_72be8_0 : decode cJx4a65c_add_72be8 0 = .ok (.iload_n 3, 1) := db4_127.1
theorem dJx4a65c_add_72be8_1 : decode cJx4a65c_add_72be8 1 = .ok (.aload_n 2, 1) := db4_127.2.1
theorem dJx4a65c_add_72be8_2 : decode cJx4a65c_add_72be8 2 = .ok (.arraylength, 1) := db4_127.2.2.1
theorem dJx4a65c_add_72be8_3 : decode cJx4a65c_add_72be8 3 = .ok (.if_icmp .ne 8, 3) := db4_127.2.2.2.1
theorem dJx4a65c_add_72be8_6 : decode cJx4a65c_add_72be8 6 = .ok (.aload_n 0, 1) := db4_127.2.2.2.2.1
theorem dJx4a65c_add_72be8_7 : decode cJx4a65c_add_72be8 7 = .ok (.invokevirtual 129, 3) := db4_127.2.2.2.2.2.1
theorem dJx4a65c_add_72be8_10 : decode cJx4a65c_add_72be8 10 = .ok (.astore_n 2, 1) := db4_127.2.2.2.2.2.2.1
theorem dJx4a65c_add_72be8_11 : decode cJx4a65c_add_72be8 11 = .ok (.aload_n 2, 1) := db4_127.2.2.2.2.2.2.2.1
theorem dJx4a65c_add_72be8_12 : decode cJx4a65c_add_72be8 12 = .ok (.iload_n 3, 1) := db4_127.2.2.2.2.2.2.2.2.1
theorem dJx4a65c_add_72be8_13 : decode cJx4a65c_add_72be8 13 = .ok (.aload_n 1, 1) := db4_127.2.2.2.2.2.2.2.2.2.1
theorem dJx4a65c_add_72be8_14 : decode cJx4a65c_add_72be8 14 = .ok (.aastore, 1) := db4_127.2.2.2.2.2.2.2.2.2.2.1
theorem dJx4a65c_add_72be8_15 : decode cJx4a65c_add_72be8 15 = .ok (.aload_n 0, 1) := db4_127.2.2.2.2.2.2.2.2.2.2.2.1
theorem dJx4a65c_add_72be8_16 : decode cJx4a65c_add_72be8 16 = .ok (.iload_n 3, 1) := db4_127.2.2.2.2.2.2.2.2.2.2.2.2.1
theorem dJx4a65c_add_72be8_17 : decode cJx4a65c_add_72be8 17 = .ok (.iconst 1, 1) := db4_127.2.2.2.2.2.2.2.2.2.2.2.2.2.1
theorem dJx4a65c_add_72be8_18 : decode cJx4a65c_add_72be8 18 = .ok (.iadd, 1) := db4_127.2.2.2.2.2.2.2.2.2.2.2.2.2.2.1
theorem dJx4a65c_add_72be8_19 : decode cJx4a65c_add_72be8 19 = .ok (.putfield 48, 3) := db4_127.2.2.2.2.2.2.2.2.2.2.2.2.2.2.2
theorem dJx4a65c_add_72be8_22 : decode cJx4a65c_add_72be8 22 = .ok (.return_, 1) := by decide +kernel
theorem db4_128 : (decode cJx4a65c_add_9ea2d 0 = .ok (.aload_n 0, 1)) ∧ (decode cJx4a65c_add_9ea2d 1 = .ok (.dup, 1)) ∧ (decode cJx4a65c_add_9ea2d 2 = .ok (.getfield 63, 3)) ∧ (decode cJx4a65c_add_9ea2d 5 = .ok (.iconst 1, 1)) ∧ (decode cJx4a65c_add_9ea2d 6 = .ok (.iadd, 1)) ∧ (decode cJx4a65c_add_9ea2d 7 = .ok (.putfield 63, 3)) ∧ (decode cJx4a65c_add_9ea2d 10 = .ok (.aload_n 0, 1)) ∧ (decode cJx4a65c_add_9ea2d 11 = .ok (.aload_n 1, 1)) ∧ (decode cJx4a65c_add_9ea2d 12 = .ok (.aload_n 0, 1)) ∧ (decode cJx4a65c_add_9ea2d 13 = .ok (.getfield 9, 3)) ∧ (decode cJx4a65c_add_9ea2d 16 = .ok (.aload_n 0, 1)) ∧ (decode cJx4a65c_add_9ea2d 17 = .ok (.getfield 48, 3)) ∧ (decode cJx4a65c_add_9ea2d 20 = .ok (.invokevirtual 131, 3)) ∧ (decode cJx4a65c_add_9ea2d 23 = .ok (.iconst 1, 1)) ∧ (decode cJx4a65c_add_9ea2d 24 = .ok (.ireturn, 1)) := by decide +kernel
theorem dJx4a65c_add_9ea2d_0 : decode cJx4a65c_add_9ea2d 0 = .ok (.aload_n 0, 1) := db4_128.1
theorem dJx4a65c_add_9ea2d_1 : decode cJx4a65c_add_9ea2d 1 = .ok (.dup, 1) := db4_128.2.1
theorem dJx4a65c_add_9ea2d_2 : decode cJx4a65c_add_9ea2d 2 = .ok (.getfield 63, 3) := db4_128.2.2.1
theorem dJx4a65c_add_9ea2d_5 : decode cJx4a65c_add_9ea2d 5 = .ok (.iconst 1, 1) := db4_128.2.2.2.1
theorem dJx4a65c_add_9ea2d_6 : decode cJx4a65c_add_9ea2d 6 = .ok (.iadd, 1) := db4_128.2.2.2.2.1
theorem dJx4a65c_add_9ea2d_7 : decode cJx4a65c_add_9ea2d 7 = .ok (.putfield 63, 3) := db4_128.2.2.2.2.2.1
theorem dJx4a65c_add_9ea2d_10 : decode cJx4a65c_add_9ea2d 10 = .ok (.aload_n 0, 1) := db4_128.2.2.2.2.2.2.1
theorem dJx4a65c_add_9ea2d_11 : decode cJx4a65c_add_9ea2d 11 = .ok (.aload_n 1, 1) := db4_128.2.2.2.2.2.2.2.1
theorem dJx4a65c_add_9ea2d_12 : decode cJx4a65c_add_9ea2d 12 = .ok (.aload_n 0, 1) := db4_128.2.2.2.2.2.2.2.2.1
theorem dJx4a65c_add_9ea2d_13 : decode cJx4a65c_add_9ea2d 13 = .ok (.getfield 9, 3) := db4_128.2.2.2.2.2.2.2.2.2.1
theorem dJx4a65c_add_9ea2d_16 : decode cJx4a65c_add_9ea2d 16 = .ok (.aload_n 0, 1) := db4_128.2.2.2.2.2.2.2.2.2.2.1
theorem dJx4a65c_add_9ea2d_17 : decode cJx4a65c_add_9ea2d 17 = .ok (.getfield 48, 3) := db4_128.2.2.2.2.2.2.2.2.2.2.2.1
theorem dJx4a65c_add_9ea2d_20 : decode cJx4a65c_add_9ea2d 20 = .ok (.invokevirtual 131, 3) := db4_128.2.2.2.2.2.2.2.2.2.2.2.2.1
theorem dJx4a65c_add_9ea2d_23 : decode cJx4a65c_add_9ea2d 23 = .ok (.iconst 1, 1) := db4_128.2.2.2.2.2.2.2.2.2.2.2.2.2.1
theorem dJx4a65c_add_9ea2d_24 : decode cJx4a65c_add_9ea2d 24 = .ok (.ireturn, 1) := db4_128.2.2.2.2.2.2.2.2.2.2.2.2.2.2
theorem db4_129 : (decode cJx4a65c_iterator_32c93 0 = .ok (.new 267, 3)) ∧ (decode cJx4a65c_iterator_32c93 3 = .ok (.dup, 1)) ∧ (decode cJx4a65c_iterator_32c93 4 = .ok (.aload_n 0, 1)) ∧ (decode cJx4a65c_iterator_32c93 5 = .ok (.invokespecial 269, 3)) ∧ (decode cJx4a65c_iterator_32c93 8 = .ok (.areturn, 1)) := by decide +kernel
theorem dJx4a65c_iterator_32c93_0 : decode cJx4a65c_iterator_32c93 0 = .ok (.new 267, 3) := db4_129.1
theorem dJx4a65c_iterator_32c93_3 : decode cJx4a65c_iterator_32c93 3 = .ok (.dup, 1) := db4_129.2.1
theorem dJx4a65c_iterator_32c93_4 : decode cJx4a65c_iterator_32c93 4 = .ok (.aload_n 0, 1) := db4_129.2.2.1
theorem dJx4a65c_iterator_32c93_5 : decode cJx4a65c_iterator_32c93 5 = .ok (.invokespecial 269, 3) := db4_129.2.2.2.1
theorem dJx4a65c_iterator_32c93_8 : decode cJx4a65c_iterator_32c93 8 = .ok (.areturn, 1) := db4_129.2.2.2.2
theorem db4_130 : (decode cJ7_rangeCheck_23922 0 = .ok (.iload_n 1, 1)) ∧ (decode cJ7_rangeCheck_23922 1 = .ok (.iload_n 2, 1)) ∧ (decode cJ7_rangeCheck_23922 2 = .ok (.if_icmp .le 44, 3)) ∧ (decode cJ7_rangeCheck_23922 5 = .ok (.new 43, 3)) ∧ (decode cJ7_rangeCheck_23922 8 = .ok (.dup, 1)) ∧ (decode cJ7_rangeCheck_23922 9 = .ok (.new 45, 3)) ∧ (decode cJ7_rangeCheck_23922 12 = .ok (.dup, 1)) ∧ (decode cJ7_rangeCheck_23922 13 = .ok (.invokespecial 47, 3)) ∧ (decode cJ7_rangeCheck_23922 16 = .ok (.ldc 48, 2)) ∧ (decode cJ7_rangeCheck_23922 18 = .ok (.invokevirtual 50, 3)) ∧ (decode cJ7_rangeCheck_23922 21 = .ok (.iload_n 1, 1)) ∧ (decode cJ7_rangeCheck_23922 22 = .ok (.invokevirtual 54, 3)) ∧ (decode cJ7_rangeCheck_23922 25 = .ok (.ldc 57, 2)) ∧ (decode cJ7_rangeCheck_23922 27 = .ok (.invokevirtual 50, 3)) ∧ (decode cJ7_rangeCheck_23922 30 = .ok (.iload_n 2, 1)) ∧ (decode cJ7_rangeCheck_23922 31 = .ok (.invokevirtual 54, 3)) := by decide +kernel
theorem dJ7_rangeCheck_23922_0 : decode cJ7_rangeCheck_23922 0 = .ok (.iload_n 1, 1) := db4_130.1
theorem dJ7_rangeCheck_23922_1 : decode cJ7_rangeCheck_23922 1 = .ok (.iload_n 2, 1) := db4_130.2.1
theorem dJ7_rangeCheck_23922_2 : decode cJ7_rangeCheck_23922 2 = .ok (.if_icmp .le 44, 3) := db4_130.2.2.1
theorem dJ7_rangeCheck_23922_5 : decode cJ7_rangeCheck_23922 5 = .ok (.new 43, 3) := db4_130.2.2.2.1
theorem dJ7_rangeCheck_23922_8 : decode cJ7_rangeCheck_23922 8 = .ok (.dup, 1) := db4_130.2.2.2.2.1
theorem dJ7_rangeCheck_23922_9 : decode cJ7_rangeCheck_23922 9 = .ok (.new 45, 3) := db4_130.2.2.2.2.2.1
theorem dJ7_rangeCheck_23922_12 : decode cJ7_rangeCheck_23922 12 = .ok (.dup, 1) := db4_130.2.2.2.2.2.2.1
theorem dJ7_rangeCheck_23922_13 : decode cJ7_rangeCheck_23922 13 = .ok (.invokespecial 47, 3) := db4_130.2.2.2.2.2.2.2.1
theorem dJ7_rangeCheck_23922_16 : decode cJ7_rangeCheck_23922 16 = .ok (.ldc 48, 2) := db4_130.2.2.2.2.2.2.2.2.1
theorem dJ7_rangeCheck_23922_18 : decode cJ7_rangeCheck_23922 18 = .ok (.invokevirtual 50, 3) := db4_130.2.2.2.2.2.2.2.2.2.1
theorem dJ7_rangeCheck_23922_21 : decode cJ7_rangeCheck_23922 21 = .ok (.iload_n 1, 1) := db4_130.2.2.2.2.2.2.2.2.2.2.1
theorem dJ7_rangeCheck_23922_22 : decode cJ7_rangeCheck_23922 22 = .ok (.invokevirtual 54, 3) := db4_130.2.2.2.2.2.2.2.2.2.2.2.1
theorem dJ7_rangeCheck_23922_25 : decode cJ7_rangeCheck_23922 25 = .ok (.ldc 57, 2) := db4_130.2.2.2.2.2.2.2.2.2.2.2.2.1
theorem dJ7_rangeCheck_23922_27 : decode cJ7_rangeCheck_23922 27 = .ok (.invokevirtual 50, 3) := db4_130.2.2.2.2.2.2.2.2.2.2.2.2.2.1
theorem dJ7_rangeCheck_23922_30 : decode cJ7_rangeCheck_23922 30 = .ok (.iload_n 2, 1) := db4_130.2.2.2.2.2.2.2.2.2.2.2.2.2.2.1
theorem dJ7_rangeCheck_23922_31 : decode cJ7_rangeCheck_23922 31 = .ok (.invokevirtual 54, 3) := db4_130.2.2.2.2.2.2.2.2.2.2.2.2.2.2.2
theorem db4_131 : (decode cJ7_rangeCheck_23922 34 = .ok (.ldc 59, 2)) ∧ (decode cJ7_rangeCheck_23922 36 = .ok (.invokevirtual 50, 3)) ∧ (decode cJ7_rangeCheck_23922 39 = .ok (.invokevirtual 61, 3)) ∧ (decode cJ7_rangeCheck_23922 42 = .ok (.invokespecial 65, 3)) ∧ (decode cJ7_rangeCheck_23922 45 = .ok (.athrow, 1)) ∧ (decode cJ7_rangeCheck_23922 46 = .ok (.iload_n 1, 1)) ∧ (decode cJ7_rangeCheck_23922 47 = .ok (.ifCond .ge 12, 3)) ∧ (decode cJ7_rangeCheck_23922 50 = .ok (.new 68, 3)) ∧ (decode cJ7_rangeCheck_23922 53 = .ok (.dup, 1)) ∧ (decode cJ7_rangeCheck_23922 54 = .ok (.iload_n 1, 1)) ∧ (decode cJ7_rangeCheck_23922 55 = .ok (.invokespecial 70, 3)) ∧ (decode cJ7_rangeCheck_23922 58 = .ok (.athrow, 1)) ∧ (decode cJ7_rangeCheck_23922 59 = .ok (.iload_n 2, 1)) ∧ (decode cJ7_rangeCheck_23922 60 = .ok (.iload_n 0, 1)) ∧ (decode cJ7_rangeCheck_23922 61 = .ok (.if_icmp .le 12, 3)) ∧ (decode cJ7_rangeCheck_23922 64 = .ok (.new 68, 3)) := by decide +kernel
theorem dJ7_rangeCheck_23922_34 : decode cJ7_rangeCheck_23922 34 = .ok (.ldc 59, 2) := db4_131.1
theorem dJ7_rangeCheck_23922_36 : decode cJ7_rangeCheck_23922 36 = .ok (.invokevirtual 50, 3) := db4_131.2.1
theorem dJ7_rangeCheck_23922_39 : decode cJ7_rangeCheck_23922 39 = .ok (.invokevirtual 61, 3) := db4_131.2.2.1
theorem dJ7_rangeCheck_23922_42 : decode cJ7_rangeCheck_23922 42 = .ok (.invokespecial 65, 3) := db4_131.2.2.2.1
theorem dJ7_rangeCheck_23922_45 : decode cJ7_rangeCheck_23922 45 = .ok (.athrow, 1) := db4_131.2.2.2.2.1
theorem dJ7_rangeCheck_23922_46 : decode cJ7_rangeCheck_23922 46 = .ok (.iload_n 1, 1) := db4_131.2.2.2.2.2.1
theorem dJ7_rangeCheck_23922_47 : decode cJ7_rangeCheck_23922 47 = .ok (.ifCond .ge 12, 3) := db4_131.2.2.2.2.2.2.1
theorem dJ7_rangeCheck_23922_50 : decode cJ7_rangeCheck_23922 50 = .ok (.new 68, 3) := db4_131.2.2.2.2.2.2.2.1
theorem dJ7_rangeCheck_23922_53 : decode cJ7_rangeCheck_23922 53 = .ok (.dup, 1) := db4_131.2.2.2.2.2.2.2.2.1
theorem dJ7_rangeCheck_23922_54 : decode cJ7_rangeCheck_23922 54 = .ok (.iload_n 1, 1) := db4_131.2.2.2.2.2.2.2.2.2.1
theorem dJ7_rangeCheck_23922_55 : decode cJ7_rangeCheck_23922 55 = .ok (.invokespecial 70, 3) := db4_131.2.2.2.2.2.2.2.2.2.2.1
theorem dJ7_rangeCheck_23922_58 : decode cJ7_rangeCheck_23922 58 = .ok (.athrow, 1) := db4_131.2.2.2.2.2.2.2.2.2.2.2.1
theorem dJ7_rangeCheck_23922_59 : decode cJ7_rangeCheck_23922 59 = .ok (.iload_n 2, 1) := db4_131.2.2.2.2.2.2.2.2.2.2.2.2.1
theorem dJ7_rangeCheck_23922_60 : decode cJ7_rangeCheck_23922 60 = .ok (.iload_n 0, 1) := db4_131.2.2.2.2.2.2.2.2.2.2.2.2.2.1
theorem dJ7_rangeCheck_23922_61 : decode cJ7_rangeCheck_23922 61 = .ok (.if_icmp .le 12, 3) := db4_131.2.2.2.2.2.2.2.2.2.2.2.2.2.2.1
theorem dJ7_rangeCheck_23922_64 : decode cJ7_rangeCheck_23922 64 = .ok (.new 68, 3) := db4_131.2.2.2.2.2.2.2.2.2.2.2.2.2.2.2
theorem db4_132 : (decode cJ7_rangeCheck_23922 67 = .ok (.dup, 1)) ∧ (decode cJ7_rangeCheck_23922 68 = .ok (.iload_n 2, 1)) ∧ (decode cJ7_rangeCheck_23922 69 = .ok (.invokespecial 70, 3)) ∧ (decode cJ7_rangeCheck_23922 72 = .ok (.athrow, 1)) ∧ (decode cJ7_rangeCheck_23922 73 = .ok (.return_, 1)) := by decide +kernel
theorem dJ7_rangeCheck_23922_67 : decode cJ7_rangeCheck_23922 67 = .ok (.dup, 1) := db4_132.1
theorem dJ7_rangeCheck_23922_68 : decode cJ7_rangeCheck_23922 68 = .ok (.iload_n 2, 1) := db4_132.2.1
theorem dJ7_rangeCheck_23922_69 : decode cJ7_rangeCheck_23922 69 = .ok (.invokespecial 70, 3) := db4_132.2.2.1
theorem dJ7_rangeCheck_23922_72 : decode cJ7_rangeCheck_23922 72 = .ok (.athrow, 1) := db4_132.2.2.2.1
theorem dJ7_rangeCheck_23922_73 : decode cJ7_rangeCheck_23922 73 = .ok (.return_, 1) := db4_132.2.2.2.2
theorem db4_133 : (decode cJ7_fill_eb02e 0 = .ok (.aload_n 0, 1)) ∧ (decode cJ7_fill_eb02e 1 = .ok (.arraylength, 1)) ∧ (decode cJ7_fill_eb02e 2 = .ok (.iload_n 1, 1)) ∧ (decode cJ7_fill_eb02e 3 = .ok (.iload_n 2, 1)) ∧ (decode cJ7_fill_eb02e 4 = .ok (.invokestatic 13, 3)) ∧ (decode cJ7_fill_eb02e 7 = .ok (.iload_n 1, 1)) ∧ (decode cJ7_fill_eb02e 8 = .ok (.istore 4, 2)) ∧ (decode cJ7_fill_eb02e 10 = .ok (.iload 4, 2)) ∧ (decode cJ7_fill_eb02e 12 = .ok (.iload_n 2, 1)) ∧ (decode cJ7_fill_eb02e 13 = .ok (.if_icmp .ge 14, 3)) ∧ (decode cJ7_fill_eb02e 16 = .ok (.aload_n 0, 1)) ∧ (decode cJ7_fill_eb02e 17 = .ok (.iload 4, 2)) ∧ (decode cJ7_fill_eb02e 19 = .ok (.iload_n 3, 1)) ∧ (decode cJ7_fill_eb02e 20 = .ok (.bastore, 1)) ∧ (decode cJ7_fill_eb02e 21 = .ok (.iinc 4 1, 3)) ∧ (decode cJ7_fill_eb02e 24 = .ok (.goto (-14), 3)) := by decide +kernel
theorem dJ7_fill_eb02e_0 : decode cJ7_fill_eb02e 0 = .ok (.aload_n 0, 1) := db4_133.1
theorem dJ7_fill_eb02e_1 : decode cJ7_fill_eb02e 1 = .ok (.arraylength, 1) := db4_133.2.1
theorem dJ7_fill_eb02e_2 : decode cJ7_fill_eb02e 2 = .ok (.iload_n 1, 1) := db4_133.2.2.1
theorem dJ7_fill_eb02e_3 : decode cJ7_fill_eb02e 3 = .ok (.iload_n 2, 1) := db4_133.2.2.2.1
theorem dJ7_fill_eb02e_4 : decode cJ7_fill_eb02e 4 = .ok (.invokestatic 13, 3) := db4_133.2.2.2.2.1
theorem dJ7_fill_eb02e_7 : decode cJ7_fill_eb02e 7 = .ok (.iload_n 1, 1) := db4_133.2.2.2.2.2.1
theorem dJ7_fill_eb02e_8 : decode cJ7_fill_eb02e 8 = .ok (.istore 4, 2) := db4_133.2.2.2.2.2.2.1
theorem dJ7_fill_eb02e_10 : decode cJ7_fill_eb02e 10 = .ok (.iload 4, 2) := db4_133.2.2.2.2.2.2.2.1
theorem dJ7_fill_eb02e_12 : decode cJ7_fill_eb02e 12 = .ok (.iload_n 2, 1) := db4_133.2.2.2.2.2.2.2.2.1
theorem dJ7_fill_eb02e_13 : decode cJ7_fill_eb02e 13 = .ok (.if_icmp .ge 14, 3) := db4_133.2.2.2.2.2.2.2.2.2.1
theorem dJ7_fill_eb02e_16 : decode cJ7_fill_eb02e 16 = .ok (.aload_n 0, 1) := db4_133.2.2.2.2.2.2.2.2.2.2.1
theorem dJ7_fill_eb02e_17 : decode cJ7_fill_eb02e 17 = .ok (.iload 4, 2) := db4_133.2.2.2.2.2.2.2.2.2.2.2.1
theorem dJ7_fill_eb02e_19 : decode cJ7_fill_eb02e 19 = .ok (.iload_n 3, 1) := db4_133.2.2.2.2.2.2.2.2.2.2.2.2.1
theorem dJ7_fill_eb02e_20 : decode cJ7_fill_eb02e 20 = .ok (.bastore, 1) := db4_133.2.2.2.2.2.2.2.2.2.2.2.2.2.1
theorem dJ7_fill_eb02e_21 : decode cJ7_fill_eb02e 21 = .ok (.iinc 4 1, 3) := db4_133.2.2.2.2.2.2.2.2.2.2.2.2.2.2.1
theorem dJ7_fill_eb02e_24 : decode cJ7_fill_eb02e 24 = .ok (.goto (-14), 3) := db4_133.2.2.2.2.2.2.2.2.2.2.2.2.2.2.2
theorem dJ7_fill_eb02e_27 : decode cJ7_fill_eb02e 27 = .ok (.return_, 1) := by decide +kernel
theorem db4_134 : (decode cJ7_copyOf_1904c 0 = .ok (.aload_n 0, 1)) ∧ (decode cJ7_copyOf_1904c 1 = .ok (.iload_n 1, 1)) ∧ (decode cJ7_copyOf_1904c 2 = .ok (.aload_n 0, 1)) ∧ (decode cJ7_copyOf_1904c 3 = .ok (.invokevirtual 86, 3)) ∧ (decode cJ7_copyOf_1904c 6 = .ok (.invokestatic 300, 3)) ∧ (decode cJ7_copyOf_1904c 9 = .ok (.areturn, 1)) := by decide +kernel
theorem dJ7_copyOf_1904c_0 : decode cJ7_copyOf_1904c 0 = .ok (.aload_n 0, 1) := db4_134.1
theorem dJ7_copyOf_1904c_1 : decode cJ7_copyOf_1904c 1 = .ok (.iload_n 1, 1) := db4_134.2.1
theorem dJ7_copyOf_1904c_2 : decode cJ7_copyOf_1904c 2 = .ok (.aload_n 0, 1) := db4_134.2.2.1
theorem dJ7_copyOf_1904c_3 : decode cJ7_copyOf_1904c 3 = .ok (.invokevirtual 86, 3) := db4_134.2.2.2.1
theorem dJ7_copyOf_1904c_6 : decode cJ7_copyOf_1904c 6 = .ok (.invokestatic 300, 3) := db4_134.2.2.2.2.1
theorem dJ7_copyOf_1904c_9 : decode cJ7_copyOf_1904c 9 = .ok (.areturn, 1) := db4_134.2.2.2.2.2
theorem db4_135 : (decode cJ7_copyOf_6403c 0 = .ok (.aload_n 2, 1)) ∧ (decode cJ7_copyOf_6403c 1 = .ok (.ldc 110, 2)) ∧ (decode cJ7_copyOf_6403c 3 = .ok (.if_acmp .ne 10, 3)) ∧ (decode cJ7_copyOf_6403c 6 = .ok (.iload_n 1, 1)) ∧ (decode cJ7_copyOf_6403c 7 = .ok (.anewarray 2, 3)) ∧ (decode cJ7_copyOf_6403c 10 = .ok (.goto 14, 3)) ∧ (decode cJ7_copyOf_6403c 13 = .ok (.aload_n 2, 1)) ∧ (decode cJ7_copyOf_6403c 14 = .ok (.invokevirtual 90, 3)) ∧ (decode cJ7_copyOf_6403c 17 = .ok (.iload_n 1, 1)) ∧ (decode cJ7_copyOf_6403c 18 = .ok (.invokestatic 95, 3)) ∧ (decode cJ7_copyOf_6403c 21 = .ok (.checkcast 110, 3)) ∧ (decode cJ7_copyOf_6403c 24 = .ok (.astore_n 3, 1)) ∧ (decode cJ7_copyOf_6403c 25 = .ok (.aload_n 0, 1)) ∧ (decode cJ7_copyOf_6403c 26 = .ok (.iconst 0, 1)) ∧ (decode cJ7_copyOf_6403c 27 = .ok (.aload_n 3, 1)) ∧ (decode cJ7_copyOf_6403c 28 = .ok (.iconst 0, 1)) := by decide +kernel
theorem dJ7_copyOf_6403c_0 : decode cJ7_copyOf_6403c 0 = .ok (.aload_n 2, 1) := db4_135.1
theorem dJ7_copyOf_6403c_1 : decode cJ7_copyOf_6403c 1 = .ok (.ldc 110, 2) := db4_135.2.1
theorem dJ7_copyOf_6403c_3 : decode cJ7_copyOf_6403c 3 = .ok (.if_acmp .ne 10, 3) := db4_135.2.2.1
theorem dJ7_copyOf_6403c_6 : decode cJ7_copyOf_6403c 6 = .ok (.iload_n 1, 1) := db4_135.2.2.2.1
theorem dJ7_copyOf_6403c_7 : decode cJ7_copyOf_6403c 7 = .ok (.anewarray 2, 3) := db4_135.2.2.2.2.1
theorem dJ7_copyOf_6403c_10 : decode cJ7_copyOf_6403c 10 = .ok (.goto 14, 3) := db4_135.2.2.2.2.2.1
theorem dJ7_copyOf_6403c_13 : decode cJ7_copyOf_6403c 13 = .ok (.aload_n 2, 1) := db4_135.2.2.2.2.2.2.1
theorem dJ7_copyOf_6403c_14 : decode cJ7_copyOf_6403c 14 = .ok (.invokevirtual 90, 3) := db4_135.2.2.2.2.2.2.2.1
theorem dJ7_copyOf_6403c_17 : decode cJ7_copyOf_6403c 17 = .ok (.iload_n 1, 1) := db4_135.2.2.2.2.2.2.2.2.1
theorem dJ7_copyOf_6403c_18 : decode cJ7_copyOf_6403c 18 = .ok (.invokestatic 95, 3) := db4_135.2.2.2.2.2.2.2.2.2.1
theorem dJ7_copyOf_6403c_21 : decode cJ7_copyOf_6403c 21 = .ok (.checkcast 110, 3) := db4_135.2.2.2.2.2.2.2.2.2.2.1
theorem dJ7_copyOf_6403c_24 : decode cJ7_copyOf_6403c 24 = .ok (.astore_n 3, 1) := db4_135.2.2.2.2.2.2.2.2.2.2.2.1
theorem dJ7_copyOf_6403c_25 : decode cJ7_copyOf_6403c 25 = .ok (.aload_n 0, 1) := db4_135.2.2.2.2.2.2.2.2.2.2.2.2.1
theorem dJ7_copyOf_6403c_26 : decode cJ7_copyOf_6403c 26 = .ok (.iconst 0, 1) := db4_135.2.2.2.2.2.2.2.2.2.2.2.2.2.1
theorem dJ7_copyOf_6403c_27 : decode cJ7_copyOf_6403c 27 = .ok (.aload_n 3, 1) := db4_135.2.2.2.2.2.2.2.2.2.2.2.2.2.2.1
theorem dJ7_copyOf_6403c_28 : decode cJ7_copyOf_6403c 28 = .ok (.iconst 0, 1) := db4_135.2.2.2.2.2.2.2.2.2.2.2.2.2.2.2
theorem db4_136 : (decode cJ7_copyOf_6403c 29 = .ok (.aload_n 0, 1)) ∧ (decode cJ7_copyOf_6403c 30 = .ok (.arraylength, 1)) ∧ (decode cJ7_copyOf_6403c 31 = .ok (.iload_n 1, 1)) := by decide +kernel
theorem dJ7_copyOf_6403c_29 : decode cJ7_copyOf_6403c 29 = .ok (.aload_n 0, 1) := db4_136.1
theorem dJ7_copyOf_6403c_30 : decode cJ7_copyOf_6403c 30 = .ok (.arraylength, 1) := db4_136.2.1
theorem dJ7_copyOf_6403c_31 : decode cJ7_copyOf_6403c 31 = .ok (.iload_n 1, 1) := db4_136.2.2

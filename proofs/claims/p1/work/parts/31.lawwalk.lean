def wp_law_415 (L : Nat) (xs : Nat → Int32) (k18 : Int32 → (Nat → Int32) → (Nat → Nat → Int32) → (Nat → Int32) → (Nat → Nat → Int32) → Prop) (y3 : Int32) (I : Nat → Int32) (A : Nat → Nat → Int32) (J : Nat → Int32) (B : Nat → Nat → Int32) : Prop := (∀ v415 : Int32, v415 = y3 + 3 → k18 v415 I A J B)
def wp_law_18 (L : Nat) (xs : Nat → Int32) : Nat → Int32 → (Nat → Int32) → (Nat → Nat → Int32) → (Nat → Int32) → (Nat → Nat → Int32) → Prop
  | 0, _, _, _, _, _ => False
  | n + 1, y3, I, A, J, B => ((((Int32.ofNat L) - 3) < y3 → True) ∧ (¬ ((Int32.ofNat L) - 3) < y3 → (vp_in y3 L ∧ ((((xs y3.toNatClampNeg) &&& 15) = 0 → (vp_in (y3 + 1) L ∧ (vp_in (y3 + 2) L ∧ (wp_TuneSetter_metre (xs (y3 + 1).toNatClampNeg) (xs (y3 + 2).toNatClampNeg) I A (fun r119 I119 A119 => (vp_in (y3 + 1) L ∧ (vp_in (y3 + 2) L ∧ (wp_TuneSetterModel_metre (xs (y3 + 1).toNatClampNeg) (xs (y3 + 2).toNatClampNeg) J B (fun r133 J133 B133 => ((r119 = r133 → wp_law_415 L xs (fun y3 I A J B => wp_law_18 L xs n y3 I A J B) y3 I119 A119 J133 B133) ∧ (¬ r119 = r133 → False))))))))))) ∧ (((xs y3.toNatClampNeg) &&& 15) = 1 → (vp_in (y3 + 1) L ∧ (wp_TuneSetter_unit (xs (y3 + 1).toNatClampNeg) I A (fun r147 I147 A147 => (vp_in (y3 + 1) L ∧ (wp_TuneSetterModel_unit (xs (y3 + 1).toNatClampNeg) J B (fun r156 J156 B156 => ((r147 = r156 → wp_law_415 L xs (fun y3 I A J B => wp_law_18 L xs n y3 I A J B) y3 I147 A147 J156 B156) ∧ (¬ r147 = r156 → False))))))))) ∧ (((xs y3.toNatClampNeg) &&& 15) = 2 → (vp_in (y3 + 1) L ∧ (wp_TuneSetter_key (xs (y3 + 1).toNatClampNeg) I A (fun r170 I170 A170 => (vp_in (y3 + 1) L ∧ (wp_TuneSetterModel_key (xs (y3 + 1).toNatClampNeg) J B (fun r179 J179 B179 => ((r170 = r179 → wp_law_415 L xs (fun y3 I A J B => wp_law_18 L xs n y3 I A J B) y3 I170 A170 J179 B179) ∧ (¬ r170 = r179 → False))))))))) ∧ (((xs y3.toNatClampNeg) &&& 15) = 3 → (vp_in (y3 + 1) L ∧ (wp_TuneSetter_type (((xs (y3 + 1).toNatClampNeg).toUInt32 % 65536).toInt32) I A (fun r194 I194 A194 => (vp_in (y3 + 1) L ∧ (wp_TuneSetterModel_type (((xs (y3 + 1).toNatClampNeg).toUInt32 % 65536).toInt32) J B (fun r204 J204 B204 => ((r194 = r204 → wp_law_415 L xs (fun y3 I A J B => wp_law_18 L xs n y3 I A J B) y3 I194 A194 J204 B204) ∧ (¬ r194 = r204 → False))))))))) ∧ (((xs y3.toNatClampNeg) &&& 15) = 4 → (wp_TuneSetter_clear I A (fun r213 I213 A213 => (wp_TuneSetterModel_clear J B (fun r217 J217 B217 => ((r213 = r217 → wp_law_415 L xs (fun y3 I A J B => wp_law_18 L xs n y3 I A J B) y3 I213 A213 J217 B217) ∧ (¬ r213 = r217 → False))))))) ∧ (((xs y3.toNatClampNeg) &&& 15) = 5 → (wp_TuneSetter_read I A (fun r226 I226 A226 => (wp_TuneSetterModel_read J B (fun r230 J230 B230 => ((r226 = r230 → wp_law_415 L xs (fun y3 I A J B => wp_law_18 L xs n y3 I A J B) y3 I226 A226 J230 B230) ∧ (¬ r226 = r230 → False))))))) ∧ (((xs y3.toNatClampNeg) &&& 15) = 6 → (wp_TuneSetter_place I A (fun r239 I239 A239 => (wp_TuneSetterModel_place J B (fun r243 J243 B243 => ((r239 = r243 → wp_law_415 L xs (fun y3 I A J B => wp_law_18 L xs n y3 I A J B) y3 I239 A239 J243 B243) ∧ (¬ r239 = r243 → False))))))) ∧ (((xs y3.toNatClampNeg) &&& 15) = 7 → (wp_TuneSetter_bars I A (fun r252 I252 A252 => (wp_TuneSetterModel_bars J B (fun r256 J256 B256 => ((r252 = r256 → wp_law_415 L xs (fun y3 I A J B => wp_law_18 L xs n y3 I A J B) y3 I252 A252 J256 B256) ∧ (¬ r252 = r256 → False))))))) ∧ (((xs y3.toNatClampNeg) &&& 15) = 8 → (wp_TuneSetter_notes I A (fun r265 I265 A265 => (wp_TuneSetterModel_notes J B (fun r269 J269 B269 => ((r265 = r269 → wp_law_415 L xs (fun y3 I A J B => wp_law_18 L xs n y3 I A J B) y3 I265 A265 J269 B269) ∧ (¬ r265 = r269 → False))))))) ∧ (((xs y3.toNatClampNeg) &&& 15) = 9 → (vp_in (y3 + 1) L ∧ (vp_in (y3 + 2) L ∧ (wp_TuneSetter_note (xs (y3 + 1).toNatClampNeg) (xs (y3 + 2).toNatClampNeg) I A (fun r288 I288 A288 => (vp_in (y3 + 1) L ∧ (vp_in (y3 + 2) L ∧ (wp_TuneSetterModel_note (xs (y3 + 1).toNatClampNeg) (xs (y3 + 2).toNatClampNeg) J B (fun r302 J302 B302 => ((r288 = r302 → wp_law_415 L xs (fun y3 I A J B => wp_law_18 L xs n y3 I A J B) y3 I288 A288 J302 B302) ∧ (¬ r288 = r302 → False))))))))))) ∧ (((xs y3.toNatClampNeg) &&& 15) = 10 → (vp_in (y3 + 1) L ∧ (wp_TuneSetter_width (xs (y3 + 1).toNatClampNeg) I A (fun r316 I316 A316 => (vp_in (y3 + 1) L ∧ (wp_TuneSetterModel_width (xs (y3 + 1).toNatClampNeg) J B (fun r325 J325 B325 => ((r316 = r325 → wp_law_415 L xs (fun y3 I A J B => wp_law_18 L xs n y3 I A J B) y3 I316 A316 J325 B325) ∧ (¬ r316 = r325 → False))))))))) ∧ (((xs y3.toNatClampNeg) &&& 15) = 11 → (wp_TuneSetter_write I A (fun r334 I334 A334 => (wp_TuneSetterModel_write J B (fun r338 J338 B338 => ((r334 = r338 → wp_law_415 L xs (fun y3 I A J B => wp_law_18 L xs n y3 I A J B) y3 I334 A334 J338 B338) ∧ (¬ r334 = r338 → False))))))) ∧ (((xs y3.toNatClampNeg) &&& 15) = 12 → (vp_in (y3 + 1) L ∧ (wp_TuneSetter_byteAt (xs (y3 + 1).toNatClampNeg) I A (fun r352 I352 A352 => (vp_in (y3 + 1) L ∧ (wp_TuneSetterModel_byteAt (xs (y3 + 1).toNatClampNeg) J B (fun r361 J361 B361 => ((r352 = r361 → wp_law_415 L xs (fun y3 I A J B => wp_law_18 L xs n y3 I A J B) y3 I352 A352 J361 B361) ∧ (¬ r352 = r361 → False))))))))) ∧ (((xs y3.toNatClampNeg) &&& 15) = 13 → (vp_in (y3 + 1) L ∧ (wp_TuneSetter_breaking (xs (y3 + 1).toNatClampNeg) I A (fun r375 I375 A375 => (vp_in (y3 + 1) L ∧ (wp_TuneSetterModel_breaking (xs (y3 + 1).toNatClampNeg) J B (fun r384 J384 B384 => ((r375 = r384 → wp_law_415 L xs (fun y3 I A J B => wp_law_18 L xs n y3 I A J B) y3 I375 A375 J384 B384) ∧ (¬ r375 = r384 → False))))))))) ∧ (((xs y3.toNatClampNeg) &&& 15) = 14 → (vp_in (y3 + 1) L ∧ (wp_TuneSetter_lines (xs (y3 + 1).toNatClampNeg) I A (fun r398 I398 A398 => (vp_in (y3 + 1) L ∧ (wp_TuneSetterModel_lines (xs (y3 + 1).toNatClampNeg) J B (fun r407 J407 B407 => ((r398 = r407 → wp_law_415 L xs (fun y3 I A J B => wp_law_18 L xs n y3 I A J B) y3 I398 A398 J407 B407) ∧ (¬ r398 = r407 → False))))))))) ∧ (¬ ((xs y3.toNatClampNeg) &&& 15) = 0 → ¬ ((xs y3.toNatClampNeg) &&& 15) = 1 → ¬ ((xs y3.toNatClampNeg) &&& 15) = 2 → ¬ ((xs y3.toNatClampNeg) &&& 15) = 3 → ¬ ((xs y3.toNatClampNeg) &&& 15) = 4 → ¬ ((xs y3.toNatClampNeg) &&& 15) = 5 → ¬ ((xs y3.toNatClampNeg) &&& 15) = 6 → ¬ ((xs y3.toNatClampNeg) &&& 15) = 7 → ¬ ((xs y3.toNatClampNeg) &&& 15) = 8 → ¬ ((xs y3.toNatClampNeg) &&& 15) = 9 → ¬ ((xs y3.toNatClampNeg) &&& 15) = 10 → ¬ ((xs y3.toNatClampNeg) &&& 15) = 11 → ¬ ((xs y3.toNatClampNeg) &&& 15) = 12 → ¬ ((xs y3.toNatClampNeg) &&& 15) = 13 → ¬ ((xs y3.toNatClampNeg) &&& 15) = 14 → wp_law_415 L xs (fun y3 I A J B => wp_law_18 L xs n y3 I A J B) y3 I A J B)))))
theorem d_law_0 : decode code 0 = .ok (.new 7, 3) := by decide +kernel
theorem d_law_3 : decode code 3 = .ok (.dup, 1) := by decide +kernel
theorem d_law_4 : decode code 4 = .ok (.invokespecial 9, 3) := by decide +kernel
theorem d_law_7 : decode code 7 = .ok (.astore_n 1, 1) := by decide +kernel
theorem d_law_8 : decode code 8 = .ok (.new 10, 3) := by decide +kernel
theorem d_law_11 : decode code 11 = .ok (.dup, 1) := by decide +kernel
theorem d_law_12 : decode code 12 = .ok (.invokespecial 12, 3) := by decide +kernel
theorem d_law_15 : decode code 15 = .ok (.astore_n 2, 1) := by decide +kernel
theorem d_law_16 : decode code 16 = .ok (.iconst 0, 1) := by decide +kernel
theorem d_law_17 : decode code 17 = .ok (.istore_n 3, 1) := by decide +kernel
theorem d_law_18 : decode code 18 = .ok (.iload_n 3, 1) := by decide +kernel
theorem d_law_19 : decode code 19 = .ok (.aload_n 0, 1) := by decide +kernel
theorem d_law_20 : decode code 20 = .ok (.arraylength, 1) := by decide +kernel
theorem d_law_21 : decode code 21 = .ok (.iconst 3, 1) := by decide +kernel
theorem d_law_22 : decode code 22 = .ok (.isub, 1) := by decide +kernel
theorem d_law_23 : decode code 23 = .ok (.if_icmp .gt 398, 3) := by decide +kernel
theorem d_law_26 : decode code 26 = .ok (.aload_n 0, 1) := by decide +kernel
theorem d_law_27 : decode code 27 = .ok (.iload_n 3, 1) := by decide +kernel
theorem d_law_28 : decode code 28 = .ok (.iaload, 1) := by decide +kernel
theorem d_law_29 : decode code 29 = .ok (.bipush 15, 2) := by decide +kernel
theorem d_law_31 : decode code 31 = .ok (.iand, 1) := by decide +kernel
theorem d_law_32 : decode code 32 = .ok (.tableswitch 383 0 14 #[76, 109, 132, 155, 180, 193, 206, 219, 232, 245, 278, 301, 314, 337, 360], 76) := by decide +kernel
theorem d_law_108 : decode code 108 = .ok (.aload_n 1, 1) := by decide +kernel
theorem d_law_109 : decode code 109 = .ok (.aload_n 0, 1) := by decide +kernel
theorem d_law_110 : decode code 110 = .ok (.iload_n 3, 1) := by decide +kernel
theorem d_law_111 : decode code 111 = .ok (.iconst 1, 1) := by decide +kernel
theorem d_law_112 : decode code 112 = .ok (.iadd, 1) := by decide +kernel
theorem d_law_113 : decode code 113 = .ok (.iaload, 1) := by decide +kernel
theorem d_law_114 : decode code 114 = .ok (.aload_n 0, 1) := by decide +kernel
theorem d_law_115 : decode code 115 = .ok (.iload_n 3, 1) := by decide +kernel
theorem d_law_116 : decode code 116 = .ok (.iconst 2, 1) := by decide +kernel
theorem d_law_117 : decode code 117 = .ok (.iadd, 1) := by decide +kernel
theorem d_law_118 : decode code 118 = .ok (.iaload, 1) := by decide +kernel
theorem d_law_119 : decode code 119 = .ok (.invokevirtual 13, 3) := by decide +kernel
theorem d_law_122 : decode code 122 = .ok (.aload_n 2, 1) := by decide +kernel
theorem d_law_123 : decode code 123 = .ok (.aload_n 0, 1) := by decide +kernel
theorem d_law_124 : decode code 124 = .ok (.iload_n 3, 1) := by decide +kernel
theorem d_law_125 : decode code 125 = .ok (.iconst 1, 1) := by decide +kernel
theorem d_law_126 : decode code 126 = .ok (.iadd, 1) := by decide +kernel
theorem d_law_127 : decode code 127 = .ok (.iaload, 1) := by decide +kernel
theorem d_law_128 : decode code 128 = .ok (.aload_n 0, 1) := by decide +kernel
theorem d_law_129 : decode code 129 = .ok (.iload_n 3, 1) := by decide +kernel
theorem d_law_130 : decode code 130 = .ok (.iconst 2, 1) := by decide +kernel
theorem d_law_131 : decode code 131 = .ok (.iadd, 1) := by decide +kernel
theorem d_law_132 : decode code 132 = .ok (.iaload, 1) := by decide +kernel
theorem d_law_133 : decode code 133 = .ok (.invokevirtual 17, 3) := by decide +kernel
theorem d_law_136 : decode code 136 = .ok (.if_icmp .eq 279, 3) := by decide +kernel
theorem d_law_139 : decode code 139 = .ok (.iconst 0, 1) := by decide +kernel
theorem d_law_140 : decode code 140 = .ok (.ireturn, 1) := by decide +kernel
theorem d_law_141 : decode code 141 = .ok (.aload_n 1, 1) := by decide +kernel
theorem d_law_142 : decode code 142 = .ok (.aload_n 0, 1) := by decide +kernel
theorem d_law_143 : decode code 143 = .ok (.iload_n 3, 1) := by decide +kernel
theorem d_law_144 : decode code 144 = .ok (.iconst 1, 1) := by decide +kernel
theorem d_law_145 : decode code 145 = .ok (.iadd, 1) := by decide +kernel
theorem d_law_146 : decode code 146 = .ok (.iaload, 1) := by decide +kernel
theorem d_law_147 : decode code 147 = .ok (.invokevirtual 18, 3) := by decide +kernel
theorem d_law_150 : decode code 150 = .ok (.aload_n 2, 1) := by decide +kernel
theorem d_law_151 : decode code 151 = .ok (.aload_n 0, 1) := by decide +kernel
theorem d_law_152 : decode code 152 = .ok (.iload_n 3, 1) := by decide +kernel
theorem d_law_153 : decode code 153 = .ok (.iconst 1, 1) := by decide +kernel
theorem d_law_154 : decode code 154 = .ok (.iadd, 1) := by decide +kernel
theorem d_law_155 : decode code 155 = .ok (.iaload, 1) := by decide +kernel
theorem d_law_156 : decode code 156 = .ok (.invokevirtual 22, 3) := by decide +kernel
theorem d_law_159 : decode code 159 = .ok (.if_icmp .eq 256, 3) := by decide +kernel
theorem d_law_162 : decode code 162 = .ok (.iconst 0, 1) := by decide +kernel
theorem d_law_163 : decode code 163 = .ok (.ireturn, 1) := by decide +kernel
theorem d_law_164 : decode code 164 = .ok (.aload_n 1, 1) := by decide +kernel
theorem d_law_165 : decode code 165 = .ok (.aload_n 0, 1) := by decide +kernel
theorem d_law_166 : decode code 166 = .ok (.iload_n 3, 1) := by decide +kernel
theorem d_law_167 : decode code 167 = .ok (.iconst 1, 1) := by decide +kernel
theorem d_law_168 : decode code 168 = .ok (.iadd, 1) := by decide +kernel
theorem d_law_169 : decode code 169 = .ok (.iaload, 1) := by decide +kernel
theorem d_law_170 : decode code 170 = .ok (.invokevirtual 23, 3) := by decide +kernel
theorem d_law_173 : decode code 173 = .ok (.aload_n 2, 1) := by decide +kernel
theorem d_law_174 : decode code 174 = .ok (.aload_n 0, 1) := by decide +kernel
theorem d_law_175 : decode code 175 = .ok (.iload_n 3, 1) := by decide +kernel
theorem d_law_176 : decode code 176 = .ok (.iconst 1, 1) := by decide +kernel
theorem d_law_177 : decode code 177 = .ok (.iadd, 1) := by decide +kernel
theorem d_law_178 : decode code 178 = .ok (.iaload, 1) := by decide +kernel
theorem d_law_179 : decode code 179 = .ok (.invokevirtual 26, 3) := by decide +kernel
theorem d_law_182 : decode code 182 = .ok (.if_icmp .eq 233, 3) := by decide +kernel
theorem d_law_185 : decode code 185 = .ok (.iconst 0, 1) := by decide +kernel
theorem d_law_186 : decode code 186 = .ok (.ireturn, 1) := by decide +kernel
theorem d_law_187 : decode code 187 = .ok (.aload_n 1, 1) := by decide +kernel
theorem d_law_188 : decode code 188 = .ok (.aload_n 0, 1) := by decide +kernel
theorem d_law_189 : decode code 189 = .ok (.iload_n 3, 1) := by decide +kernel
theorem d_law_190 : decode code 190 = .ok (.iconst 1, 1) := by decide +kernel
theorem d_law_191 : decode code 191 = .ok (.iadd, 1) := by decide +kernel
theorem d_law_192 : decode code 192 = .ok (.iaload, 1) := by decide +kernel
theorem d_law_193 : decode code 193 = .ok (.i2c, 1) := by decide +kernel
theorem d_law_194 : decode code 194 = .ok (.invokevirtual 27, 3) := by decide +kernel
theorem d_law_197 : decode code 197 = .ok (.aload_n 2, 1) := by decide +kernel
theorem d_law_198 : decode code 198 = .ok (.aload_n 0, 1) := by decide +kernel
theorem d_law_199 : decode code 199 = .ok (.iload_n 3, 1) := by decide +kernel
theorem d_law_200 : decode code 200 = .ok (.iconst 1, 1) := by decide +kernel
theorem d_law_201 : decode code 201 = .ok (.iadd, 1) := by decide +kernel
theorem d_law_202 : decode code 202 = .ok (.iaload, 1) := by decide +kernel
theorem d_law_203 : decode code 203 = .ok (.i2c, 1) := by decide +kernel
theorem d_law_204 : decode code 204 = .ok (.invokevirtual 31, 3) := by decide +kernel
theorem d_law_207 : decode code 207 = .ok (.if_icmp .eq 208, 3) := by decide +kernel
theorem d_law_210 : decode code 210 = .ok (.iconst 0, 1) := by decide +kernel
theorem d_law_211 : decode code 211 = .ok (.ireturn, 1) := by decide +kernel
theorem d_law_212 : decode code 212 = .ok (.aload_n 1, 1) := by decide +kernel
theorem d_law_213 : decode code 213 = .ok (.invokevirtual 32, 3) := by decide +kernel
theorem d_law_216 : decode code 216 = .ok (.aload_n 2, 1) := by decide +kernel
theorem d_law_217 : decode code 217 = .ok (.invokevirtual 36, 3) := by decide +kernel
theorem d_law_220 : decode code 220 = .ok (.if_icmp .eq 195, 3) := by decide +kernel
theorem d_law_223 : decode code 223 = .ok (.iconst 0, 1) := by decide +kernel
theorem d_law_224 : decode code 224 = .ok (.ireturn, 1) := by decide +kernel
theorem d_law_225 : decode code 225 = .ok (.aload_n 1, 1) := by decide +kernel
theorem d_law_226 : decode code 226 = .ok (.invokevirtual 37, 3) := by decide +kernel
theorem d_law_229 : decode code 229 = .ok (.aload_n 2, 1) := by decide +kernel
theorem d_law_230 : decode code 230 = .ok (.invokevirtual 40, 3) := by decide +kernel
theorem d_law_233 : decode code 233 = .ok (.if_icmp .eq 182, 3) := by decide +kernel
theorem d_law_236 : decode code 236 = .ok (.iconst 0, 1) := by decide +kernel
theorem d_law_237 : decode code 237 = .ok (.ireturn, 1) := by decide +kernel
theorem d_law_238 : decode code 238 = .ok (.aload_n 1, 1) := by decide +kernel
theorem d_law_239 : decode code 239 = .ok (.invokevirtual 41, 3) := by decide +kernel
theorem d_law_242 : decode code 242 = .ok (.aload_n 2, 1) := by decide +kernel
theorem d_law_243 : decode code 243 = .ok (.invokevirtual 44, 3) := by decide +kernel
theorem d_law_246 : decode code 246 = .ok (.if_icmp .eq 169, 3) := by decide +kernel
theorem d_law_249 : decode code 249 = .ok (.iconst 0, 1) := by decide +kernel
theorem d_law_250 : decode code 250 = .ok (.ireturn, 1) := by decide +kernel
theorem d_law_251 : decode code 251 = .ok (.aload_n 1, 1) := by decide +kernel
theorem d_law_252 : decode code 252 = .ok (.invokevirtual 45, 3) := by decide +kernel
theorem d_law_255 : decode code 255 = .ok (.aload_n 2, 1) := by decide +kernel
theorem d_law_256 : decode code 256 = .ok (.invokevirtual 48, 3) := by decide +kernel
theorem d_law_259 : decode code 259 = .ok (.if_icmp .eq 156, 3) := by decide +kernel
theorem d_law_262 : decode code 262 = .ok (.iconst 0, 1) := by decide +kernel
theorem d_law_263 : decode code 263 = .ok (.ireturn, 1) := by decide +kernel
theorem d_law_264 : decode code 264 = .ok (.aload_n 1, 1) := by decide +kernel
theorem d_law_265 : decode code 265 = .ok (.invokevirtual 49, 3) := by decide +kernel
theorem d_law_268 : decode code 268 = .ok (.aload_n 2, 1) := by decide +kernel
theorem d_law_269 : decode code 269 = .ok (.invokevirtual 52, 3) := by decide +kernel
theorem d_law_272 : decode code 272 = .ok (.if_icmp .eq 143, 3) := by decide +kernel
theorem d_law_275 : decode code 275 = .ok (.iconst 0, 1) := by decide +kernel
theorem d_law_276 : decode code 276 = .ok (.ireturn, 1) := by decide +kernel
theorem d_law_277 : decode code 277 = .ok (.aload_n 1, 1) := by decide +kernel
theorem d_law_278 : decode code 278 = .ok (.aload_n 0, 1) := by decide +kernel
theorem d_law_279 : decode code 279 = .ok (.iload_n 3, 1) := by decide +kernel
theorem d_law_280 : decode code 280 = .ok (.iconst 1, 1) := by decide +kernel
theorem d_law_281 : decode code 281 = .ok (.iadd, 1) := by decide +kernel
theorem d_law_282 : decode code 282 = .ok (.iaload, 1) := by decide +kernel
theorem d_law_283 : decode code 283 = .ok (.aload_n 0, 1) := by decide +kernel
theorem d_law_284 : decode code 284 = .ok (.iload_n 3, 1) := by decide +kernel
theorem d_law_285 : decode code 285 = .ok (.iconst 2, 1) := by decide +kernel
theorem d_law_286 : decode code 286 = .ok (.iadd, 1) := by decide +kernel
theorem d_law_287 : decode code 287 = .ok (.iaload, 1) := by decide +kernel
theorem d_law_288 : decode code 288 = .ok (.invokevirtual 53, 3) := by decide +kernel
theorem d_law_291 : decode code 291 = .ok (.aload_n 2, 1) := by decide +kernel
theorem d_law_292 : decode code 292 = .ok (.aload_n 0, 1) := by decide +kernel
theorem d_law_293 : decode code 293 = .ok (.iload_n 3, 1) := by decide +kernel
theorem d_law_294 : decode code 294 = .ok (.iconst 1, 1) := by decide +kernel
theorem d_law_295 : decode code 295 = .ok (.iadd, 1) := by decide +kernel
theorem d_law_296 : decode code 296 = .ok (.iaload, 1) := by decide +kernel
theorem d_law_297 : decode code 297 = .ok (.aload_n 0, 1) := by decide +kernel
theorem d_law_298 : decode code 298 = .ok (.iload_n 3, 1) := by decide +kernel
theorem d_law_299 : decode code 299 = .ok (.iconst 2, 1) := by decide +kernel
theorem d_law_300 : decode code 300 = .ok (.iadd, 1) := by decide +kernel
theorem d_law_301 : decode code 301 = .ok (.iaload, 1) := by decide +kernel
theorem d_law_302 : decode code 302 = .ok (.invokevirtual 57, 3) := by decide +kernel
theorem d_law_305 : decode code 305 = .ok (.if_icmp .eq 110, 3) := by decide +kernel
theorem d_law_308 : decode code 308 = .ok (.iconst 0, 1) := by decide +kernel
theorem d_law_309 : decode code 309 = .ok (.ireturn, 1) := by decide +kernel
theorem d_law_310 : decode code 310 = .ok (.aload_n 1, 1) := by decide +kernel
theorem d_law_311 : decode code 311 = .ok (.aload_n 0, 1) := by decide +kernel
theorem d_law_312 : decode code 312 = .ok (.iload_n 3, 1) := by decide +kernel
theorem d_law_313 : decode code 313 = .ok (.iconst 1, 1) := by decide +kernel
theorem d_law_314 : decode code 314 = .ok (.iadd, 1) := by decide +kernel
theorem d_law_315 : decode code 315 = .ok (.iaload, 1) := by decide +kernel
theorem d_law_316 : decode code 316 = .ok (.invokevirtual 58, 3) := by decide +kernel
theorem d_law_319 : decode code 319 = .ok (.aload_n 2, 1) := by decide +kernel
theorem d_law_320 : decode code 320 = .ok (.aload_n 0, 1) := by decide +kernel
theorem d_law_321 : decode code 321 = .ok (.iload_n 3, 1) := by decide +kernel
theorem d_law_322 : decode code 322 = .ok (.iconst 1, 1) := by decide +kernel
theorem d_law_323 : decode code 323 = .ok (.iadd, 1) := by decide +kernel
theorem d_law_324 : decode code 324 = .ok (.iaload, 1) := by decide +kernel
theorem d_law_325 : decode code 325 = .ok (.invokevirtual 62, 3) := by decide +kernel
theorem d_law_328 : decode code 328 = .ok (.if_icmp .eq 87, 3) := by decide +kernel
theorem d_law_331 : decode code 331 = .ok (.iconst 0, 1) := by decide +kernel
theorem d_law_332 : decode code 332 = .ok (.ireturn, 1) := by decide +kernel
theorem d_law_333 : decode code 333 = .ok (.aload_n 1, 1) := by decide +kernel
theorem d_law_334 : decode code 334 = .ok (.invokevirtual 63, 3) := by decide +kernel
theorem d_law_337 : decode code 337 = .ok (.aload_n 2, 1) := by decide +kernel
theorem d_law_338 : decode code 338 = .ok (.invokevirtual 66, 3) := by decide +kernel
theorem d_law_341 : decode code 341 = .ok (.if_icmp .eq 74, 3) := by decide +kernel
theorem d_law_344 : decode code 344 = .ok (.iconst 0, 1) := by decide +kernel
theorem d_law_345 : decode code 345 = .ok (.ireturn, 1) := by decide +kernel
theorem d_law_346 : decode code 346 = .ok (.aload_n 1, 1) := by decide +kernel
theorem d_law_347 : decode code 347 = .ok (.aload_n 0, 1) := by decide +kernel
theorem d_law_348 : decode code 348 = .ok (.iload_n 3, 1) := by decide +kernel
theorem d_law_349 : decode code 349 = .ok (.iconst 1, 1) := by decide +kernel
theorem d_law_350 : decode code 350 = .ok (.iadd, 1) := by decide +kernel
theorem d_law_351 : decode code 351 = .ok (.iaload, 1) := by decide +kernel
theorem d_law_352 : decode code 352 = .ok (.invokevirtual 67, 3) := by decide +kernel
theorem d_law_355 : decode code 355 = .ok (.aload_n 2, 1) := by decide +kernel
theorem d_law_356 : decode code 356 = .ok (.aload_n 0, 1) := by decide +kernel
theorem d_law_357 : decode code 357 = .ok (.iload_n 3, 1) := by decide +kernel
theorem d_law_358 : decode code 358 = .ok (.iconst 1, 1) := by decide +kernel
theorem d_law_359 : decode code 359 = .ok (.iadd, 1) := by decide +kernel
theorem d_law_360 : decode code 360 = .ok (.iaload, 1) := by decide +kernel
theorem d_law_361 : decode code 361 = .ok (.invokevirtual 70, 3) := by decide +kernel
theorem d_law_364 : decode code 364 = .ok (.if_icmp .eq 51, 3) := by decide +kernel
theorem d_law_367 : decode code 367 = .ok (.iconst 0, 1) := by decide +kernel
theorem d_law_368 : decode code 368 = .ok (.ireturn, 1) := by decide +kernel
theorem d_law_369 : decode code 369 = .ok (.aload_n 1, 1) := by decide +kernel
theorem d_law_370 : decode code 370 = .ok (.aload_n 0, 1) := by decide +kernel
theorem d_law_371 : decode code 371 = .ok (.iload_n 3, 1) := by decide +kernel
theorem d_law_372 : decode code 372 = .ok (.iconst 1, 1) := by decide +kernel
theorem d_law_373 : decode code 373 = .ok (.iadd, 1) := by decide +kernel
theorem d_law_374 : decode code 374 = .ok (.iaload, 1) := by decide +kernel
theorem d_law_375 : decode code 375 = .ok (.invokevirtual 71, 3) := by decide +kernel
theorem d_law_378 : decode code 378 = .ok (.aload_n 2, 1) := by decide +kernel
theorem d_law_379 : decode code 379 = .ok (.aload_n 0, 1) := by decide +kernel
theorem d_law_380 : decode code 380 = .ok (.iload_n 3, 1) := by decide +kernel
theorem d_law_381 : decode code 381 = .ok (.iconst 1, 1) := by decide +kernel
theorem d_law_382 : decode code 382 = .ok (.iadd, 1) := by decide +kernel
theorem d_law_383 : decode code 383 = .ok (.iaload, 1) := by decide +kernel
theorem d_law_384 : decode code 384 = .ok (.invokevirtual 74, 3) := by decide +kernel
theorem d_law_387 : decode code 387 = .ok (.if_icmp .eq 28, 3) := by decide +kernel
theorem d_law_390 : decode code 390 = .ok (.iconst 0, 1) := by decide +kernel
theorem d_law_391 : decode code 391 = .ok (.ireturn, 1) := by decide +kernel
theorem d_law_392 : decode code 392 = .ok (.aload_n 1, 1) := by decide +kernel
theorem d_law_393 : decode code 393 = .ok (.aload_n 0, 1) := by decide +kernel
theorem d_law_394 : decode code 394 = .ok (.iload_n 3, 1) := by decide +kernel
theorem d_law_395 : decode code 395 = .ok (.iconst 1, 1) := by decide +kernel
theorem d_law_396 : decode code 396 = .ok (.iadd, 1) := by decide +kernel
theorem d_law_397 : decode code 397 = .ok (.iaload, 1) := by decide +kernel
theorem d_law_398 : decode code 398 = .ok (.invokevirtual 75, 3) := by decide +kernel
theorem d_law_401 : decode code 401 = .ok (.aload_n 2, 1) := by decide +kernel
theorem d_law_402 : decode code 402 = .ok (.aload_n 0, 1) := by decide +kernel
theorem d_law_403 : decode code 403 = .ok (.iload_n 3, 1) := by decide +kernel
theorem d_law_404 : decode code 404 = .ok (.iconst 1, 1) := by decide +kernel
theorem d_law_405 : decode code 405 = .ok (.iadd, 1) := by decide +kernel
theorem d_law_406 : decode code 406 = .ok (.iaload, 1) := by decide +kernel
theorem d_law_407 : decode code 407 = .ok (.invokevirtual 78, 3) := by decide +kernel
theorem d_law_410 : decode code 410 = .ok (.if_icmp .eq 5, 3) := by decide +kernel
theorem d_law_413 : decode code 413 = .ok (.iconst 0, 1) := by decide +kernel
theorem d_law_414 : decode code 414 = .ok (.ireturn, 1) := by decide +kernel
theorem d_law_415 : decode code 415 = .ok (.iinc 3 3, 3) := by decide +kernel
theorem d_law_418 : decode code 418 = .ok (.goto (-400), 3) := by decide +kernel
theorem d_law_421 : decode code 421 = .ok (.iconst 1, 1) := by decide +kernel
theorem d_law_422 : decode code 422 = .ok (.ireturn, 1) := by decide +kernel
set_option maxHeartbeats 8000000 in
set_option maxRecDepth 100000 in
theorem whole_loop {p : Program} {e : Env} {s : State} {m : MethodId} {below : List Frame} {meth : Method} {c : Code} (l : Launch) {bs L : Nat} {xs : Nat → Int32} (C0 : lw_At p s m meth c bs L xs) {D : va_G} {cA a b : Nat → Nat} {AA : Nat → Prop} (hAA : AA = fun q => s.heap.size ≤ q) (hKC : KC D cA a AA s) (hKR : KR D cA b AA s) (hDC : ∀ I A, va_D AA (wC cA a I A)) (hDR : ∀ I A, va_D AA (wR cA b I A)) (hAp : ∀ q, q ∈ adC a → q ∈ adR b → False) : ∀ n : Nat, ∀ (y3 : Int32) (I : Nat → Int32) (A : Nat → Nat → Int32) (J : Nat → Int32) (B : Nat → Nat → Int32) (H : Heap) (locs : List Loc) (ls : Array Slot), wp_law_18 L xs n y3 I A J B → va_P D cls (wC cA a I A) H → va_P D cls (wR cA b J B) H → va_S AA s.heap H locs → lv_has ls 4 [(0, .ref bs), (1, .ref (a 0)), (2, .ref (b 0)), (3, .int y3)] → W p l e room_1 s m #[Value.ref bs] below meth c H locs 48 4049 (lw_Z below #[Value.ref bs] s) (F0 m 18 ls []) := by
  obtain ⟨hx, hb, hr, hml, hown, ht, hX, hbl, hlocks, hgv⟩ := C0
  have hw := W_tbl ht
  have hbA : ¬ AA bs := by rw [hAA]; exact Nat.not_le.mpr hbl
  have hA : ∀ q : Nat, s.heap.size ≤ q → AA q := fun q h => by rw [hAA]; exact h
  have hlq : ∀ (locs : List Loc), (∀ q ∈ locs, AA q.base) → ∀ q ∈ locs, s.heap.size ≤ q.base := fun locs h q hq => by have := h q hq; rw [hAA] at this; exact this
  have j415 : ∀ (k18 : Int32 → (Nat → Int32) → (Nat → Nat → Int32) → (Nat → Int32) → (Nat → Nat → Int32) → Prop) (hk18 : ∀ (y3 : Int32) (I : Nat → Int32) (A : Nat → Nat → Int32) (J : Nat → Int32) (B : Nat → Nat → Int32) (H : Heap) (locs : List Loc) (ls : Array Slot), k18 y3 I A J B → va_P D cls (wC cA a I A) H → va_P D cls (wR cA b J B) H → va_S AA s.heap H locs → lv_has ls 4 [(0, .ref bs), (1, .ref (a 0)), (2, .ref (b 0)), (3, .int y3)] → W p l e room_1 s m #[Value.ref bs] below meth c H locs 48 4049 (lw_Z below #[Value.ref bs] s) (F0 m 18 ls [])), ∀ (y3 : Int32) (I : Nat → Int32) (A : Nat → Nat → Int32) (J : Nat → Int32) (B : Nat → Nat → Int32) (H : Heap) (locs : List Loc) (ls : Array Slot), wp_law_415 L xs k18 y3 I A J B → va_P D cls (wC cA a I A) H → va_P D cls (wR cA b J B) H → va_S AA s.heap H locs → lv_has ls 4 [(0, .ref bs), (1, .ref (a 0)), (2, .ref (b 0)), (3, .int y3)] → W p l e room_1 s m #[Value.ref bs] below meth c H locs 48 4049 (lw_Z below #[Value.ref bs] s) (F0 m 415 ls []) := by
    intro k18 hk18
    intro y3 I A J B H locs ls h hPC hPR hS hl
    unfold wp_law_415 at h
    obtain ⟨v415, ev415⟩ : ∃ z : Int32, z = y3 + 3 := ⟨_, rfl⟩
    have h := h v415 ev415
    refine lv_iinc (k := 3) (v := v415) (lv' := [(3, .int v415), (0, .ref bs), (1, .ref (a 0)), (2, .ref (b 0))]) hx hb d_law_415 hl rfl (by rw [ev415, ic_3]) (by decide) rfl (fun ls hl => ?_)
    refine lv_goto (tgt := 18) hx hb d_law_418 rfl ?_
    exact hk18 v415 I A J B _ _ _ h hPC hPR hS (lv_sub hl [1, 2, 3, 0] rfl)
  have j18 : ∀ n : Nat, ∀ (y3 : Int32) (I : Nat → Int32) (A : Nat → Nat → Int32) (J : Nat → Int32) (B : Nat → Nat → Int32) (H : Heap) (locs : List Loc) (ls : Array Slot), wp_law_18 L xs n y3 I A J B → va_P D cls (wC cA a I A) H → va_P D cls (wR cA b J B) H → va_S AA s.heap H locs → lv_has ls 4 [(0, .ref bs), (1, .ref (a 0)), (2, .ref (b 0)), (3, .int y3)] → W p l e room_1 s m #[Value.ref bs] below meth c H locs 48 4049 (lw_Z below #[Value.ref bs] s) (F0 m 18 ls []) := by
    intro n
    induction n with
    | zero =>
      intro y3 I A J B H locs ls h hPC hPR hS hl
      exact False.elim h
    | succ n ih =>
      intro y3 I A J B H locs ls h hPC hPR hS hl
      unfold wp_law_18 at h
      refine lv_iload_n hx hb d_law_18 rfl (lv_at hl 3 rfl) ?_
      refine lv_aload_n hx hb d_law_19 rfl (lv_at hl 0 rfl) ?_
      refine va_slen hx hb hX hbl hbA hS d_law_20 ?_
      refine lv_iconst (v := 3) hx hb d_law_21 ic_3 ?_
      refine lv_isub hx hb d_law_22 ?_
      refine lv_icmp_gt (tgt := 421) hx hb d_law_23 rfl (fun q => ?_) (fun q => ?_)
      · have h := h.1 q
        refine lv_iconst (v := 1) hx hb d_law_421 ic_1 ?_
        exact va_forget (hlq _ hS.2.2) (lw_ret hx hb hr hlocks d_law_422)
      · have h := h.2 q
        refine lv_aload_n hx hb d_law_26 rfl (lv_at hl 0 rfl) ?_
        refine lv_iload_n hx hb d_law_27 rfl (lv_at hl 3 rfl) ?_
        obtain ⟨hin, h⟩ := h
        refine va_sld hx hb hX hbl hbA hS hin d_law_28 ?_
        refine lv_bipush (v := 15) hx hb d_law_29 bp_15 ?_
        refine lv_iand hx hb d_law_31 ?_
        by_cases q0 : ((xs y3.toNatClampNeg) &&& 15) = 0
        · have h := h.1 q0
          refine lv_tableIn (off := 76) (tgt := 108) hx hb d_law_32 (by rw [q0]; decide) (by rw [q0]; decide) (by rw [q0]; rfl) rfl ?_
          refine lv_aload_n hx hb d_law_108 rfl (lv_at hl 1 rfl) ?_
          refine lv_aload_n hx hb d_law_109 rfl (lv_at hl 0 rfl) ?_
          refine lv_iload_n hx hb d_law_110 rfl (lv_at hl 3 rfl) ?_
          refine lv_iconst (v := 1) hx hb d_law_111 ic_1 ?_
          refine lv_iadd hx hb d_law_112 ?_
          obtain ⟨hin, h⟩ := h
          refine va_sld hx hb hX hbl hbA hS hin d_law_113 ?_
          refine lv_aload_n hx hb d_law_114 rfl (lv_at hl 0 rfl) ?_
          refine lv_iload_n hx hb d_law_115 rfl (lv_at hl 3 rfl) ?_
          refine lv_iconst (v := 2) hx hb d_law_116 ic_2 ?_
          refine lv_iadd hx hb d_law_117 ?_
          obtain ⟨hin, h⟩ := h
          refine va_sld hx hb hX hbl hbA hS hin d_law_118 ?_
          refine q_TuneSetter_metre (xs (y3 + 1).toNatClampNeg) (xs (y3 + 2).toNatClampNeg) (rest := []) ⟨hx, hb, hml, hown, hw⟩ hKC hDC hA hS hPC hPR hAp hl.1 (hw _ m_Law_13) (Nat.le_of_ble_eq_true rfl) ⟨Nat.le_of_ble_eq_true rfl, Nat.le_of_ble_eq_true rfl⟩ ⟨Nat.le_of_ble_eq_true rfl, Nat.le_of_ble_eq_true rfl⟩ d_law_119 h (fun r119 I119 A119 H locs h hPC hPR hS => ?_)
          refine lv_aload_n hx hb d_law_122 rfl (lv_at hl 2 rfl) ?_
          refine lv_aload_n hx hb d_law_123 rfl (lv_at hl 0 rfl) ?_
          refine lv_iload_n hx hb d_law_124 rfl (lv_at hl 3 rfl) ?_
          refine lv_iconst (v := 1) hx hb d_law_125 ic_1 ?_
          refine lv_iadd hx hb d_law_126 ?_
          obtain ⟨hin, h⟩ := h
          refine va_sld hx hb hX hbl hbA hS hin d_law_127 ?_
          refine lv_aload_n hx hb d_law_128 rfl (lv_at hl 0 rfl) ?_
          refine lv_iload_n hx hb d_law_129 rfl (lv_at hl 3 rfl) ?_
          refine lv_iconst (v := 2) hx hb d_law_130 ic_2 ?_
          refine lv_iadd hx hb d_law_131 ?_
          obtain ⟨hin, h⟩ := h
          refine va_sld hx hb hX hbl hbA hS hin d_law_132 ?_
          refine q_TuneSetterModel_metre (xs (y3 + 1).toNatClampNeg) (xs (y3 + 2).toNatClampNeg) (rest := [.int r119]) ⟨hx, hb, hml, hown, hw⟩ hKR hDR hA hS hPC hPR hAp hl.1 (hw _ m_Law_17) (Nat.le_of_ble_eq_true rfl) ⟨Nat.le_of_ble_eq_true rfl, Nat.le_of_ble_eq_true rfl⟩ ⟨Nat.le_of_ble_eq_true rfl, Nat.le_of_ble_eq_true rfl⟩ d_law_133 h (fun r133 J133 B133 H locs h hPC hPR hS => ?_)
          refine lv_icmp_eq (tgt := 415) hx hb d_law_136 rfl (fun q => ?_) (fun q => ?_)
          · have h := h.1 q
            exact (j415 _ ih) y3 I119 A119 J133 B133 _ _ _ h hPC hPR hS (lv_sub hl [0, 1, 2, 3] rfl)
          · have h := h.2 q
            refine lv_iconst (v := 0) hx hb d_law_139 ic_0 ?_
            exact False.elim h
        by_cases q1 : ((xs y3.toNatClampNeg) &&& 15) = 1
        · have h := h.2.1 q1
          refine lv_tableIn (off := 109) (tgt := 141) hx hb d_law_32 (by rw [q1]; decide) (by rw [q1]; decide) (by rw [q1]; rfl) rfl ?_
          refine lv_aload_n hx hb d_law_141 rfl (lv_at hl 1 rfl) ?_
          refine lv_aload_n hx hb d_law_142 rfl (lv_at hl 0 rfl) ?_
          refine lv_iload_n hx hb d_law_143 rfl (lv_at hl 3 rfl) ?_
          refine lv_iconst (v := 1) hx hb d_law_144 ic_1 ?_
          refine lv_iadd hx hb d_law_145 ?_
          obtain ⟨hin, h⟩ := h
          refine va_sld hx hb hX hbl hbA hS hin d_law_146 ?_
          refine q_TuneSetter_unit (xs (y3 + 1).toNatClampNeg) (rest := []) ⟨hx, hb, hml, hown, hw⟩ hKC hDC hA hS hPC hPR hAp hl.1 (hw _ m_Law_18) (Nat.le_of_ble_eq_true rfl) ⟨Nat.le_of_ble_eq_true rfl, Nat.le_of_ble_eq_true rfl⟩ ⟨Nat.le_of_ble_eq_true rfl, Nat.le_of_ble_eq_true rfl⟩ d_law_147 h (fun r147 I147 A147 H locs h hPC hPR hS => ?_)
          refine lv_aload_n hx hb d_law_150 rfl (lv_at hl 2 rfl) ?_
          refine lv_aload_n hx hb d_law_151 rfl (lv_at hl 0 rfl) ?_
          refine lv_iload_n hx hb d_law_152 rfl (lv_at hl 3 rfl) ?_
          refine lv_iconst (v := 1) hx hb d_law_153 ic_1 ?_
          refine lv_iadd hx hb d_law_154 ?_
          obtain ⟨hin, h⟩ := h
          refine va_sld hx hb hX hbl hbA hS hin d_law_155 ?_
          refine q_TuneSetterModel_unit (xs (y3 + 1).toNatClampNeg) (rest := [.int r147]) ⟨hx, hb, hml, hown, hw⟩ hKR hDR hA hS hPC hPR hAp hl.1 (hw _ m_Law_22) (Nat.le_of_ble_eq_true rfl) ⟨Nat.le_of_ble_eq_true rfl, Nat.le_of_ble_eq_true rfl⟩ ⟨Nat.le_of_ble_eq_true rfl, Nat.le_of_ble_eq_true rfl⟩ d_law_156 h (fun r156 J156 B156 H locs h hPC hPR hS => ?_)
          refine lv_icmp_eq (tgt := 415) hx hb d_law_159 rfl (fun q => ?_) (fun q => ?_)
          · have h := h.1 q
            exact (j415 _ ih) y3 I147 A147 J156 B156 _ _ _ h hPC hPR hS (lv_sub hl [0, 1, 2, 3] rfl)
          · have h := h.2 q
            refine lv_iconst (v := 0) hx hb d_law_162 ic_0 ?_
            exact False.elim h
        by_cases q2 : ((xs y3.toNatClampNeg) &&& 15) = 2
        · have h := h.2.2.1 q2
          refine lv_tableIn (off := 132) (tgt := 164) hx hb d_law_32 (by rw [q2]; decide) (by rw [q2]; decide) (by rw [q2]; rfl) rfl ?_
          refine lv_aload_n hx hb d_law_164 rfl (lv_at hl 1 rfl) ?_
          refine lv_aload_n hx hb d_law_165 rfl (lv_at hl 0 rfl) ?_
          refine lv_iload_n hx hb d_law_166 rfl (lv_at hl 3 rfl) ?_
          refine lv_iconst (v := 1) hx hb d_law_167 ic_1 ?_
          refine lv_iadd hx hb d_law_168 ?_
          obtain ⟨hin, h⟩ := h
          refine va_sld hx hb hX hbl hbA hS hin d_law_169 ?_
          refine q_TuneSetter_key (xs (y3 + 1).toNatClampNeg) (rest := []) ⟨hx, hb, hml, hown, hw⟩ hKC hDC hA hS hPC hPR hAp hl.1 (hw _ m_Law_23) (Nat.le_of_ble_eq_true rfl) ⟨Nat.le_of_ble_eq_true rfl, Nat.le_of_ble_eq_true rfl⟩ ⟨Nat.le_of_ble_eq_true rfl, Nat.le_of_ble_eq_true rfl⟩ d_law_170 h (fun r170 I170 A170 H locs h hPC hPR hS => ?_)
          refine lv_aload_n hx hb d_law_173 rfl (lv_at hl 2 rfl) ?_
          refine lv_aload_n hx hb d_law_174 rfl (lv_at hl 0 rfl) ?_
          refine lv_iload_n hx hb d_law_175 rfl (lv_at hl 3 rfl) ?_
          refine lv_iconst (v := 1) hx hb d_law_176 ic_1 ?_
          refine lv_iadd hx hb d_law_177 ?_
          obtain ⟨hin, h⟩ := h
          refine va_sld hx hb hX hbl hbA hS hin d_law_178 ?_
          refine q_TuneSetterModel_key (xs (y3 + 1).toNatClampNeg) (rest := [.int r170]) ⟨hx, hb, hml, hown, hw⟩ hKR hDR hA hS hPC hPR hAp hl.1 (hw _ m_Law_26) (Nat.le_of_ble_eq_true rfl) ⟨Nat.le_of_ble_eq_true rfl, Nat.le_of_ble_eq_true rfl⟩ ⟨Nat.le_of_ble_eq_true rfl, Nat.le_of_ble_eq_true rfl⟩ d_law_179 h (fun r179 J179 B179 H locs h hPC hPR hS => ?_)
          refine lv_icmp_eq (tgt := 415) hx hb d_law_182 rfl (fun q => ?_) (fun q => ?_)
          · have h := h.1 q
            exact (j415 _ ih) y3 I170 A170 J179 B179 _ _ _ h hPC hPR hS (lv_sub hl [0, 1, 2, 3] rfl)
          · have h := h.2 q
            refine lv_iconst (v := 0) hx hb d_law_185 ic_0 ?_
            exact False.elim h
        by_cases q3 : ((xs y3.toNatClampNeg) &&& 15) = 3
        · have h := h.2.2.2.1 q3
          refine lv_tableIn (off := 155) (tgt := 187) hx hb d_law_32 (by rw [q3]; decide) (by rw [q3]; decide) (by rw [q3]; rfl) rfl ?_
          refine lv_aload_n hx hb d_law_187 rfl (lv_at hl 1 rfl) ?_
          refine lv_aload_n hx hb d_law_188 rfl (lv_at hl 0 rfl) ?_
          refine lv_iload_n hx hb d_law_189 rfl (lv_at hl 3 rfl) ?_
          refine lv_iconst (v := 1) hx hb d_law_190 ic_1 ?_
          refine lv_iadd hx hb d_law_191 ?_
          obtain ⟨hin, h⟩ := h
          refine va_sld hx hb hX hbl hbA hS hin d_law_192 ?_
          refine lv_i2c hx hb d_law_193 rfl ?_
          refine q_TuneSetter_type (((xs (y3 + 1).toNatClampNeg).toUInt32 % 65536).toInt32) (rest := []) ⟨hx, hb, hml, hown, hw⟩ hKC hDC hA hS hPC hPR hAp hl.1 (hw _ m_Law_27) (Nat.le_of_ble_eq_true rfl) ⟨Nat.le_of_ble_eq_true rfl, Nat.le_of_ble_eq_true rfl⟩ ⟨Nat.le_of_ble_eq_true rfl, Nat.le_of_ble_eq_true rfl⟩ d_law_194 h (fun r194 I194 A194 H locs h hPC hPR hS => ?_)
          refine lv_aload_n hx hb d_law_197 rfl (lv_at hl 2 rfl) ?_
          refine lv_aload_n hx hb d_law_198 rfl (lv_at hl 0 rfl) ?_
          refine lv_iload_n hx hb d_law_199 rfl (lv_at hl 3 rfl) ?_
          refine lv_iconst (v := 1) hx hb d_law_200 ic_1 ?_
          refine lv_iadd hx hb d_law_201 ?_
          obtain ⟨hin, h⟩ := h
          refine va_sld hx hb hX hbl hbA hS hin d_law_202 ?_
          refine lv_i2c hx hb d_law_203 rfl ?_
          refine q_TuneSetterModel_type (((xs (y3 + 1).toNatClampNeg).toUInt32 % 65536).toInt32) (rest := [.int r194]) ⟨hx, hb, hml, hown, hw⟩ hKR hDR hA hS hPC hPR hAp hl.1 (hw _ m_Law_31) (Nat.le_of_ble_eq_true rfl) ⟨Nat.le_of_ble_eq_true rfl, Nat.le_of_ble_eq_true rfl⟩ ⟨Nat.le_of_ble_eq_true rfl, Nat.le_of_ble_eq_true rfl⟩ d_law_204 h (fun r204 J204 B204 H locs h hPC hPR hS => ?_)
          refine lv_icmp_eq (tgt := 415) hx hb d_law_207 rfl (fun q => ?_) (fun q => ?_)
          · have h := h.1 q
            exact (j415 _ ih) y3 I194 A194 J204 B204 _ _ _ h hPC hPR hS (lv_sub hl [0, 1, 2, 3] rfl)
          · have h := h.2 q
            refine lv_iconst (v := 0) hx hb d_law_210 ic_0 ?_
            exact False.elim h
        by_cases q4 : ((xs y3.toNatClampNeg) &&& 15) = 4
        · have h := h.2.2.2.2.1 q4
          refine lv_tableIn (off := 180) (tgt := 212) hx hb d_law_32 (by rw [q4]; decide) (by rw [q4]; decide) (by rw [q4]; rfl) rfl ?_
          refine lv_aload_n hx hb d_law_212 rfl (lv_at hl 1 rfl) ?_
          refine q_TuneSetter_clear (rest := []) ⟨hx, hb, hml, hown, hw⟩ hKC hDC hA hS hPC hPR hAp hl.1 (hw _ m_Law_32) (Nat.le_of_ble_eq_true rfl) ⟨Nat.le_of_ble_eq_true rfl, Nat.le_of_ble_eq_true rfl⟩ ⟨Nat.le_of_ble_eq_true rfl, Nat.le_of_ble_eq_true rfl⟩ d_law_213 h (fun r213 I213 A213 H locs h hPC hPR hS => ?_)
          refine lv_aload_n hx hb d_law_216 rfl (lv_at hl 2 rfl) ?_
          refine q_TuneSetterModel_clear (rest := [.int r213]) ⟨hx, hb, hml, hown, hw⟩ hKR hDR hA hS hPC hPR hAp hl.1 (hw _ m_Law_36) (Nat.le_of_ble_eq_true rfl) ⟨Nat.le_of_ble_eq_true rfl, Nat.le_of_ble_eq_true rfl⟩ ⟨Nat.le_of_ble_eq_true rfl, Nat.le_of_ble_eq_true rfl⟩ d_law_217 h (fun r217 J217 B217 H locs h hPC hPR hS => ?_)
          refine lv_icmp_eq (tgt := 415) hx hb d_law_220 rfl (fun q => ?_) (fun q => ?_)
          · have h := h.1 q
            exact (j415 _ ih) y3 I213 A213 J217 B217 _ _ _ h hPC hPR hS (lv_sub hl [0, 1, 2, 3] rfl)
          · have h := h.2 q
            refine lv_iconst (v := 0) hx hb d_law_223 ic_0 ?_
            exact False.elim h
        by_cases q5 : ((xs y3.toNatClampNeg) &&& 15) = 5
        · have h := h.2.2.2.2.2.1 q5
          refine lv_tableIn (off := 193) (tgt := 225) hx hb d_law_32 (by rw [q5]; decide) (by rw [q5]; decide) (by rw [q5]; rfl) rfl ?_
          refine lv_aload_n hx hb d_law_225 rfl (lv_at hl 1 rfl) ?_
          refine q_TuneSetter_read (rest := []) ⟨hx, hb, hml, hown, hw⟩ hKC hDC hA hS hPC hPR hAp hl.1 (hw _ m_Law_37) (Nat.le_of_ble_eq_true rfl) ⟨Nat.le_of_ble_eq_true rfl, Nat.le_of_ble_eq_true rfl⟩ ⟨Nat.le_of_ble_eq_true rfl, Nat.le_of_ble_eq_true rfl⟩ d_law_226 h (fun r226 I226 A226 H locs h hPC hPR hS => ?_)
          refine lv_aload_n hx hb d_law_229 rfl (lv_at hl 2 rfl) ?_
          refine q_TuneSetterModel_read (rest := [.int r226]) ⟨hx, hb, hml, hown, hw⟩ hKR hDR hA hS hPC hPR hAp hl.1 (hw _ m_Law_40) (Nat.le_of_ble_eq_true rfl) ⟨Nat.le_of_ble_eq_true rfl, Nat.le_of_ble_eq_true rfl⟩ ⟨Nat.le_of_ble_eq_true rfl, Nat.le_of_ble_eq_true rfl⟩ d_law_230 h (fun r230 J230 B230 H locs h hPC hPR hS => ?_)
          refine lv_icmp_eq (tgt := 415) hx hb d_law_233 rfl (fun q => ?_) (fun q => ?_)
          · have h := h.1 q
            exact (j415 _ ih) y3 I226 A226 J230 B230 _ _ _ h hPC hPR hS (lv_sub hl [0, 1, 2, 3] rfl)
          · have h := h.2 q
            refine lv_iconst (v := 0) hx hb d_law_236 ic_0 ?_
            exact False.elim h
        by_cases q6 : ((xs y3.toNatClampNeg) &&& 15) = 6
        · have h := h.2.2.2.2.2.2.1 q6
          refine lv_tableIn (off := 206) (tgt := 238) hx hb d_law_32 (by rw [q6]; decide) (by rw [q6]; decide) (by rw [q6]; rfl) rfl ?_
          refine lv_aload_n hx hb d_law_238 rfl (lv_at hl 1 rfl) ?_
          refine q_TuneSetter_place (rest := []) ⟨hx, hb, hml, hown, hw⟩ hKC hDC hA hS hPC hPR hAp hl.1 (hw _ m_Law_41) (Nat.le_of_ble_eq_true rfl) ⟨Nat.le_of_ble_eq_true rfl, Nat.le_of_ble_eq_true rfl⟩ ⟨Nat.le_of_ble_eq_true rfl, Nat.le_of_ble_eq_true rfl⟩ d_law_239 h (fun r239 I239 A239 H locs h hPC hPR hS => ?_)
          refine lv_aload_n hx hb d_law_242 rfl (lv_at hl 2 rfl) ?_
          refine q_TuneSetterModel_place (rest := [.int r239]) ⟨hx, hb, hml, hown, hw⟩ hKR hDR hA hS hPC hPR hAp hl.1 (hw _ m_Law_44) (Nat.le_of_ble_eq_true rfl) ⟨Nat.le_of_ble_eq_true rfl, Nat.le_of_ble_eq_true rfl⟩ ⟨Nat.le_of_ble_eq_true rfl, Nat.le_of_ble_eq_true rfl⟩ d_law_243 h (fun r243 J243 B243 H locs h hPC hPR hS => ?_)
          refine lv_icmp_eq (tgt := 415) hx hb d_law_246 rfl (fun q => ?_) (fun q => ?_)
          · have h := h.1 q
            exact (j415 _ ih) y3 I239 A239 J243 B243 _ _ _ h hPC hPR hS (lv_sub hl [0, 1, 2, 3] rfl)
          · have h := h.2 q
            refine lv_iconst (v := 0) hx hb d_law_249 ic_0 ?_
            exact False.elim h
        by_cases q7 : ((xs y3.toNatClampNeg) &&& 15) = 7
        · have h := h.2.2.2.2.2.2.2.1 q7
          refine lv_tableIn (off := 219) (tgt := 251) hx hb d_law_32 (by rw [q7]; decide) (by rw [q7]; decide) (by rw [q7]; rfl) rfl ?_
          refine lv_aload_n hx hb d_law_251 rfl (lv_at hl 1 rfl) ?_
          refine q_TuneSetter_bars (rest := []) ⟨hx, hb, hml, hown, hw⟩ hKC hDC hA hS hPC hPR hAp hl.1 (hw _ m_Law_45) (Nat.le_of_ble_eq_true rfl) ⟨Nat.le_of_ble_eq_true rfl, Nat.le_of_ble_eq_true rfl⟩ ⟨Nat.le_of_ble_eq_true rfl, Nat.le_of_ble_eq_true rfl⟩ d_law_252 h (fun r252 I252 A252 H locs h hPC hPR hS => ?_)
          refine lv_aload_n hx hb d_law_255 rfl (lv_at hl 2 rfl) ?_
          refine q_TuneSetterModel_bars (rest := [.int r252]) ⟨hx, hb, hml, hown, hw⟩ hKR hDR hA hS hPC hPR hAp hl.1 (hw _ m_Law_48) (Nat.le_of_ble_eq_true rfl) ⟨Nat.le_of_ble_eq_true rfl, Nat.le_of_ble_eq_true rfl⟩ ⟨Nat.le_of_ble_eq_true rfl, Nat.le_of_ble_eq_true rfl⟩ d_law_256 h (fun r256 J256 B256 H locs h hPC hPR hS => ?_)
          refine lv_icmp_eq (tgt := 415) hx hb d_law_259 rfl (fun q => ?_) (fun q => ?_)
          · have h := h.1 q
            exact (j415 _ ih) y3 I252 A252 J256 B256 _ _ _ h hPC hPR hS (lv_sub hl [0, 1, 2, 3] rfl)
          · have h := h.2 q
            refine lv_iconst (v := 0) hx hb d_law_262 ic_0 ?_
            exact False.elim h
        by_cases q8 : ((xs y3.toNatClampNeg) &&& 15) = 8
        · have h := h.2.2.2.2.2.2.2.2.1 q8
          refine lv_tableIn (off := 232) (tgt := 264) hx hb d_law_32 (by rw [q8]; decide) (by rw [q8]; decide) (by rw [q8]; rfl) rfl ?_
          refine lv_aload_n hx hb d_law_264 rfl (lv_at hl 1 rfl) ?_
          refine q_TuneSetter_notes (rest := []) ⟨hx, hb, hml, hown, hw⟩ hKC hDC hA hS hPC hPR hAp hl.1 (hw _ m_Law_49) (Nat.le_of_ble_eq_true rfl) ⟨Nat.le_of_ble_eq_true rfl, Nat.le_of_ble_eq_true rfl⟩ ⟨Nat.le_of_ble_eq_true rfl, Nat.le_of_ble_eq_true rfl⟩ d_law_265 h (fun r265 I265 A265 H locs h hPC hPR hS => ?_)
          refine lv_aload_n hx hb d_law_268 rfl (lv_at hl 2 rfl) ?_
          refine q_TuneSetterModel_notes (rest := [.int r265]) ⟨hx, hb, hml, hown, hw⟩ hKR hDR hA hS hPC hPR hAp hl.1 (hw _ m_Law_52) (Nat.le_of_ble_eq_true rfl) ⟨Nat.le_of_ble_eq_true rfl, Nat.le_of_ble_eq_true rfl⟩ ⟨Nat.le_of_ble_eq_true rfl, Nat.le_of_ble_eq_true rfl⟩ d_law_269 h (fun r269 J269 B269 H locs h hPC hPR hS => ?_)
          refine lv_icmp_eq (tgt := 415) hx hb d_law_272 rfl (fun q => ?_) (fun q => ?_)
          · have h := h.1 q
            exact (j415 _ ih) y3 I265 A265 J269 B269 _ _ _ h hPC hPR hS (lv_sub hl [0, 1, 2, 3] rfl)
          · have h := h.2 q
            refine lv_iconst (v := 0) hx hb d_law_275 ic_0 ?_
            exact False.elim h
        by_cases q9 : ((xs y3.toNatClampNeg) &&& 15) = 9
        · have h := h.2.2.2.2.2.2.2.2.2.1 q9
          refine lv_tableIn (off := 245) (tgt := 277) hx hb d_law_32 (by rw [q9]; decide) (by rw [q9]; decide) (by rw [q9]; rfl) rfl ?_
          refine lv_aload_n hx hb d_law_277 rfl (lv_at hl 1 rfl) ?_
          refine lv_aload_n hx hb d_law_278 rfl (lv_at hl 0 rfl) ?_
          refine lv_iload_n hx hb d_law_279 rfl (lv_at hl 3 rfl) ?_
          refine lv_iconst (v := 1) hx hb d_law_280 ic_1 ?_
          refine lv_iadd hx hb d_law_281 ?_
          obtain ⟨hin, h⟩ := h
          refine va_sld hx hb hX hbl hbA hS hin d_law_282 ?_
          refine lv_aload_n hx hb d_law_283 rfl (lv_at hl 0 rfl) ?_
          refine lv_iload_n hx hb d_law_284 rfl (lv_at hl 3 rfl) ?_
          refine lv_iconst (v := 2) hx hb d_law_285 ic_2 ?_
          refine lv_iadd hx hb d_law_286 ?_
          obtain ⟨hin, h⟩ := h
          refine va_sld hx hb hX hbl hbA hS hin d_law_287 ?_
          refine q_TuneSetter_note (xs (y3 + 1).toNatClampNeg) (xs (y3 + 2).toNatClampNeg) (rest := []) ⟨hx, hb, hml, hown, hw⟩ hKC hDC hA hS hPC hPR hAp hl.1 (hw _ m_Law_53) (Nat.le_of_ble_eq_true rfl) ⟨Nat.le_of_ble_eq_true rfl, Nat.le_of_ble_eq_true rfl⟩ ⟨Nat.le_of_ble_eq_true rfl, Nat.le_of_ble_eq_true rfl⟩ d_law_288 h (fun r288 I288 A288 H locs h hPC hPR hS => ?_)
          refine lv_aload_n hx hb d_law_291 rfl (lv_at hl 2 rfl) ?_
          refine lv_aload_n hx hb d_law_292 rfl (lv_at hl 0 rfl) ?_
          refine lv_iload_n hx hb d_law_293 rfl (lv_at hl 3 rfl) ?_
          refine lv_iconst (v := 1) hx hb d_law_294 ic_1 ?_
          refine lv_iadd hx hb d_law_295 ?_
          obtain ⟨hin, h⟩ := h
          refine va_sld hx hb hX hbl hbA hS hin d_law_296 ?_
          refine lv_aload_n hx hb d_law_297 rfl (lv_at hl 0 rfl) ?_
          refine lv_iload_n hx hb d_law_298 rfl (lv_at hl 3 rfl) ?_
          refine lv_iconst (v := 2) hx hb d_law_299 ic_2 ?_
          refine lv_iadd hx hb d_law_300 ?_
          obtain ⟨hin, h⟩ := h
          refine va_sld hx hb hX hbl hbA hS hin d_law_301 ?_
          refine q_TuneSetterModel_note (xs (y3 + 1).toNatClampNeg) (xs (y3 + 2).toNatClampNeg) (rest := [.int r288]) ⟨hx, hb, hml, hown, hw⟩ hKR hDR hA hS hPC hPR hAp hl.1 (hw _ m_Law_57) (Nat.le_of_ble_eq_true rfl) ⟨Nat.le_of_ble_eq_true rfl, Nat.le_of_ble_eq_true rfl⟩ ⟨Nat.le_of_ble_eq_true rfl, Nat.le_of_ble_eq_true rfl⟩ d_law_302 h (fun r302 J302 B302 H locs h hPC hPR hS => ?_)
          refine lv_icmp_eq (tgt := 415) hx hb d_law_305 rfl (fun q => ?_) (fun q => ?_)
          · have h := h.1 q
            exact (j415 _ ih) y3 I288 A288 J302 B302 _ _ _ h hPC hPR hS (lv_sub hl [0, 1, 2, 3] rfl)
          · have h := h.2 q
            refine lv_iconst (v := 0) hx hb d_law_308 ic_0 ?_
            exact False.elim h
        by_cases q10 : ((xs y3.toNatClampNeg) &&& 15) = 10
        · have h := h.2.2.2.2.2.2.2.2.2.2.1 q10
          refine lv_tableIn (off := 278) (tgt := 310) hx hb d_law_32 (by rw [q10]; decide) (by rw [q10]; decide) (by rw [q10]; rfl) rfl ?_
          refine lv_aload_n hx hb d_law_310 rfl (lv_at hl 1 rfl) ?_
          refine lv_aload_n hx hb d_law_311 rfl (lv_at hl 0 rfl) ?_
          refine lv_iload_n hx hb d_law_312 rfl (lv_at hl 3 rfl) ?_
          refine lv_iconst (v := 1) hx hb d_law_313 ic_1 ?_
          refine lv_iadd hx hb d_law_314 ?_
          obtain ⟨hin, h⟩ := h
          refine va_sld hx hb hX hbl hbA hS hin d_law_315 ?_
          refine q_TuneSetter_width (xs (y3 + 1).toNatClampNeg) (rest := []) ⟨hx, hb, hml, hown, hw⟩ hKC hDC hA hS hPC hPR hAp hl.1 (hw _ m_Law_58) (Nat.le_of_ble_eq_true rfl) ⟨Nat.le_of_ble_eq_true rfl, Nat.le_of_ble_eq_true rfl⟩ ⟨Nat.le_of_ble_eq_true rfl, Nat.le_of_ble_eq_true rfl⟩ d_law_316 h (fun r316 I316 A316 H locs h hPC hPR hS => ?_)
          refine lv_aload_n hx hb d_law_319 rfl (lv_at hl 2 rfl) ?_
          refine lv_aload_n hx hb d_law_320 rfl (lv_at hl 0 rfl) ?_
          refine lv_iload_n hx hb d_law_321 rfl (lv_at hl 3 rfl) ?_
          refine lv_iconst (v := 1) hx hb d_law_322 ic_1 ?_
          refine lv_iadd hx hb d_law_323 ?_
          obtain ⟨hin, h⟩ := h
          refine va_sld hx hb hX hbl hbA hS hin d_law_324 ?_
          refine q_TuneSetterModel_width (xs (y3 + 1).toNatClampNeg) (rest := [.int r316]) ⟨hx, hb, hml, hown, hw⟩ hKR hDR hA hS hPC hPR hAp hl.1 (hw _ m_Law_62) (Nat.le_of_ble_eq_true rfl) ⟨Nat.le_of_ble_eq_true rfl, Nat.le_of_ble_eq_true rfl⟩ ⟨Nat.le_of_ble_eq_true rfl, Nat.le_of_ble_eq_true rfl⟩ d_law_325 h (fun r325 J325 B325 H locs h hPC hPR hS => ?_)
          refine lv_icmp_eq (tgt := 415) hx hb d_law_328 rfl (fun q => ?_) (fun q => ?_)
          · have h := h.1 q
            exact (j415 _ ih) y3 I316 A316 J325 B325 _ _ _ h hPC hPR hS (lv_sub hl [0, 1, 2, 3] rfl)
          · have h := h.2 q
            refine lv_iconst (v := 0) hx hb d_law_331 ic_0 ?_
            exact False.elim h
        by_cases q11 : ((xs y3.toNatClampNeg) &&& 15) = 11
        · have h := h.2.2.2.2.2.2.2.2.2.2.2.1 q11
          refine lv_tableIn (off := 301) (tgt := 333) hx hb d_law_32 (by rw [q11]; decide) (by rw [q11]; decide) (by rw [q11]; rfl) rfl ?_
          refine lv_aload_n hx hb d_law_333 rfl (lv_at hl 1 rfl) ?_
          refine q_TuneSetter_write (rest := []) ⟨hx, hb, hml, hown, hw⟩ hKC hDC hA hS hPC hPR hAp hl.1 (hw _ m_Law_63) (Nat.le_of_ble_eq_true rfl) ⟨Nat.le_of_ble_eq_true rfl, Nat.le_of_ble_eq_true rfl⟩ ⟨Nat.le_of_ble_eq_true rfl, Nat.le_of_ble_eq_true rfl⟩ d_law_334 h (fun r334 I334 A334 H locs h hPC hPR hS => ?_)
          refine lv_aload_n hx hb d_law_337 rfl (lv_at hl 2 rfl) ?_
          refine q_TuneSetterModel_write (rest := [.int r334]) ⟨hx, hb, hml, hown, hw⟩ hKR hDR hA hS hPC hPR hAp hl.1 (hw _ m_Law_66) (Nat.le_of_ble_eq_true rfl) ⟨Nat.le_of_ble_eq_true rfl, Nat.le_of_ble_eq_true rfl⟩ ⟨Nat.le_of_ble_eq_true rfl, Nat.le_of_ble_eq_true rfl⟩ d_law_338 h (fun r338 J338 B338 H locs h hPC hPR hS => ?_)
          refine lv_icmp_eq (tgt := 415) hx hb d_law_341 rfl (fun q => ?_) (fun q => ?_)
          · have h := h.1 q
            exact (j415 _ ih) y3 I334 A334 J338 B338 _ _ _ h hPC hPR hS (lv_sub hl [0, 1, 2, 3] rfl)
          · have h := h.2 q
            refine lv_iconst (v := 0) hx hb d_law_344 ic_0 ?_
            exact False.elim h
        by_cases q12 : ((xs y3.toNatClampNeg) &&& 15) = 12
        · have h := h.2.2.2.2.2.2.2.2.2.2.2.2.1 q12
          refine lv_tableIn (off := 314) (tgt := 346) hx hb d_law_32 (by rw [q12]; decide) (by rw [q12]; decide) (by rw [q12]; rfl) rfl ?_
          refine lv_aload_n hx hb d_law_346 rfl (lv_at hl 1 rfl) ?_
          refine lv_aload_n hx hb d_law_347 rfl (lv_at hl 0 rfl) ?_
          refine lv_iload_n hx hb d_law_348 rfl (lv_at hl 3 rfl) ?_
          refine lv_iconst (v := 1) hx hb d_law_349 ic_1 ?_
          refine lv_iadd hx hb d_law_350 ?_
          obtain ⟨hin, h⟩ := h
          refine va_sld hx hb hX hbl hbA hS hin d_law_351 ?_
          refine q_TuneSetter_byteAt (xs (y3 + 1).toNatClampNeg) (rest := []) ⟨hx, hb, hml, hown, hw⟩ hKC hDC hA hS hPC hPR hAp hl.1 (hw _ m_Law_67) (Nat.le_of_ble_eq_true rfl) ⟨Nat.le_of_ble_eq_true rfl, Nat.le_of_ble_eq_true rfl⟩ ⟨Nat.le_of_ble_eq_true rfl, Nat.le_of_ble_eq_true rfl⟩ d_law_352 h (fun r352 I352 A352 H locs h hPC hPR hS => ?_)
          refine lv_aload_n hx hb d_law_355 rfl (lv_at hl 2 rfl) ?_
          refine lv_aload_n hx hb d_law_356 rfl (lv_at hl 0 rfl) ?_
          refine lv_iload_n hx hb d_law_357 rfl (lv_at hl 3 rfl) ?_
          refine lv_iconst (v := 1) hx hb d_law_358 ic_1 ?_
          refine lv_iadd hx hb d_law_359 ?_
          obtain ⟨hin, h⟩ := h
          refine va_sld hx hb hX hbl hbA hS hin d_law_360 ?_
          refine q_TuneSetterModel_byteAt (xs (y3 + 1).toNatClampNeg) (rest := [.int r352]) ⟨hx, hb, hml, hown, hw⟩ hKR hDR hA hS hPC hPR hAp hl.1 (hw _ m_Law_70) (Nat.le_of_ble_eq_true rfl) ⟨Nat.le_of_ble_eq_true rfl, Nat.le_of_ble_eq_true rfl⟩ ⟨Nat.le_of_ble_eq_true rfl, Nat.le_of_ble_eq_true rfl⟩ d_law_361 h (fun r361 J361 B361 H locs h hPC hPR hS => ?_)
          refine lv_icmp_eq (tgt := 415) hx hb d_law_364 rfl (fun q => ?_) (fun q => ?_)
          · have h := h.1 q
            exact (j415 _ ih) y3 I352 A352 J361 B361 _ _ _ h hPC hPR hS (lv_sub hl [0, 1, 2, 3] rfl)
          · have h := h.2 q
            refine lv_iconst (v := 0) hx hb d_law_367 ic_0 ?_
            exact False.elim h
        by_cases q13 : ((xs y3.toNatClampNeg) &&& 15) = 13
        · have h := h.2.2.2.2.2.2.2.2.2.2.2.2.2.1 q13
          refine lv_tableIn (off := 337) (tgt := 369) hx hb d_law_32 (by rw [q13]; decide) (by rw [q13]; decide) (by rw [q13]; rfl) rfl ?_
          refine lv_aload_n hx hb d_law_369 rfl (lv_at hl 1 rfl) ?_
          refine lv_aload_n hx hb d_law_370 rfl (lv_at hl 0 rfl) ?_
          refine lv_iload_n hx hb d_law_371 rfl (lv_at hl 3 rfl) ?_
          refine lv_iconst (v := 1) hx hb d_law_372 ic_1 ?_
          refine lv_iadd hx hb d_law_373 ?_
          obtain ⟨hin, h⟩ := h
          refine va_sld hx hb hX hbl hbA hS hin d_law_374 ?_
          refine q_TuneSetter_breaking (xs (y3 + 1).toNatClampNeg) (rest := []) ⟨hx, hb, hml, hown, hw⟩ hKC hDC hA hS hPC hPR hAp hl.1 (hw _ m_Law_71) (Nat.le_of_ble_eq_true rfl) ⟨Nat.le_of_ble_eq_true rfl, Nat.le_of_ble_eq_true rfl⟩ ⟨Nat.le_of_ble_eq_true rfl, Nat.le_of_ble_eq_true rfl⟩ d_law_375 h (fun r375 I375 A375 H locs h hPC hPR hS => ?_)
          refine lv_aload_n hx hb d_law_378 rfl (lv_at hl 2 rfl) ?_
          refine lv_aload_n hx hb d_law_379 rfl (lv_at hl 0 rfl) ?_
          refine lv_iload_n hx hb d_law_380 rfl (lv_at hl 3 rfl) ?_
          refine lv_iconst (v := 1) hx hb d_law_381 ic_1 ?_
          refine lv_iadd hx hb d_law_382 ?_
          obtain ⟨hin, h⟩ := h
          refine va_sld hx hb hX hbl hbA hS hin d_law_383 ?_
          refine q_TuneSetterModel_breaking (xs (y3 + 1).toNatClampNeg) (rest := [.int r375]) ⟨hx, hb, hml, hown, hw⟩ hKR hDR hA hS hPC hPR hAp hl.1 (hw _ m_Law_74) (Nat.le_of_ble_eq_true rfl) ⟨Nat.le_of_ble_eq_true rfl, Nat.le_of_ble_eq_true rfl⟩ ⟨Nat.le_of_ble_eq_true rfl, Nat.le_of_ble_eq_true rfl⟩ d_law_384 h (fun r384 J384 B384 H locs h hPC hPR hS => ?_)
          refine lv_icmp_eq (tgt := 415) hx hb d_law_387 rfl (fun q => ?_) (fun q => ?_)
          · have h := h.1 q
            exact (j415 _ ih) y3 I375 A375 J384 B384 _ _ _ h hPC hPR hS (lv_sub hl [0, 1, 2, 3] rfl)
          · have h := h.2 q
            refine lv_iconst (v := 0) hx hb d_law_390 ic_0 ?_
            exact False.elim h
        by_cases q14 : ((xs y3.toNatClampNeg) &&& 15) = 14
        · have h := h.2.2.2.2.2.2.2.2.2.2.2.2.2.2.1 q14
          refine lv_tableIn (off := 360) (tgt := 392) hx hb d_law_32 (by rw [q14]; decide) (by rw [q14]; decide) (by rw [q14]; rfl) rfl ?_
          refine lv_aload_n hx hb d_law_392 rfl (lv_at hl 1 rfl) ?_
          refine lv_aload_n hx hb d_law_393 rfl (lv_at hl 0 rfl) ?_
          refine lv_iload_n hx hb d_law_394 rfl (lv_at hl 3 rfl) ?_
          refine lv_iconst (v := 1) hx hb d_law_395 ic_1 ?_
          refine lv_iadd hx hb d_law_396 ?_
          obtain ⟨hin, h⟩ := h
          refine va_sld hx hb hX hbl hbA hS hin d_law_397 ?_
          refine q_TuneSetter_lines (xs (y3 + 1).toNatClampNeg) (rest := []) ⟨hx, hb, hml, hown, hw⟩ hKC hDC hA hS hPC hPR hAp hl.1 (hw _ m_Law_75) (Nat.le_of_ble_eq_true rfl) ⟨Nat.le_of_ble_eq_true rfl, Nat.le_of_ble_eq_true rfl⟩ ⟨Nat.le_of_ble_eq_true rfl, Nat.le_of_ble_eq_true rfl⟩ d_law_398 h (fun r398 I398 A398 H locs h hPC hPR hS => ?_)
          refine lv_aload_n hx hb d_law_401 rfl (lv_at hl 2 rfl) ?_
          refine lv_aload_n hx hb d_law_402 rfl (lv_at hl 0 rfl) ?_
          refine lv_iload_n hx hb d_law_403 rfl (lv_at hl 3 rfl) ?_
          refine lv_iconst (v := 1) hx hb d_law_404 ic_1 ?_
          refine lv_iadd hx hb d_law_405 ?_
          obtain ⟨hin, h⟩ := h
          refine va_sld hx hb hX hbl hbA hS hin d_law_406 ?_
          refine q_TuneSetterModel_lines (xs (y3 + 1).toNatClampNeg) (rest := [.int r398]) ⟨hx, hb, hml, hown, hw⟩ hKR hDR hA hS hPC hPR hAp hl.1 (hw _ m_Law_78) (Nat.le_of_ble_eq_true rfl) ⟨Nat.le_of_ble_eq_true rfl, Nat.le_of_ble_eq_true rfl⟩ ⟨Nat.le_of_ble_eq_true rfl, Nat.le_of_ble_eq_true rfl⟩ d_law_407 h (fun r407 J407 B407 H locs h hPC hPR hS => ?_)
          refine lv_icmp_eq (tgt := 415) hx hb d_law_410 rfl (fun q => ?_) (fun q => ?_)
          · have h := h.1 q
            exact (j415 _ ih) y3 I398 A398 J407 B407 _ _ _ h hPC hPR hS (lv_sub hl [0, 1, 2, 3] rfl)
          · have h := h.2 q
            refine lv_iconst (v := 0) hx hb d_law_413 ic_0 ?_
            exact False.elim h
        · have h := h.2.2.2.2.2.2.2.2.2.2.2.2.2.2.2 q0 q1 q2 q3 q4 q5 q6 q7 q8 q9 q10 q11 q12 q13 q14
          have z0 := lv_neT (a := 0) q0 (by decide)
          have z1 := lv_neT (a := 1) q1 (by decide)
          have z2 := lv_neT (a := 2) q2 (by decide)
          have z3 := lv_neT (a := 3) q3 (by decide)
          have z4 := lv_neT (a := 4) q4 (by decide)
          have z5 := lv_neT (a := 5) q5 (by decide)
          have z6 := lv_neT (a := 6) q6 (by decide)
          have z7 := lv_neT (a := 7) q7 (by decide)
          have z8 := lv_neT (a := 8) q8 (by decide)
          have z9 := lv_neT (a := 9) q9 (by decide)
          have z10 := lv_neT (a := 10) q10 (by decide)
          have z11 := lv_neT (a := 11) q11 (by decide)
          have z12 := lv_neT (a := 12) q12 (by decide)
          have z13 := lv_neT (a := 13) q13 (by decide)
          have z14 := lv_neT (a := 14) q14 (by decide)
          refine lv_tableOut (tgt := 415) hx hb d_law_32 (by omega) rfl ?_
          exact (j415 _ ih) y3 I A J B _ _ _ h hPC hPR hS (lv_sub hl [0, 1, 2, 3] rfl)
  exact j18
set_option maxHeartbeats 8000000 in
set_option maxRecDepth 100000 in
theorem whole_start_of {p : Program} {e : Env} {s : State} {m : MethodId} {below : List Frame} {meth : Method} {c : Code} (l : Launch) {b L : Nat} {xs : Nat → Int32} (hpure : ∃ n, wp_law_18 L xs n 0 I0C A0 I0R A0) (C0 : lw_At p s m meth c b L xs) : W p l e room_1 s m #[Value.ref b] below meth c s.heap [] 0 0 (lw_Z below #[Value.ref b] s) (entryFrame m ([Value.ref b] : List Value).toArray 4) := by
  have C1 := C0
  obtain ⟨hx, hb, hr, hml, hown, ht, hX, hbl, hlocks, hgv⟩ := C0
  have hw := W_tbl ht
  obtain ⟨D, cA, hK⟩ := K_known hw
  have hN := NW_known ht
  obtain ⟨AA, hAA⟩ : ∃ AA : Nat → Prop, AA = fun q => s.heap.size ≤ q := ⟨_, rfl⟩
  have hA : ∀ q : Nat, s.heap.size ≤ q → AA q := fun q h => by rw [hAA]; exact h
  have hnA : ∀ q : Nat, q < s.heap.size → ¬ AA q := fun q h => by rw [hAA]; exact Nat.not_le.mpr h
  obtain ⟨t0, z0⟩ := st_NATURAL (AA := AA) ht hgv hnA
  obtain ⟨t1, z1⟩ := st_PLACE_AMONG_SHARPS (AA := AA) ht hgv hnA
  obtain ⟨t2, z2⟩ := st_MAY (AA := AA) ht hgv hnA
  obtain ⟨t3, z3⟩ := st_HEAD (AA := AA) ht hgv hnA
  obtain ⟨t4, z4⟩ := st_TAIL (AA := AA) ht hgv hnA
  have hS : va_S AA s.heap s.heap [] := va_S.rf
  have hP : va_P D cls [] s.heap := fun k q h => by simp at h
  have hD : va_D AA [] := ⟨fun i j p q h => by simp at h, fun k q h => by simp at h⟩
  have hl := lv_entry ([.ref b]) (n := 4) (Nat.le_of_ble_eq_true rfl)
  rw [lg_entry_eq]
  generalize (lg_sl ([.ref b]) ++ List.replicate (4 - (lg_sl ([.ref b])).length) Slot.unset).toArray = ls at hl ⊢
  have hl : lv_has ls 4 [(0, .ref b)] := hl
  refine va_new (ci := 0) (fs := [.null, .null, .null, .null, .null, .int 0, .int 0, .int 0, .int 0, .int 0, .int 0]) (C := R_TuneSetter) (T := F_TuneSetter) (N := 11) hx hb hw in_TuneSetter t_TuneSetter t_TuneSetter_ok hown (hw _ m_Law_7) (hw _ mt_TuneSetter) (hw _ mi_TuneSetter) hK hP hD hS hA rfl df_TuneSetter (Nat.le_of_ble_eq_true rfl) (Nat.le_of_ble_eq_true rfl) d_law_0 (fun q0 H hP hD hS => ?_)
  have hP : va_P D cls [(q0, .inr (0, [.null, .null, .null, .null, .null, .int 0, .int 0, .int 0, .int 0, .int 0, .int 0]))] H := hP
  have hD : va_D AA [(q0, .inr (0, [.null, .null, .null, .null, .null, .int 0, .int 0, .int 0, .int 0, .int 0, .int 0]))] := hD
  refine W.widen (k := 1) (n := 11) (Nat.le_of_ble_eq_true rfl) (Nat.le_of_ble_eq_true rfl) ?_
  refine lv_dup hx hb d_law_3 rfl ?_
  have hFc := va_free (wc := [(q0, .inr (0, [.null, .null, .null, .null, .null, .int 0, .int 0, .int 0, .int 0, .int 0, .int 0]))]) hD hS hA [0] rfl
  refine va_callv (va_runI (As := []) (rest := [.ref q0]) ⟨hx, hb, hml, hown, hw⟩ (c_TuneSetter_init l D cA q0 H.size) ⟨callB_of 0 hw g_TuneSetter_init rfl rfl rfl (hw _ mi_TuneSetter) (hw _ m_Law_9) ⟨by decide, by decide, by decide +kernel⟩ ⟨Nat.le_of_ble_eq_true rfl, Nat.le_of_ble_eq_true rfl⟩, rfl, hw _ mn_TuneSetter_init⟩ (preI hP hD hK hN) rfl rfl hl.1 rfl (lv_room (Nat.le_of_ble_eq_true rfl)) d_law_4 ⟨Nat.le_of_ble_eq_true rfl, Nat.le_of_ble_eq_true rfl⟩) hS (fun q _ h => hFc q h) hFc (fun u4 t H1 locs ht hvm _ hB hz1 hk1 hS => ?_)
  obtain ⟨hP1, hD1⟩ := hB
  rw [ht] at hP1
  obtain ⟨hP, hD⟩ := va_join (wr := []) (w1 := [(q0, .inr (0, [.ref (u4 1), .ref (u4 2), .ref (u4 16), .ref (u4 22), .ref (u4 25), .int 0, .int 384, .int 48, .int 0, .int 0, .int (-1)])), ((u4 1), .inl (cA 1, 120, .inl (fun _ => 0))), ((u4 2), .inr (1, [.ref (u4 3), .int 0, .int 0, .ref (u4 13), .ref (u4 15), .int 0, .int 0, .int 0, .int 0, .int 0, .int 0, .int 0, .int 0, .int 0, .int 0, .int 0])), ((u4 3), .inr (2, [.ref (u4 4), .ref (u4 5), .ref (u4 6), .ref (u4 7), .ref (u4 8), .ref (u4 9), .ref (u4 10), .ref (u4 11), .ref (u4 12), .int 0, .int 0, .int 0])), ((u4 4), .inl (cA 0, 9, .inl (fun _ => 0))), ((u4 5), .inl (cA 0, 8, .inl (fun _ => 0))), ((u4 6), .inl (cA 0, 8, .inl (fun _ => 0))), ((u4 7), .inl (cA 0, 8, .inl (fun _ => 0))), ((u4 8), .inl (cA 0, 9, .inl (fun _ => 0))), ((u4 9), .inl (cA 0, 49, .inl (fun _ => 0))), ((u4 10), .inl (cA 0, 48, .inl (fun _ => 0))), ((u4 11), .inl (cA 2, 48, .inl (fun _ => 0))), ((u4 12), .inl (cA 0, 120, .inl (fun _ => 0))), ((u4 13), .inr (3, [.ref (u4 14), .int 0, .int 99, .int 0, .int 0])), ((u4 14), .inl (cA 0, 132, .inl (fun _ => 0))), ((u4 15), .inr (4, [.int 1, .int 1, .int 0])), ((u4 16), .inr (5, [.ref (u4 17), .ref (u4 18), .ref (u4 19), .int 0, .int 0, .int 0, .ref (u4 20), .int 0, .ref (u4 21), .int 0])), ((u4 17), .inl (cA 0, 64, .inl (fun _ => 0))), ((u4 18), .inl (cA 0, 64, .inl (fun _ => 0))), ((u4 19), .inl (cA 0, 64, .inl (fun _ => 0))), ((u4 20), .inl (cA 0, 4, .inl (fun _ => 0))), ((u4 21), .inl (cA 0, 4, .inl (fun _ => 0))), ((u4 22), .inr (6, [.ref (u4 23), .int 0, .ref (u4 24), .int 0])), ((u4 23), .inl (cA 0, 794, .inl (fun _ => 0))), ((u4 24), .inl (cA 0, 128, .inl (fun _ => 0))), ((u4 25), .inr (7, [.ref (u4 26), .ref (u4 27)])), ((u4 26), .inl (cA 0, 9, .inl (fun _ => 0))), ((u4 27), .inl (cA 0, 9, .inl (fun _ => 0)))]) hP hD [0] [] rfl rfl (by decide) (by decide) hk1 hFc hP1 hD1
  generalize H1 = H at hP hS ⊢
  have hP : va_P D cls [(q0, .inr (0, [.ref (u4 1), .ref (u4 2), .ref (u4 16), .ref (u4 22), .ref (u4 25), .int 0, .int 384, .int 48, .int 0, .int 0, .int (-1)])), ((u4 1), .inl (cA 1, 120, .inl (fun _ => 0))), ((u4 2), .inr (1, [.ref (u4 3), .int 0, .int 0, .ref (u4 13), .ref (u4 15), .int 0, .int 0, .int 0, .int 0, .int 0, .int 0, .int 0, .int 0, .int 0, .int 0, .int 0])), ((u4 3), .inr (2, [.ref (u4 4), .ref (u4 5), .ref (u4 6), .ref (u4 7), .ref (u4 8), .ref (u4 9), .ref (u4 10), .ref (u4 11), .ref (u4 12), .int 0, .int 0, .int 0])), ((u4 4), .inl (cA 0, 9, .inl (fun _ => 0))), ((u4 5), .inl (cA 0, 8, .inl (fun _ => 0))), ((u4 6), .inl (cA 0, 8, .inl (fun _ => 0))), ((u4 7), .inl (cA 0, 8, .inl (fun _ => 0))), ((u4 8), .inl (cA 0, 9, .inl (fun _ => 0))), ((u4 9), .inl (cA 0, 49, .inl (fun _ => 0))), ((u4 10), .inl (cA 0, 48, .inl (fun _ => 0))), ((u4 11), .inl (cA 2, 48, .inl (fun _ => 0))), ((u4 12), .inl (cA 0, 120, .inl (fun _ => 0))), ((u4 13), .inr (3, [.ref (u4 14), .int 0, .int 99, .int 0, .int 0])), ((u4 14), .inl (cA 0, 132, .inl (fun _ => 0))), ((u4 15), .inr (4, [.int 1, .int 1, .int 0])), ((u4 16), .inr (5, [.ref (u4 17), .ref (u4 18), .ref (u4 19), .int 0, .int 0, .int 0, .ref (u4 20), .int 0, .ref (u4 21), .int 0])), ((u4 17), .inl (cA 0, 64, .inl (fun _ => 0))), ((u4 18), .inl (cA 0, 64, .inl (fun _ => 0))), ((u4 19), .inl (cA 0, 64, .inl (fun _ => 0))), ((u4 20), .inl (cA 0, 4, .inl (fun _ => 0))), ((u4 21), .inl (cA 0, 4, .inl (fun _ => 0))), ((u4 22), .inr (6, [.ref (u4 23), .int 0, .ref (u4 24), .int 0])), ((u4 23), .inl (cA 0, 794, .inl (fun _ => 0))), ((u4 24), .inl (cA 0, 128, .inl (fun _ => 0))), ((u4 25), .inr (7, [.ref (u4 26), .ref (u4 27)])), ((u4 26), .inl (cA 0, 9, .inl (fun _ => 0))), ((u4 27), .inl (cA 0, 9, .inl (fun _ => 0)))] H := hP
  have hD : va_D AA [(q0, .inr (0, [.ref (u4 1), .ref (u4 2), .ref (u4 16), .ref (u4 22), .ref (u4 25), .int 0, .int 384, .int 48, .int 0, .int 0, .int (-1)])), ((u4 1), .inl (cA 1, 120, .inl (fun _ => 0))), ((u4 2), .inr (1, [.ref (u4 3), .int 0, .int 0, .ref (u4 13), .ref (u4 15), .int 0, .int 0, .int 0, .int 0, .int 0, .int 0, .int 0, .int 0, .int 0, .int 0, .int 0])), ((u4 3), .inr (2, [.ref (u4 4), .ref (u4 5), .ref (u4 6), .ref (u4 7), .ref (u4 8), .ref (u4 9), .ref (u4 10), .ref (u4 11), .ref (u4 12), .int 0, .int 0, .int 0])), ((u4 4), .inl (cA 0, 9, .inl (fun _ => 0))), ((u4 5), .inl (cA 0, 8, .inl (fun _ => 0))), ((u4 6), .inl (cA 0, 8, .inl (fun _ => 0))), ((u4 7), .inl (cA 0, 8, .inl (fun _ => 0))), ((u4 8), .inl (cA 0, 9, .inl (fun _ => 0))), ((u4 9), .inl (cA 0, 49, .inl (fun _ => 0))), ((u4 10), .inl (cA 0, 48, .inl (fun _ => 0))), ((u4 11), .inl (cA 2, 48, .inl (fun _ => 0))), ((u4 12), .inl (cA 0, 120, .inl (fun _ => 0))), ((u4 13), .inr (3, [.ref (u4 14), .int 0, .int 99, .int 0, .int 0])), ((u4 14), .inl (cA 0, 132, .inl (fun _ => 0))), ((u4 15), .inr (4, [.int 1, .int 1, .int 0])), ((u4 16), .inr (5, [.ref (u4 17), .ref (u4 18), .ref (u4 19), .int 0, .int 0, .int 0, .ref (u4 20), .int 0, .ref (u4 21), .int 0])), ((u4 17), .inl (cA 0, 64, .inl (fun _ => 0))), ((u4 18), .inl (cA 0, 64, .inl (fun _ => 0))), ((u4 19), .inl (cA 0, 64, .inl (fun _ => 0))), ((u4 20), .inl (cA 0, 4, .inl (fun _ => 0))), ((u4 21), .inl (cA 0, 4, .inl (fun _ => 0))), ((u4 22), .inr (6, [.ref (u4 23), .int 0, .ref (u4 24), .int 0])), ((u4 23), .inl (cA 0, 794, .inl (fun _ => 0))), ((u4 24), .inl (cA 0, 128, .inl (fun _ => 0))), ((u4 25), .inr (7, [.ref (u4 26), .ref (u4 27)])), ((u4 26), .inl (cA 0, 9, .inl (fun _ => 0))), ((u4 27), .inl (cA 0, 9, .inl (fun _ => 0)))] := hD
  refine W.widen (k := 28) (n := 1762) (Nat.le_of_ble_eq_true rfl) (Nat.le_of_ble_eq_true rfl) ?_
  refine lv_astore_n (lv' := [(1, .ref q0), (0, .ref b)]) hx hb d_law_7 rfl hl (by decide) rfl (fun ls hl => ?_)
  refine va_new (ci := 8) (fs := [.int 0, .int 0, .int 0, .int 0, .null, .int 0, .int 0, .int 0, .int 0, .null, .null, .null, .null, .int 0, .null, .null, .null, .null, .null, .int 0, .int 0, .int 0, .int 0, .int 0, .int 0, .int 0, .int 0, .int 0, .int 0, .int 0, .int 0, .int 0, .int 0, .int 0, .null, .int 0, .null, .int 0, .null, .null, .null, .null, .int 0, .null, .null, .null]) (C := R_TuneSetterModel) (T := F_TuneSetterModel) (N := 46) hx hb hw in_TuneSetterModel t_TuneSetterModel t_TuneSetterModel_ok hown (hw _ m_Law_10) (hw _ mt_TuneSetterModel) (hw _ mi_TuneSetterModel) hK hP hD hS hA rfl df_TuneSetterModel (Nat.le_of_ble_eq_true rfl) (Nat.le_of_ble_eq_true rfl) d_law_8 (fun q8 H hP hD hS => ?_)
  have hP : va_P D cls [(q0, .inr (0, [.ref (u4 1), .ref (u4 2), .ref (u4 16), .ref (u4 22), .ref (u4 25), .int 0, .int 384, .int 48, .int 0, .int 0, .int (-1)])), ((u4 1), .inl (cA 1, 120, .inl (fun _ => 0))), ((u4 2), .inr (1, [.ref (u4 3), .int 0, .int 0, .ref (u4 13), .ref (u4 15), .int 0, .int 0, .int 0, .int 0, .int 0, .int 0, .int 0, .int 0, .int 0, .int 0, .int 0])), ((u4 3), .inr (2, [.ref (u4 4), .ref (u4 5), .ref (u4 6), .ref (u4 7), .ref (u4 8), .ref (u4 9), .ref (u4 10), .ref (u4 11), .ref (u4 12), .int 0, .int 0, .int 0])), ((u4 4), .inl (cA 0, 9, .inl (fun _ => 0))), ((u4 5), .inl (cA 0, 8, .inl (fun _ => 0))), ((u4 6), .inl (cA 0, 8, .inl (fun _ => 0))), ((u4 7), .inl (cA 0, 8, .inl (fun _ => 0))), ((u4 8), .inl (cA 0, 9, .inl (fun _ => 0))), ((u4 9), .inl (cA 0, 49, .inl (fun _ => 0))), ((u4 10), .inl (cA 0, 48, .inl (fun _ => 0))), ((u4 11), .inl (cA 2, 48, .inl (fun _ => 0))), ((u4 12), .inl (cA 0, 120, .inl (fun _ => 0))), ((u4 13), .inr (3, [.ref (u4 14), .int 0, .int 99, .int 0, .int 0])), ((u4 14), .inl (cA 0, 132, .inl (fun _ => 0))), ((u4 15), .inr (4, [.int 1, .int 1, .int 0])), ((u4 16), .inr (5, [.ref (u4 17), .ref (u4 18), .ref (u4 19), .int 0, .int 0, .int 0, .ref (u4 20), .int 0, .ref (u4 21), .int 0])), ((u4 17), .inl (cA 0, 64, .inl (fun _ => 0))), ((u4 18), .inl (cA 0, 64, .inl (fun _ => 0))), ((u4 19), .inl (cA 0, 64, .inl (fun _ => 0))), ((u4 20), .inl (cA 0, 4, .inl (fun _ => 0))), ((u4 21), .inl (cA 0, 4, .inl (fun _ => 0))), ((u4 22), .inr (6, [.ref (u4 23), .int 0, .ref (u4 24), .int 0])), ((u4 23), .inl (cA 0, 794, .inl (fun _ => 0))), ((u4 24), .inl (cA 0, 128, .inl (fun _ => 0))), ((u4 25), .inr (7, [.ref (u4 26), .ref (u4 27)])), ((u4 26), .inl (cA 0, 9, .inl (fun _ => 0))), ((u4 27), .inl (cA 0, 9, .inl (fun _ => 0))), (q8, .inr (8, [.int 0, .int 0, .int 0, .int 0, .null, .int 0, .int 0, .int 0, .int 0, .null, .null, .null, .null, .int 0, .null, .null, .null, .null, .null, .int 0, .int 0, .int 0, .int 0, .int 0, .int 0, .int 0, .int 0, .int 0, .int 0, .int 0, .int 0, .int 0, .int 0, .int 0, .null, .int 0, .null, .int 0, .null, .null, .null, .null, .int 0, .null, .null, .null]))] H := hP
  have hD : va_D AA [(q0, .inr (0, [.ref (u4 1), .ref (u4 2), .ref (u4 16), .ref (u4 22), .ref (u4 25), .int 0, .int 384, .int 48, .int 0, .int 0, .int (-1)])), ((u4 1), .inl (cA 1, 120, .inl (fun _ => 0))), ((u4 2), .inr (1, [.ref (u4 3), .int 0, .int 0, .ref (u4 13), .ref (u4 15), .int 0, .int 0, .int 0, .int 0, .int 0, .int 0, .int 0, .int 0, .int 0, .int 0, .int 0])), ((u4 3), .inr (2, [.ref (u4 4), .ref (u4 5), .ref (u4 6), .ref (u4 7), .ref (u4 8), .ref (u4 9), .ref (u4 10), .ref (u4 11), .ref (u4 12), .int 0, .int 0, .int 0])), ((u4 4), .inl (cA 0, 9, .inl (fun _ => 0))), ((u4 5), .inl (cA 0, 8, .inl (fun _ => 0))), ((u4 6), .inl (cA 0, 8, .inl (fun _ => 0))), ((u4 7), .inl (cA 0, 8, .inl (fun _ => 0))), ((u4 8), .inl (cA 0, 9, .inl (fun _ => 0))), ((u4 9), .inl (cA 0, 49, .inl (fun _ => 0))), ((u4 10), .inl (cA 0, 48, .inl (fun _ => 0))), ((u4 11), .inl (cA 2, 48, .inl (fun _ => 0))), ((u4 12), .inl (cA 0, 120, .inl (fun _ => 0))), ((u4 13), .inr (3, [.ref (u4 14), .int 0, .int 99, .int 0, .int 0])), ((u4 14), .inl (cA 0, 132, .inl (fun _ => 0))), ((u4 15), .inr (4, [.int 1, .int 1, .int 0])), ((u4 16), .inr (5, [.ref (u4 17), .ref (u4 18), .ref (u4 19), .int 0, .int 0, .int 0, .ref (u4 20), .int 0, .ref (u4 21), .int 0])), ((u4 17), .inl (cA 0, 64, .inl (fun _ => 0))), ((u4 18), .inl (cA 0, 64, .inl (fun _ => 0))), ((u4 19), .inl (cA 0, 64, .inl (fun _ => 0))), ((u4 20), .inl (cA 0, 4, .inl (fun _ => 0))), ((u4 21), .inl (cA 0, 4, .inl (fun _ => 0))), ((u4 22), .inr (6, [.ref (u4 23), .int 0, .ref (u4 24), .int 0])), ((u4 23), .inl (cA 0, 794, .inl (fun _ => 0))), ((u4 24), .inl (cA 0, 128, .inl (fun _ => 0))), ((u4 25), .inr (7, [.ref (u4 26), .ref (u4 27)])), ((u4 26), .inl (cA 0, 9, .inl (fun _ => 0))), ((u4 27), .inl (cA 0, 9, .inl (fun _ => 0))), (q8, .inr (8, [.int 0, .int 0, .int 0, .int 0, .null, .int 0, .int 0, .int 0, .int 0, .null, .null, .null, .null, .int 0, .null, .null, .null, .null, .null, .int 0, .int 0, .int 0, .int 0, .int 0, .int 0, .int 0, .int 0, .int 0, .int 0, .int 0, .int 0, .int 0, .int 0, .int 0, .null, .int 0, .null, .int 0, .null, .null, .null, .null, .int 0, .null, .null, .null]))] := hD
  refine W.widen (k := 29) (n := 1808) (Nat.le_of_ble_eq_true rfl) (Nat.le_of_ble_eq_true rfl) ?_
  refine lv_dup hx hb d_law_11 rfl ?_
  have hPc := hP.sub (ws' := [(q8, .inr (8, [.int 0, .int 0, .int 0, .int 0, .null, .int 0, .int 0, .int 0, .int 0, .null, .null, .null, .null, .int 0, .null, .null, .null, .null, .null, .int 0, .int 0, .int 0, .int 0, .int 0, .int 0, .int 0, .int 0, .int 0, .int 0, .int 0, .int 0, .int 0, .int 0, .int 0, .null, .int 0, .null, .int 0, .null, .null, .null, .null, .int 0, .null, .null, .null]))]) [28] rfl
  have hDc := hD.sub (ws' := [(q8, .inr (8, [.int 0, .int 0, .int 0, .int 0, .null, .int 0, .int 0, .int 0, .int 0, .null, .null, .null, .null, .int 0, .null, .null, .null, .null, .null, .int 0, .int 0, .int 0, .int 0, .int 0, .int 0, .int 0, .int 0, .int 0, .int 0, .int 0, .int 0, .int 0, .int 0, .int 0, .null, .int 0, .null, .int 0, .null, .null, .null, .null, .int 0, .null, .null, .null]))]) [28] (by decide) rfl
  have hFc := va_free (wc := [(q8, .inr (8, [.int 0, .int 0, .int 0, .int 0, .null, .int 0, .int 0, .int 0, .int 0, .null, .null, .null, .null, .int 0, .null, .null, .null, .null, .null, .int 0, .int 0, .int 0, .int 0, .int 0, .int 0, .int 0, .int 0, .int 0, .int 0, .int 0, .int 0, .int 0, .int 0, .int 0, .null, .int 0, .null, .int 0, .null, .null, .null, .null, .int 0, .null, .null, .null]))]) hD hS hA [28] rfl
  refine va_callv (va_runI (As := []) (rest := [.ref q8]) ⟨hx, hb, hml, hown, hw⟩ (c_TuneSetterModel_init l D cA q8 H.size) ⟨callB_of 0 hw g_TuneSetterModel_init rfl rfl rfl (hw _ mi_TuneSetterModel) (hw _ m_Law_12) ⟨by decide, by decide, by decide +kernel⟩ ⟨Nat.le_of_ble_eq_true rfl, Nat.le_of_ble_eq_true rfl⟩, rfl, hw _ mn_TuneSetterModel_init⟩ (preI hPc hDc hK hN) rfl rfl hl.1 rfl (lv_room (Nat.le_of_ble_eq_true rfl)) d_law_12 ⟨Nat.le_of_ble_eq_true rfl, Nat.le_of_ble_eq_true rfl⟩) hS (fun q _ h => hFc q h) hFc (fun u12 t H1 locs ht hvm _ hB hz1 hk1 hS => ?_)
  obtain ⟨hP1, hD1⟩ := hB
  rw [ht] at hP1
  obtain ⟨hP, hD⟩ := va_join (wr := [(q0, .inr (0, [.ref (u4 1), .ref (u4 2), .ref (u4 16), .ref (u4 22), .ref (u4 25), .int 0, .int 384, .int 48, .int 0, .int 0, .int (-1)])), ((u4 1), .inl (cA 1, 120, .inl (fun _ => 0))), ((u4 2), .inr (1, [.ref (u4 3), .int 0, .int 0, .ref (u4 13), .ref (u4 15), .int 0, .int 0, .int 0, .int 0, .int 0, .int 0, .int 0, .int 0, .int 0, .int 0, .int 0])), ((u4 3), .inr (2, [.ref (u4 4), .ref (u4 5), .ref (u4 6), .ref (u4 7), .ref (u4 8), .ref (u4 9), .ref (u4 10), .ref (u4 11), .ref (u4 12), .int 0, .int 0, .int 0])), ((u4 4), .inl (cA 0, 9, .inl (fun _ => 0))), ((u4 5), .inl (cA 0, 8, .inl (fun _ => 0))), ((u4 6), .inl (cA 0, 8, .inl (fun _ => 0))), ((u4 7), .inl (cA 0, 8, .inl (fun _ => 0))), ((u4 8), .inl (cA 0, 9, .inl (fun _ => 0))), ((u4 9), .inl (cA 0, 49, .inl (fun _ => 0))), ((u4 10), .inl (cA 0, 48, .inl (fun _ => 0))), ((u4 11), .inl (cA 2, 48, .inl (fun _ => 0))), ((u4 12), .inl (cA 0, 120, .inl (fun _ => 0))), ((u4 13), .inr (3, [.ref (u4 14), .int 0, .int 99, .int 0, .int 0])), ((u4 14), .inl (cA 0, 132, .inl (fun _ => 0))), ((u4 15), .inr (4, [.int 1, .int 1, .int 0])), ((u4 16), .inr (5, [.ref (u4 17), .ref (u4 18), .ref (u4 19), .int 0, .int 0, .int 0, .ref (u4 20), .int 0, .ref (u4 21), .int 0])), ((u4 17), .inl (cA 0, 64, .inl (fun _ => 0))), ((u4 18), .inl (cA 0, 64, .inl (fun _ => 0))), ((u4 19), .inl (cA 0, 64, .inl (fun _ => 0))), ((u4 20), .inl (cA 0, 4, .inl (fun _ => 0))), ((u4 21), .inl (cA 0, 4, .inl (fun _ => 0))), ((u4 22), .inr (6, [.ref (u4 23), .int 0, .ref (u4 24), .int 0])), ((u4 23), .inl (cA 0, 794, .inl (fun _ => 0))), ((u4 24), .inl (cA 0, 128, .inl (fun _ => 0))), ((u4 25), .inr (7, [.ref (u4 26), .ref (u4 27)])), ((u4 26), .inl (cA 0, 9, .inl (fun _ => 0))), ((u4 27), .inl (cA 0, 9, .inl (fun _ => 0)))]) (w1 := [(q8, .inr (8, [.int 4, .int 4, .int 8, .int 0, .ref (u12 1), .int 0, .int 0, .int 0, .int (-1), .ref (u12 2), .ref (u12 3), .ref (u12 4), .ref (u12 5), .int 0, .ref (u12 6), .ref (u12 7), .ref (u12 8), .ref (u12 9), .ref (u12 10), .int 0, .int 0, .int 0, .int 0, .int 0, .int 0, .int 0, .int 0, .int 0, .int 0, .int 0, .int 0, .int 0, .int 0, .int 0, .ref (u12 11), .int 0, .ref (u12 12), .int 0, .ref (u12 13), .ref (u12 14), .ref (u12 15), .ref (u12 16), .int 0, .ref (u12 17), .ref (u12 18), .ref (u12 19)])), ((u12 1), .inl (cA 0, 121, .inl (fun _ => 0))), ((u12 2), .inl (cA 0, 9, .inl (fun _ => 0))), ((u12 3), .inl (cA 0, 8, .inl (fun _ => 0))), ((u12 4), .inl (cA 0, 8, .inl (fun _ => 0))), ((u12 5), .inl (cA 0, 9, .inl (fun _ => 0))), ((u12 6), .inl (cA 0, 48, .inl (fun _ => 0))), ((u12 7), .inl (cA 2, 48, .inl (fun _ => 0))), ((u12 8), .inl (cA 0, 48, .inl (fun _ => 0))), ((u12 9), .inl (cA 0, 48, .inl (fun _ => 0))), ((u12 10), .inl (cA 0, 192, .inl (fun _ => 0))), ((u12 11), .inl (cA 0, 112, .inl (fun _ => 0))), ((u12 12), .inl (cA 0, 96, .inl (fun _ => 0))), ((u12 13), .inl (cA 0, 64, .inl (fun _ => 0))), ((u12 14), .inl (cA 0, 64, .inl (fun _ => 0))), ((u12 15), .inl (cA 0, 64, .inl (fun _ => 0))), ((u12 16), .inl (cA 0, 384, .inl (fun _ => 0))), ((u12 17), .inl (cA 0, 900, .inl (fun _ => 0))), ((u12 18), .inl (cA 0, 9, .inl (fun _ => 0))), ((u12 19), .inl (cA 0, 9, .inl (fun _ => 0)))]) hP hD [28] [0, 1, 2, 3, 4, 5, 6, 7, 8, 9, 10, 11, 12, 13, 14, 15, 16, 17, 18, 19, 20, 21, 22, 23, 24, 25, 26, 27] rfl rfl (by decide) (by decide) hk1 hFc hP1 hD1
  generalize H1 = H at hP hS ⊢
  have hP : va_P D cls [(q0, .inr (0, [.ref (u4 1), .ref (u4 2), .ref (u4 16), .ref (u4 22), .ref (u4 25), .int 0, .int 384, .int 48, .int 0, .int 0, .int (-1)])), ((u4 1), .inl (cA 1, 120, .inl (fun _ => 0))), ((u4 2), .inr (1, [.ref (u4 3), .int 0, .int 0, .ref (u4 13), .ref (u4 15), .int 0, .int 0, .int 0, .int 0, .int 0, .int 0, .int 0, .int 0, .int 0, .int 0, .int 0])), ((u4 3), .inr (2, [.ref (u4 4), .ref (u4 5), .ref (u4 6), .ref (u4 7), .ref (u4 8), .ref (u4 9), .ref (u4 10), .ref (u4 11), .ref (u4 12), .int 0, .int 0, .int 0])), ((u4 4), .inl (cA 0, 9, .inl (fun _ => 0))), ((u4 5), .inl (cA 0, 8, .inl (fun _ => 0))), ((u4 6), .inl (cA 0, 8, .inl (fun _ => 0))), ((u4 7), .inl (cA 0, 8, .inl (fun _ => 0))), ((u4 8), .inl (cA 0, 9, .inl (fun _ => 0))), ((u4 9), .inl (cA 0, 49, .inl (fun _ => 0))), ((u4 10), .inl (cA 0, 48, .inl (fun _ => 0))), ((u4 11), .inl (cA 2, 48, .inl (fun _ => 0))), ((u4 12), .inl (cA 0, 120, .inl (fun _ => 0))), ((u4 13), .inr (3, [.ref (u4 14), .int 0, .int 99, .int 0, .int 0])), ((u4 14), .inl (cA 0, 132, .inl (fun _ => 0))), ((u4 15), .inr (4, [.int 1, .int 1, .int 0])), ((u4 16), .inr (5, [.ref (u4 17), .ref (u4 18), .ref (u4 19), .int 0, .int 0, .int 0, .ref (u4 20), .int 0, .ref (u4 21), .int 0])), ((u4 17), .inl (cA 0, 64, .inl (fun _ => 0))), ((u4 18), .inl (cA 0, 64, .inl (fun _ => 0))), ((u4 19), .inl (cA 0, 64, .inl (fun _ => 0))), ((u4 20), .inl (cA 0, 4, .inl (fun _ => 0))), ((u4 21), .inl (cA 0, 4, .inl (fun _ => 0))), ((u4 22), .inr (6, [.ref (u4 23), .int 0, .ref (u4 24), .int 0])), ((u4 23), .inl (cA 0, 794, .inl (fun _ => 0))), ((u4 24), .inl (cA 0, 128, .inl (fun _ => 0))), ((u4 25), .inr (7, [.ref (u4 26), .ref (u4 27)])), ((u4 26), .inl (cA 0, 9, .inl (fun _ => 0))), ((u4 27), .inl (cA 0, 9, .inl (fun _ => 0))), (q8, .inr (8, [.int 4, .int 4, .int 8, .int 0, .ref (u12 1), .int 0, .int 0, .int 0, .int (-1), .ref (u12 2), .ref (u12 3), .ref (u12 4), .ref (u12 5), .int 0, .ref (u12 6), .ref (u12 7), .ref (u12 8), .ref (u12 9), .ref (u12 10), .int 0, .int 0, .int 0, .int 0, .int 0, .int 0, .int 0, .int 0, .int 0, .int 0, .int 0, .int 0, .int 0, .int 0, .int 0, .ref (u12 11), .int 0, .ref (u12 12), .int 0, .ref (u12 13), .ref (u12 14), .ref (u12 15), .ref (u12 16), .int 0, .ref (u12 17), .ref (u12 18), .ref (u12 19)])), ((u12 1), .inl (cA 0, 121, .inl (fun _ => 0))), ((u12 2), .inl (cA 0, 9, .inl (fun _ => 0))), ((u12 3), .inl (cA 0, 8, .inl (fun _ => 0))), ((u12 4), .inl (cA 0, 8, .inl (fun _ => 0))), ((u12 5), .inl (cA 0, 9, .inl (fun _ => 0))), ((u12 6), .inl (cA 0, 48, .inl (fun _ => 0))), ((u12 7), .inl (cA 2, 48, .inl (fun _ => 0))), ((u12 8), .inl (cA 0, 48, .inl (fun _ => 0))), ((u12 9), .inl (cA 0, 48, .inl (fun _ => 0))), ((u12 10), .inl (cA 0, 192, .inl (fun _ => 0))), ((u12 11), .inl (cA 0, 112, .inl (fun _ => 0))), ((u12 12), .inl (cA 0, 96, .inl (fun _ => 0))), ((u12 13), .inl (cA 0, 64, .inl (fun _ => 0))), ((u12 14), .inl (cA 0, 64, .inl (fun _ => 0))), ((u12 15), .inl (cA 0, 64, .inl (fun _ => 0))), ((u12 16), .inl (cA 0, 384, .inl (fun _ => 0))), ((u12 17), .inl (cA 0, 900, .inl (fun _ => 0))), ((u12 18), .inl (cA 0, 9, .inl (fun _ => 0))), ((u12 19), .inl (cA 0, 9, .inl (fun _ => 0)))] H := hP
  have hD : va_D AA [(q0, .inr (0, [.ref (u4 1), .ref (u4 2), .ref (u4 16), .ref (u4 22), .ref (u4 25), .int 0, .int 384, .int 48, .int 0, .int 0, .int (-1)])), ((u4 1), .inl (cA 1, 120, .inl (fun _ => 0))), ((u4 2), .inr (1, [.ref (u4 3), .int 0, .int 0, .ref (u4 13), .ref (u4 15), .int 0, .int 0, .int 0, .int 0, .int 0, .int 0, .int 0, .int 0, .int 0, .int 0, .int 0])), ((u4 3), .inr (2, [.ref (u4 4), .ref (u4 5), .ref (u4 6), .ref (u4 7), .ref (u4 8), .ref (u4 9), .ref (u4 10), .ref (u4 11), .ref (u4 12), .int 0, .int 0, .int 0])), ((u4 4), .inl (cA 0, 9, .inl (fun _ => 0))), ((u4 5), .inl (cA 0, 8, .inl (fun _ => 0))), ((u4 6), .inl (cA 0, 8, .inl (fun _ => 0))), ((u4 7), .inl (cA 0, 8, .inl (fun _ => 0))), ((u4 8), .inl (cA 0, 9, .inl (fun _ => 0))), ((u4 9), .inl (cA 0, 49, .inl (fun _ => 0))), ((u4 10), .inl (cA 0, 48, .inl (fun _ => 0))), ((u4 11), .inl (cA 2, 48, .inl (fun _ => 0))), ((u4 12), .inl (cA 0, 120, .inl (fun _ => 0))), ((u4 13), .inr (3, [.ref (u4 14), .int 0, .int 99, .int 0, .int 0])), ((u4 14), .inl (cA 0, 132, .inl (fun _ => 0))), ((u4 15), .inr (4, [.int 1, .int 1, .int 0])), ((u4 16), .inr (5, [.ref (u4 17), .ref (u4 18), .ref (u4 19), .int 0, .int 0, .int 0, .ref (u4 20), .int 0, .ref (u4 21), .int 0])), ((u4 17), .inl (cA 0, 64, .inl (fun _ => 0))), ((u4 18), .inl (cA 0, 64, .inl (fun _ => 0))), ((u4 19), .inl (cA 0, 64, .inl (fun _ => 0))), ((u4 20), .inl (cA 0, 4, .inl (fun _ => 0))), ((u4 21), .inl (cA 0, 4, .inl (fun _ => 0))), ((u4 22), .inr (6, [.ref (u4 23), .int 0, .ref (u4 24), .int 0])), ((u4 23), .inl (cA 0, 794, .inl (fun _ => 0))), ((u4 24), .inl (cA 0, 128, .inl (fun _ => 0))), ((u4 25), .inr (7, [.ref (u4 26), .ref (u4 27)])), ((u4 26), .inl (cA 0, 9, .inl (fun _ => 0))), ((u4 27), .inl (cA 0, 9, .inl (fun _ => 0))), (q8, .inr (8, [.int 4, .int 4, .int 8, .int 0, .ref (u12 1), .int 0, .int 0, .int 0, .int (-1), .ref (u12 2), .ref (u12 3), .ref (u12 4), .ref (u12 5), .int 0, .ref (u12 6), .ref (u12 7), .ref (u12 8), .ref (u12 9), .ref (u12 10), .int 0, .int 0, .int 0, .int 0, .int 0, .int 0, .int 0, .int 0, .int 0, .int 0, .int 0, .int 0, .int 0, .int 0, .int 0, .ref (u12 11), .int 0, .ref (u12 12), .int 0, .ref (u12 13), .ref (u12 14), .ref (u12 15), .ref (u12 16), .int 0, .ref (u12 17), .ref (u12 18), .ref (u12 19)])), ((u12 1), .inl (cA 0, 121, .inl (fun _ => 0))), ((u12 2), .inl (cA 0, 9, .inl (fun _ => 0))), ((u12 3), .inl (cA 0, 8, .inl (fun _ => 0))), ((u12 4), .inl (cA 0, 8, .inl (fun _ => 0))), ((u12 5), .inl (cA 0, 9, .inl (fun _ => 0))), ((u12 6), .inl (cA 0, 48, .inl (fun _ => 0))), ((u12 7), .inl (cA 2, 48, .inl (fun _ => 0))), ((u12 8), .inl (cA 0, 48, .inl (fun _ => 0))), ((u12 9), .inl (cA 0, 48, .inl (fun _ => 0))), ((u12 10), .inl (cA 0, 192, .inl (fun _ => 0))), ((u12 11), .inl (cA 0, 112, .inl (fun _ => 0))), ((u12 12), .inl (cA 0, 96, .inl (fun _ => 0))), ((u12 13), .inl (cA 0, 64, .inl (fun _ => 0))), ((u12 14), .inl (cA 0, 64, .inl (fun _ => 0))), ((u12 15), .inl (cA 0, 64, .inl (fun _ => 0))), ((u12 16), .inl (cA 0, 384, .inl (fun _ => 0))), ((u12 17), .inl (cA 0, 900, .inl (fun _ => 0))), ((u12 18), .inl (cA 0, 9, .inl (fun _ => 0))), ((u12 19), .inl (cA 0, 9, .inl (fun _ => 0)))] := hD
  have hPC : va_P D cls [(q0, .inr (0, [.ref (u4 1), .ref (u4 2), .ref (u4 16), .ref (u4 22), .ref (u4 25), .int 0, .int 384, .int 48, .int 0, .int 0, .int (-1)])), ((u4 1), .inl (cA 1, 120, .inl (fun _ => 0))), ((u4 2), .inr (1, [.ref (u4 3), .int 0, .int 0, .ref (u4 13), .ref (u4 15), .int 0, .int 0, .int 0, .int 0, .int 0, .int 0, .int 0, .int 0, .int 0, .int 0, .int 0])), ((u4 3), .inr (2, [.ref (u4 4), .ref (u4 5), .ref (u4 6), .ref (u4 7), .ref (u4 8), .ref (u4 9), .ref (u4 10), .ref (u4 11), .ref (u4 12), .int 0, .int 0, .int 0])), ((u4 4), .inl (cA 0, 9, .inl (fun _ => 0))), ((u4 5), .inl (cA 0, 8, .inl (fun _ => 0))), ((u4 6), .inl (cA 0, 8, .inl (fun _ => 0))), ((u4 7), .inl (cA 0, 8, .inl (fun _ => 0))), ((u4 8), .inl (cA 0, 9, .inl (fun _ => 0))), ((u4 9), .inl (cA 0, 49, .inl (fun _ => 0))), ((u4 10), .inl (cA 0, 48, .inl (fun _ => 0))), ((u4 11), .inl (cA 2, 48, .inl (fun _ => 0))), ((u4 12), .inl (cA 0, 120, .inl (fun _ => 0))), ((u4 13), .inr (3, [.ref (u4 14), .int 0, .int 99, .int 0, .int 0])), ((u4 14), .inl (cA 0, 132, .inl (fun _ => 0))), ((u4 15), .inr (4, [.int 1, .int 1, .int 0])), ((u4 16), .inr (5, [.ref (u4 17), .ref (u4 18), .ref (u4 19), .int 0, .int 0, .int 0, .ref (u4 20), .int 0, .ref (u4 21), .int 0])), ((u4 17), .inl (cA 0, 64, .inl (fun _ => 0))), ((u4 18), .inl (cA 0, 64, .inl (fun _ => 0))), ((u4 19), .inl (cA 0, 64, .inl (fun _ => 0))), ((u4 20), .inl (cA 0, 4, .inl (fun _ => 0))), ((u4 21), .inl (cA 0, 4, .inl (fun _ => 0))), ((u4 22), .inr (6, [.ref (u4 23), .int 0, .ref (u4 24), .int 0])), ((u4 23), .inl (cA 0, 794, .inl (fun _ => 0))), ((u4 24), .inl (cA 0, 128, .inl (fun _ => 0))), ((u4 25), .inr (7, [.ref (u4 26), .ref (u4 27)])), ((u4 26), .inl (cA 0, 9, .inl (fun _ => 0))), ((u4 27), .inl (cA 0, 9, .inl (fun _ => 0)))] H := hP.sub [0, 1, 2, 3, 4, 5, 6, 7, 8, 9, 10, 11, 12, 13, 14, 15, 16, 17, 18, 19, 20, 21, 22, 23, 24, 25, 26, 27] rfl
  have hPR : va_P D cls [(q8, .inr (8, [.int 4, .int 4, .int 8, .int 0, .ref (u12 1), .int 0, .int 0, .int 0, .int (-1), .ref (u12 2), .ref (u12 3), .ref (u12 4), .ref (u12 5), .int 0, .ref (u12 6), .ref (u12 7), .ref (u12 8), .ref (u12 9), .ref (u12 10), .int 0, .int 0, .int 0, .int 0, .int 0, .int 0, .int 0, .int 0, .int 0, .int 0, .int 0, .int 0, .int 0, .int 0, .int 0, .ref (u12 11), .int 0, .ref (u12 12), .int 0, .ref (u12 13), .ref (u12 14), .ref (u12 15), .ref (u12 16), .int 0, .ref (u12 17), .ref (u12 18), .ref (u12 19)])), ((u12 1), .inl (cA 0, 121, .inl (fun _ => 0))), ((u12 2), .inl (cA 0, 9, .inl (fun _ => 0))), ((u12 3), .inl (cA 0, 8, .inl (fun _ => 0))), ((u12 4), .inl (cA 0, 8, .inl (fun _ => 0))), ((u12 5), .inl (cA 0, 9, .inl (fun _ => 0))), ((u12 6), .inl (cA 0, 48, .inl (fun _ => 0))), ((u12 7), .inl (cA 2, 48, .inl (fun _ => 0))), ((u12 8), .inl (cA 0, 48, .inl (fun _ => 0))), ((u12 9), .inl (cA 0, 48, .inl (fun _ => 0))), ((u12 10), .inl (cA 0, 192, .inl (fun _ => 0))), ((u12 11), .inl (cA 0, 112, .inl (fun _ => 0))), ((u12 12), .inl (cA 0, 96, .inl (fun _ => 0))), ((u12 13), .inl (cA 0, 64, .inl (fun _ => 0))), ((u12 14), .inl (cA 0, 64, .inl (fun _ => 0))), ((u12 15), .inl (cA 0, 64, .inl (fun _ => 0))), ((u12 16), .inl (cA 0, 384, .inl (fun _ => 0))), ((u12 17), .inl (cA 0, 900, .inl (fun _ => 0))), ((u12 18), .inl (cA 0, 9, .inl (fun _ => 0))), ((u12 19), .inl (cA 0, 9, .inl (fun _ => 0)))] H := hP.sub [28, 29, 30, 31, 32, 33, 34, 35, 36, 37, 38, 39, 40, 41, 42, 43, 44, 45, 46, 47] rfl
  have hDC0 : va_D AA [(q0, .inr (0, [.ref (u4 1), .ref (u4 2), .ref (u4 16), .ref (u4 22), .ref (u4 25), .int 0, .int 384, .int 48, .int 0, .int 0, .int (-1)])), ((u4 1), .inl (cA 1, 120, .inl (fun _ => 0))), ((u4 2), .inr (1, [.ref (u4 3), .int 0, .int 0, .ref (u4 13), .ref (u4 15), .int 0, .int 0, .int 0, .int 0, .int 0, .int 0, .int 0, .int 0, .int 0, .int 0, .int 0])), ((u4 3), .inr (2, [.ref (u4 4), .ref (u4 5), .ref (u4 6), .ref (u4 7), .ref (u4 8), .ref (u4 9), .ref (u4 10), .ref (u4 11), .ref (u4 12), .int 0, .int 0, .int 0])), ((u4 4), .inl (cA 0, 9, .inl (fun _ => 0))), ((u4 5), .inl (cA 0, 8, .inl (fun _ => 0))), ((u4 6), .inl (cA 0, 8, .inl (fun _ => 0))), ((u4 7), .inl (cA 0, 8, .inl (fun _ => 0))), ((u4 8), .inl (cA 0, 9, .inl (fun _ => 0))), ((u4 9), .inl (cA 0, 49, .inl (fun _ => 0))), ((u4 10), .inl (cA 0, 48, .inl (fun _ => 0))), ((u4 11), .inl (cA 2, 48, .inl (fun _ => 0))), ((u4 12), .inl (cA 0, 120, .inl (fun _ => 0))), ((u4 13), .inr (3, [.ref (u4 14), .int 0, .int 99, .int 0, .int 0])), ((u4 14), .inl (cA 0, 132, .inl (fun _ => 0))), ((u4 15), .inr (4, [.int 1, .int 1, .int 0])), ((u4 16), .inr (5, [.ref (u4 17), .ref (u4 18), .ref (u4 19), .int 0, .int 0, .int 0, .ref (u4 20), .int 0, .ref (u4 21), .int 0])), ((u4 17), .inl (cA 0, 64, .inl (fun _ => 0))), ((u4 18), .inl (cA 0, 64, .inl (fun _ => 0))), ((u4 19), .inl (cA 0, 64, .inl (fun _ => 0))), ((u4 20), .inl (cA 0, 4, .inl (fun _ => 0))), ((u4 21), .inl (cA 0, 4, .inl (fun _ => 0))), ((u4 22), .inr (6, [.ref (u4 23), .int 0, .ref (u4 24), .int 0])), ((u4 23), .inl (cA 0, 794, .inl (fun _ => 0))), ((u4 24), .inl (cA 0, 128, .inl (fun _ => 0))), ((u4 25), .inr (7, [.ref (u4 26), .ref (u4 27)])), ((u4 26), .inl (cA 0, 9, .inl (fun _ => 0))), ((u4 27), .inl (cA 0, 9, .inl (fun _ => 0)))] := hD.sub [0, 1, 2, 3, 4, 5, 6, 7, 8, 9, 10, 11, 12, 13, 14, 15, 16, 17, 18, 19, 20, 21, 22, 23, 24, 25, 26, 27] (by decide) rfl
  have hDR0 : va_D AA [(q8, .inr (8, [.int 4, .int 4, .int 8, .int 0, .ref (u12 1), .int 0, .int 0, .int 0, .int (-1), .ref (u12 2), .ref (u12 3), .ref (u12 4), .ref (u12 5), .int 0, .ref (u12 6), .ref (u12 7), .ref (u12 8), .ref (u12 9), .ref (u12 10), .int 0, .int 0, .int 0, .int 0, .int 0, .int 0, .int 0, .int 0, .int 0, .int 0, .int 0, .int 0, .int 0, .int 0, .int 0, .ref (u12 11), .int 0, .ref (u12 12), .int 0, .ref (u12 13), .ref (u12 14), .ref (u12 15), .ref (u12 16), .int 0, .ref (u12 17), .ref (u12 18), .ref (u12 19)])), ((u12 1), .inl (cA 0, 121, .inl (fun _ => 0))), ((u12 2), .inl (cA 0, 9, .inl (fun _ => 0))), ((u12 3), .inl (cA 0, 8, .inl (fun _ => 0))), ((u12 4), .inl (cA 0, 8, .inl (fun _ => 0))), ((u12 5), .inl (cA 0, 9, .inl (fun _ => 0))), ((u12 6), .inl (cA 0, 48, .inl (fun _ => 0))), ((u12 7), .inl (cA 2, 48, .inl (fun _ => 0))), ((u12 8), .inl (cA 0, 48, .inl (fun _ => 0))), ((u12 9), .inl (cA 0, 48, .inl (fun _ => 0))), ((u12 10), .inl (cA 0, 192, .inl (fun _ => 0))), ((u12 11), .inl (cA 0, 112, .inl (fun _ => 0))), ((u12 12), .inl (cA 0, 96, .inl (fun _ => 0))), ((u12 13), .inl (cA 0, 64, .inl (fun _ => 0))), ((u12 14), .inl (cA 0, 64, .inl (fun _ => 0))), ((u12 15), .inl (cA 0, 64, .inl (fun _ => 0))), ((u12 16), .inl (cA 0, 384, .inl (fun _ => 0))), ((u12 17), .inl (cA 0, 900, .inl (fun _ => 0))), ((u12 18), .inl (cA 0, 9, .inl (fun _ => 0))), ((u12 19), .inl (cA 0, 9, .inl (fun _ => 0)))] := hD.sub [28, 29, 30, 31, 32, 33, 34, 35, 36, 37, 38, 39, 40, 41, 42, 43, 44, 45, 46, 47] (by decide) rfl
  refine W.widen (k := 48) (n := 4049) (Nat.le_of_ble_eq_true rfl) (Nat.le_of_ble_eq_true rfl) ?_
  refine lv_astore_n (lv' := [(2, .ref q8), (1, .ref q0), (0, .ref b)]) hx hb d_law_15 rfl hl (by decide) rfl (fun ls hl => ?_)
  refine lv_iconst (v := 0) hx hb d_law_16 ic_0 ?_
  refine lv_istore_n (lv' := [(3, .int 0), (2, .ref q8), (1, .ref q0), (0, .ref b)]) hx hb d_law_17 rfl hl (by decide) rfl (fun ls hl => ?_)
  obtain ⟨n, hpure⟩ := hpure
  have eC : va_P D cls (wC cA (aOf q0 u4 (fun k => ([t0, t1, t2, t3, t4] : List Nat).getD k 0)) I0C A0) H := hPC
  have eR : va_P D cls (wR cA (bOf q8 u12) I0R A0) H := hPR
  have fC : ∀ I A, va_D AA (wC cA (aOf q0 u4 (fun k => ([t0, t1, t2, t3, t4] : List Nat).getD k 0)) I A) := fun I A => vD_map hDC0 rfl (fun q hq => vD_in hDC0 hq)
  have fR : ∀ I A, va_D AA (wR cA (bOf q8 u12) I A) := fun I A => vD_map hDR0 rfl (fun q hq => vD_in hDR0 hq)
  exact whole_loop l C1 hAA (D := D) (cA := cA) (a := aOf q0 u4 (fun k => ([t0, t1, t2, t3, t4] : List Nat).getD k 0)) (b := bOf q8 u12) ⟨hK, z0, z1, z2, z3, z4⟩ hK fC fR (apart_of (k := 28) hD rfl rfl) n 0 _ _ _ _ _ _ _ hpure eC eR hS (lv_sub hl [3, 2, 1, 0] rfl)

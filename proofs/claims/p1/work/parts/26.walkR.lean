def wp_TuneSetterModel_write_175 (k24 : Int32 → Int64 → Int32 → (Nat → Int32) → (Nat → Nat → Int32) → Prop) (k126 : Int32 → Int32 → Int64 → Int32 → Int32 → (Nat → Int32) → (Nat → Nat → Int32) → Prop) (post : Int32 → (Nat → Int32) → (Nat → Nat → Int32) → Prop) (y4 : Int32) (y5 : Int64) (y7 : Int32) (y8 : Int32) (y9 : Int32) (s0 : Int32) (I : Nat → Int32) (A : Nat → Nat → Int32) : Prop := (wp_TuneSetterModel_emit s0 I A (fun I175 A175 => (wp_TuneSetterModel_emit ((y5 - y5 / 128 * 128).toInt32) I175 A175 (fun I186 A186 => (wp_TuneSetterModel_emit 64 I186 A186 (fun I192 A192 => (∀ v198 : Int32, v198 = y8 + 1 → k126 y9 y4 y5 y7 v198 I192 A192)))))))
def wp_TuneSetterModel_write_126 (k24 : Int32 → Int64 → Int32 → (Nat → Int32) → (Nat → Nat → Int32) → Prop) (post : Int32 → (Nat → Int32) → (Nat → Nat → Int32) → Prop) : Nat → Int32 → Int32 → Int64 → Int32 → Int32 → (Nat → Int32) → (Nat → Nat → Int32) → Prop
  | 0, _, _, _, _, _, _, _ => False
  | n + 1, y1, y4, y5, y7, y8, I, A => ((y7 ≤ y8 → k24 y1 y5 y4 I A) ∧ (¬ y7 ≤ y8 → (∀ v140 : Int32, v140 = (y5 / 256).toInt32 → (wp_TuneSetterModel_emitGap (v140 - y1) I A (fun I147 A147 => (((lg_cmp ((y5 / 128) - (y5 / 128) / 2 * 2) 1) = 0 → wp_TuneSetterModel_write_175 k24 (fun y1 y4 y5 y7 y8 I A => wp_TuneSetterModel_write_126 k24 post n y1 y4 y5 y7 y8 I A) post y4 y5 y7 y8 v140 144 I147 A147) ∧ (¬ (lg_cmp ((y5 / 128) - (y5 / 128) / 2 * 2) 1) = 0 → wp_TuneSetterModel_write_175 k24 (fun y1 y4 y5 y7 y8 I A => wp_TuneSetterModel_write_126 k24 post n y1 y4 y5 y7 y8 I A) post y4 y5 y7 y8 v140 128 I147 A147)))))))
def wp_TuneSetterModel_write_81 (k24 : Int32 → Int64 → Int32 → (Nat → Int32) → (Nat → Nat → Int32) → Prop) (k40 : Int32 → Int64 → Int64 → Int32 → Int32 → (Nat → Int32) → (Nat → Nat → Int32) → Prop) (post : Int32 → (Nat → Int32) → (Nat → Nat → Int32) → Prop) (y1 : Int32) (y2 : Int64) (y5 : Int64) (y7 : Int32) (y8 : Int32) (y9 : Int64) (I : Nat → Int32) (A : Nat → Nat → Int32) : Prop := (((lg_cmp y9 y5) = 0 → (∀ v97 : Int32, v97 = y7 + 1 → (∀ v103 : Int32, v103 = y8 + 1 → k40 y1 y2 y9 v97 v103 I A))) ∧ (¬ (lg_cmp y9 y5) = 0 → (∀ v103 : Int32, v103 = y8 + 1 → k40 y1 y2 y9 1 v103 I A)))
def wp_TuneSetterModel_write_40 (k24 : Int32 → Int64 → Int32 → (Nat → Int32) → (Nat → Nat → Int32) → Prop) (post : Int32 → (Nat → Int32) → (Nat → Nat → Int32) → Prop) : Nat → Int32 → Int64 → Int64 → Int32 → Int32 → (Nat → Int32) → (Nat → Nat → Int32) → Prop
  | 0, _, _, _, _, _, _, _ => False
  | n + 1, y1, y2, y5, y7, y8, I, A => ((((2 : Int32) * (I 25)) ≤ y8 → (((lg_cmp y5 0) < 0 → (∃ n126, wp_TuneSetterModel_write_126 k24 post n126 y1 0 y5 y7 0 I A)) ∧ (¬ (lg_cmp y5 0) < 0 → (∃ n126, wp_TuneSetterModel_write_126 k24 post n126 y1 1 y5 y7 0 I A)))) ∧ (¬ ((2 : Int32) * (I 25)) ≤ y8 → (wp_TuneSetterModel_order y8 I A (fun r54 I54 A54 => (((lg_cmp r54 y2) ≤ 0 → (∀ v103 : Int32, v103 = y8 + 1 → wp_TuneSetterModel_write_40 k24 post n y1 y2 y5 y7 v103 I54 A54)) ∧ (¬ (lg_cmp r54 y2) ≤ 0 → (((lg_cmp y5 0) < 0 → wp_TuneSetterModel_write_81 k24 (fun y1 y2 y5 y7 y8 I A => wp_TuneSetterModel_write_40 k24 post n y1 y2 y5 y7 y8 I A) post y1 y2 y5 y7 y8 r54 I54 A54) ∧ (¬ (lg_cmp y5 0) < 0 → ((0 < (lg_cmp r54 y5) → (∀ v103 : Int32, v103 = y8 + 1 → wp_TuneSetterModel_write_40 k24 post n y1 y2 y5 y7 v103 I54 A54)) ∧ (¬ 0 < (lg_cmp r54 y5) → wp_TuneSetterModel_write_81 k24 (fun y1 y2 y5 y7 y8 I A => wp_TuneSetterModel_write_40 k24 post n y1 y2 y5 y7 y8 I A) post y1 y2 y5 y7 y8 r54 I54 A54))))))))))
def wp_TuneSetterModel_write_24 (post : Int32 → (Nat → Int32) → (Nat → Nat → Int32) → Prop) : Nat → Int32 → Int64 → Int32 → (Nat → Int32) → (Nat → Nat → Int32) → Prop
  | 0, _, _, _, _, _ => False
  | n + 1, y1, y2, y4, I, A => ((y4 = 0 → (wp_TuneSetterModel_emit 0 I A (fun I212 A212 => (wp_TuneSetterModel_emit 255 I212 A212 (fun I219 A219 => (wp_TuneSetterModel_emit 47 I219 A219 (fun I225 A225 => (wp_TuneSetterModel_emit 0 I225 A225 (fun I230 A230 => (∀ v237 : Int32, v237 = (I230 26) → (wp_TuneSetterModel_heading (v237 - 22) I230 A230 (fun I245 A245 => post v237 (upd I245 26 v237) A245)))))))))))) ∧ (¬ y4 = 0 → (∃ n40, wp_TuneSetterModel_write_40 (fun y1 y2 y4 I A => wp_TuneSetterModel_write_24 post n y1 y2 y4 I A) post n40 y1 y2 (-1) 0 0 I A)))
def wp_TuneSetterModel_write (I : Nat → Int32) (A : Nat → Nat → Int32) (post : Int32 → (Nat → Int32) → (Nat → Nat → Int32) → Prop) : Prop := (((I 6) = 0 → post (-1) I A) ∧ (¬ (I 6) = 0 → (∃ n24, wp_TuneSetterModel_write_24 post n24 0 (-1) 1 (upd I 26 22) A)))
theorem d_TuneSetterModel_write_0 : decode b_TuneSetterModel_write 0 = .ok (.aload_n 0, 1) := by decide +kernel
theorem d_TuneSetterModel_write_1 : decode b_TuneSetterModel_write 1 = .ok (.getfield 93, 3) := by decide +kernel
theorem d_TuneSetterModel_write_4 : decode b_TuneSetterModel_write 4 = .ok (.ifCond .ne 5, 3) := by decide +kernel
theorem d_TuneSetterModel_write_7 : decode b_TuneSetterModel_write 7 = .ok (.iconst (-1), 1) := by decide +kernel
theorem d_TuneSetterModel_write_8 : decode b_TuneSetterModel_write 8 = .ok (.ireturn, 1) := by decide +kernel
theorem d_TuneSetterModel_write_9 : decode b_TuneSetterModel_write 9 = .ok (.aload_n 0, 1) := by decide +kernel
theorem d_TuneSetterModel_write_10 : decode b_TuneSetterModel_write 10 = .ok (.bipush 22, 2) := by decide +kernel
theorem d_TuneSetterModel_write_12 : decode b_TuneSetterModel_write 12 = .ok (.putfield 269, 3) := by decide +kernel
theorem d_TuneSetterModel_write_15 : decode b_TuneSetterModel_write 15 = .ok (.iconst 0, 1) := by decide +kernel
theorem d_TuneSetterModel_write_16 : decode b_TuneSetterModel_write 16 = .ok (.istore_n 1, 1) := by decide +kernel
theorem d_TuneSetterModel_write_17 : decode b_TuneSetterModel_write 17 = .ok (.ldc2_w 279, 3) := by decide +kernel
theorem d_TuneSetterModel_write_20 : decode b_TuneSetterModel_write 20 = .ok (.lstore_n 2, 1) := by decide +kernel
theorem d_TuneSetterModel_write_21 : decode b_TuneSetterModel_write 21 = .ok (.iconst 1, 1) := by decide +kernel
theorem d_TuneSetterModel_write_22 : decode b_TuneSetterModel_write 22 = .ok (.istore 4, 2) := by decide +kernel
theorem d_TuneSetterModel_write_24 : decode b_TuneSetterModel_write 24 = .ok (.iload 4, 2) := by decide +kernel
theorem d_TuneSetterModel_write_26 : decode b_TuneSetterModel_write 26 = .ok (.ifCond .eq 184, 3) := by decide +kernel
theorem d_TuneSetterModel_write_29 : decode b_TuneSetterModel_write 29 = .ok (.ldc2_w 279, 3) := by decide +kernel
theorem d_TuneSetterModel_write_32 : decode b_TuneSetterModel_write 32 = .ok (.lstore 5, 2) := by decide +kernel
theorem d_TuneSetterModel_write_34 : decode b_TuneSetterModel_write 34 = .ok (.iconst 0, 1) := by decide +kernel
theorem d_TuneSetterModel_write_35 : decode b_TuneSetterModel_write 35 = .ok (.istore 7, 2) := by decide +kernel
theorem d_TuneSetterModel_write_37 : decode b_TuneSetterModel_write 37 = .ok (.iconst 0, 1) := by decide +kernel
theorem d_TuneSetterModel_write_38 : decode b_TuneSetterModel_write 38 = .ok (.istore 8, 2) := by decide +kernel
theorem d_TuneSetterModel_write_40 : decode b_TuneSetterModel_write 40 = .ok (.iload 8, 2) := by decide +kernel
theorem d_TuneSetterModel_write_42 : decode b_TuneSetterModel_write 42 = .ok (.iconst 2, 1) := by decide +kernel
theorem d_TuneSetterModel_write_43 : decode b_TuneSetterModel_write 43 = .ok (.aload_n 0, 1) := by decide +kernel
theorem d_TuneSetterModel_write_44 : decode b_TuneSetterModel_write 44 = .ok (.getfield 97, 3) := by decide +kernel
theorem d_TuneSetterModel_write_47 : decode b_TuneSetterModel_write 47 = .ok (.imul, 1) := by decide +kernel
theorem d_TuneSetterModel_write_48 : decode b_TuneSetterModel_write 48 = .ok (.if_icmp .ge 61, 3) := by decide +kernel
theorem d_TuneSetterModel_write_51 : decode b_TuneSetterModel_write 51 = .ok (.aload_n 0, 1) := by decide +kernel
theorem d_TuneSetterModel_write_52 : decode b_TuneSetterModel_write 52 = .ok (.iload 8, 2) := by decide +kernel
theorem d_TuneSetterModel_write_54 : decode b_TuneSetterModel_write 54 = .ok (.invokevirtual 281, 3) := by decide +kernel
theorem d_TuneSetterModel_write_57 : decode b_TuneSetterModel_write 57 = .ok (.lstore 9, 2) := by decide +kernel
theorem d_TuneSetterModel_write_59 : decode b_TuneSetterModel_write 59 = .ok (.lload 9, 2) := by decide +kernel
theorem d_TuneSetterModel_write_61 : decode b_TuneSetterModel_write 61 = .ok (.lload_n 2, 1) := by decide +kernel
theorem d_TuneSetterModel_write_62 : decode b_TuneSetterModel_write 62 = .ok (.lcmp, 1) := by decide +kernel
theorem d_TuneSetterModel_write_63 : decode b_TuneSetterModel_write 63 = .ok (.ifCond .le 40, 3) := by decide +kernel
theorem d_TuneSetterModel_write_66 : decode b_TuneSetterModel_write 66 = .ok (.lload 5, 2) := by decide +kernel
theorem d_TuneSetterModel_write_68 : decode b_TuneSetterModel_write 68 = .ok (.lconst 0, 1) := by decide +kernel
theorem d_TuneSetterModel_write_69 : decode b_TuneSetterModel_write 69 = .ok (.lcmp, 1) := by decide +kernel
theorem d_TuneSetterModel_write_70 : decode b_TuneSetterModel_write 70 = .ok (.ifCond .lt 11, 3) := by decide +kernel
theorem d_TuneSetterModel_write_73 : decode b_TuneSetterModel_write 73 = .ok (.lload 9, 2) := by decide +kernel
theorem d_TuneSetterModel_write_75 : decode b_TuneSetterModel_write 75 = .ok (.lload 5, 2) := by decide +kernel
theorem d_TuneSetterModel_write_77 : decode b_TuneSetterModel_write 77 = .ok (.lcmp, 1) := by decide +kernel
theorem d_TuneSetterModel_write_78 : decode b_TuneSetterModel_write 78 = .ok (.ifCond .gt 25, 3) := by decide +kernel
theorem d_TuneSetterModel_write_81 : decode b_TuneSetterModel_write 81 = .ok (.lload 9, 2) := by decide +kernel
theorem d_TuneSetterModel_write_83 : decode b_TuneSetterModel_write 83 = .ok (.lload 5, 2) := by decide +kernel
theorem d_TuneSetterModel_write_85 : decode b_TuneSetterModel_write 85 = .ok (.lcmp, 1) := by decide +kernel
theorem d_TuneSetterModel_write_86 : decode b_TuneSetterModel_write 86 = .ok (.ifCond .ne 10, 3) := by decide +kernel
theorem d_TuneSetterModel_write_89 : decode b_TuneSetterModel_write 89 = .ok (.iload 7, 2) := by decide +kernel
theorem d_TuneSetterModel_write_91 : decode b_TuneSetterModel_write 91 = .ok (.iconst 1, 1) := by decide +kernel
theorem d_TuneSetterModel_write_92 : decode b_TuneSetterModel_write 92 = .ok (.iadd, 1) := by decide +kernel
theorem d_TuneSetterModel_write_93 : decode b_TuneSetterModel_write 93 = .ok (.goto 4, 3) := by decide +kernel
theorem d_TuneSetterModel_write_96 : decode b_TuneSetterModel_write 96 = .ok (.iconst 1, 1) := by decide +kernel
theorem d_TuneSetterModel_write_97 : decode b_TuneSetterModel_write 97 = .ok (.istore 7, 2) := by decide +kernel
theorem d_TuneSetterModel_write_99 : decode b_TuneSetterModel_write 99 = .ok (.lload 9, 2) := by decide +kernel
theorem d_TuneSetterModel_write_101 : decode b_TuneSetterModel_write 101 = .ok (.lstore 5, 2) := by decide +kernel
theorem d_TuneSetterModel_write_103 : decode b_TuneSetterModel_write 103 = .ok (.iinc 8 1, 3) := by decide +kernel
theorem d_TuneSetterModel_write_106 : decode b_TuneSetterModel_write 106 = .ok (.goto (-66), 3) := by decide +kernel
theorem d_TuneSetterModel_write_109 : decode b_TuneSetterModel_write 109 = .ok (.lload 5, 2) := by decide +kernel
theorem d_TuneSetterModel_write_111 : decode b_TuneSetterModel_write 111 = .ok (.lconst 0, 1) := by decide +kernel
theorem d_TuneSetterModel_write_112 : decode b_TuneSetterModel_write 112 = .ok (.lcmp, 1) := by decide +kernel
theorem d_TuneSetterModel_write_113 : decode b_TuneSetterModel_write 113 = .ok (.ifCond .lt 7, 3) := by decide +kernel
theorem d_TuneSetterModel_write_116 : decode b_TuneSetterModel_write 116 = .ok (.iconst 1, 1) := by decide +kernel
theorem d_TuneSetterModel_write_117 : decode b_TuneSetterModel_write 117 = .ok (.goto 4, 3) := by decide +kernel
theorem d_TuneSetterModel_write_120 : decode b_TuneSetterModel_write 120 = .ok (.iconst 0, 1) := by decide +kernel
theorem d_TuneSetterModel_write_121 : decode b_TuneSetterModel_write 121 = .ok (.istore 4, 2) := by decide +kernel
theorem d_TuneSetterModel_write_123 : decode b_TuneSetterModel_write 123 = .ok (.iconst 0, 1) := by decide +kernel
theorem d_TuneSetterModel_write_124 : decode b_TuneSetterModel_write 124 = .ok (.istore 8, 2) := by decide +kernel
theorem d_TuneSetterModel_write_126 : decode b_TuneSetterModel_write 126 = .ok (.iload 8, 2) := by decide +kernel
theorem d_TuneSetterModel_write_128 : decode b_TuneSetterModel_write 128 = .ok (.iload 7, 2) := by decide +kernel
theorem d_TuneSetterModel_write_130 : decode b_TuneSetterModel_write 130 = .ok (.if_icmp .ge 74, 3) := by decide +kernel
theorem d_TuneSetterModel_write_133 : decode b_TuneSetterModel_write 133 = .ok (.lload 5, 2) := by decide +kernel
theorem d_TuneSetterModel_write_135 : decode b_TuneSetterModel_write 135 = .ok (.ldc2_w 275, 3) := by decide +kernel
theorem d_TuneSetterModel_write_138 : decode b_TuneSetterModel_write 138 = .ok (.ldiv, 1) := by decide +kernel
theorem d_TuneSetterModel_write_139 : decode b_TuneSetterModel_write 139 = .ok (.l2i, 1) := by decide +kernel
theorem d_TuneSetterModel_write_140 : decode b_TuneSetterModel_write 140 = .ok (.istore 9, 2) := by decide +kernel
theorem d_TuneSetterModel_write_142 : decode b_TuneSetterModel_write 142 = .ok (.aload_n 0, 1) := by decide +kernel
theorem d_TuneSetterModel_write_143 : decode b_TuneSetterModel_write 143 = .ok (.iload 9, 2) := by decide +kernel
theorem d_TuneSetterModel_write_145 : decode b_TuneSetterModel_write 145 = .ok (.iload_n 1, 1) := by decide +kernel
theorem d_TuneSetterModel_write_146 : decode b_TuneSetterModel_write 146 = .ok (.isub, 1) := by decide +kernel
theorem d_TuneSetterModel_write_147 : decode b_TuneSetterModel_write 147 = .ok (.invokevirtual 285, 3) := by decide +kernel
theorem d_TuneSetterModel_write_150 : decode b_TuneSetterModel_write 150 = .ok (.aload_n 0, 1) := by decide +kernel
theorem d_TuneSetterModel_write_151 : decode b_TuneSetterModel_write 151 = .ok (.lload 5, 2) := by decide +kernel
theorem d_TuneSetterModel_write_153 : decode b_TuneSetterModel_write 153 = .ok (.ldc2_w 277, 3) := by decide +kernel
theorem d_TuneSetterModel_write_156 : decode b_TuneSetterModel_write 156 = .ok (.ldiv, 1) := by decide +kernel
theorem d_TuneSetterModel_write_157 : decode b_TuneSetterModel_write 157 = .ok (.ldc2_w 288, 3) := by decide +kernel
theorem d_TuneSetterModel_write_160 : decode b_TuneSetterModel_write 160 = .ok (.lrem, 1) := by decide +kernel
theorem d_TuneSetterModel_write_161 : decode b_TuneSetterModel_write 161 = .ok (.lconst 1, 1) := by decide +kernel
theorem d_TuneSetterModel_write_162 : decode b_TuneSetterModel_write 162 = .ok (.lcmp, 1) := by decide +kernel
theorem d_TuneSetterModel_write_163 : decode b_TuneSetterModel_write 163 = .ok (.ifCond .ne 9, 3) := by decide +kernel
theorem d_TuneSetterModel_write_166 : decode b_TuneSetterModel_write 166 = .ok (.sipush 144, 3) := by decide +kernel
theorem d_TuneSetterModel_write_169 : decode b_TuneSetterModel_write 169 = .ok (.goto 6, 3) := by decide +kernel
theorem d_TuneSetterModel_write_172 : decode b_TuneSetterModel_write 172 = .ok (.sipush 128, 3) := by decide +kernel
theorem d_TuneSetterModel_write_175 : decode b_TuneSetterModel_write 175 = .ok (.invokevirtual 272, 3) := by decide +kernel
theorem d_TuneSetterModel_write_178 : decode b_TuneSetterModel_write 178 = .ok (.aload_n 0, 1) := by decide +kernel
theorem d_TuneSetterModel_write_179 : decode b_TuneSetterModel_write 179 = .ok (.lload 5, 2) := by decide +kernel
theorem d_TuneSetterModel_write_181 : decode b_TuneSetterModel_write 181 = .ok (.ldc2_w 277, 3) := by decide +kernel
theorem d_TuneSetterModel_write_184 : decode b_TuneSetterModel_write 184 = .ok (.lrem, 1) := by decide +kernel
theorem d_TuneSetterModel_write_185 : decode b_TuneSetterModel_write 185 = .ok (.l2i, 1) := by decide +kernel
theorem d_TuneSetterModel_write_186 : decode b_TuneSetterModel_write 186 = .ok (.invokevirtual 272, 3) := by decide +kernel
theorem d_TuneSetterModel_write_189 : decode b_TuneSetterModel_write 189 = .ok (.aload_n 0, 1) := by decide +kernel
theorem d_TuneSetterModel_write_190 : decode b_TuneSetterModel_write 190 = .ok (.bipush 64, 2) := by decide +kernel
theorem d_TuneSetterModel_write_192 : decode b_TuneSetterModel_write 192 = .ok (.invokevirtual 272, 3) := by decide +kernel
theorem d_TuneSetterModel_write_195 : decode b_TuneSetterModel_write 195 = .ok (.iload 9, 2) := by decide +kernel
theorem d_TuneSetterModel_write_197 : decode b_TuneSetterModel_write 197 = .ok (.istore_n 1, 1) := by decide +kernel
theorem d_TuneSetterModel_write_198 : decode b_TuneSetterModel_write 198 = .ok (.iinc 8 1, 3) := by decide +kernel
theorem d_TuneSetterModel_write_201 : decode b_TuneSetterModel_write 201 = .ok (.goto (-75), 3) := by decide +kernel
theorem d_TuneSetterModel_write_204 : decode b_TuneSetterModel_write 204 = .ok (.lload 5, 2) := by decide +kernel
theorem d_TuneSetterModel_write_206 : decode b_TuneSetterModel_write 206 = .ok (.lstore_n 2, 1) := by decide +kernel
theorem d_TuneSetterModel_write_207 : decode b_TuneSetterModel_write 207 = .ok (.goto (-183), 3) := by decide +kernel
theorem d_TuneSetterModel_write_210 : decode b_TuneSetterModel_write 210 = .ok (.aload_n 0, 1) := by decide +kernel
theorem d_TuneSetterModel_write_211 : decode b_TuneSetterModel_write 211 = .ok (.iconst 0, 1) := by decide +kernel
theorem d_TuneSetterModel_write_212 : decode b_TuneSetterModel_write 212 = .ok (.invokevirtual 272, 3) := by decide +kernel
theorem d_TuneSetterModel_write_215 : decode b_TuneSetterModel_write 215 = .ok (.aload_n 0, 1) := by decide +kernel
theorem d_TuneSetterModel_write_216 : decode b_TuneSetterModel_write 216 = .ok (.sipush 255, 3) := by decide +kernel
theorem d_TuneSetterModel_write_219 : decode b_TuneSetterModel_write 219 = .ok (.invokevirtual 272, 3) := by decide +kernel
theorem d_TuneSetterModel_write_222 : decode b_TuneSetterModel_write 222 = .ok (.aload_n 0, 1) := by decide +kernel
theorem d_TuneSetterModel_write_223 : decode b_TuneSetterModel_write 223 = .ok (.bipush 47, 2) := by decide +kernel
theorem d_TuneSetterModel_write_225 : decode b_TuneSetterModel_write 225 = .ok (.invokevirtual 272, 3) := by decide +kernel
theorem d_TuneSetterModel_write_228 : decode b_TuneSetterModel_write 228 = .ok (.aload_n 0, 1) := by decide +kernel
theorem d_TuneSetterModel_write_229 : decode b_TuneSetterModel_write 229 = .ok (.iconst 0, 1) := by decide +kernel
theorem d_TuneSetterModel_write_230 : decode b_TuneSetterModel_write 230 = .ok (.invokevirtual 272, 3) := by decide +kernel
theorem d_TuneSetterModel_write_233 : decode b_TuneSetterModel_write 233 = .ok (.aload_n 0, 1) := by decide +kernel
theorem d_TuneSetterModel_write_234 : decode b_TuneSetterModel_write 234 = .ok (.getfield 269, 3) := by decide +kernel
theorem d_TuneSetterModel_write_237 : decode b_TuneSetterModel_write 237 = .ok (.istore 5, 2) := by decide +kernel
theorem d_TuneSetterModel_write_239 : decode b_TuneSetterModel_write 239 = .ok (.aload_n 0, 1) := by decide +kernel
theorem d_TuneSetterModel_write_240 : decode b_TuneSetterModel_write 240 = .ok (.iload 5, 2) := by decide +kernel
theorem d_TuneSetterModel_write_242 : decode b_TuneSetterModel_write 242 = .ok (.bipush 22, 2) := by decide +kernel
theorem d_TuneSetterModel_write_244 : decode b_TuneSetterModel_write 244 = .ok (.isub, 1) := by decide +kernel
theorem d_TuneSetterModel_write_245 : decode b_TuneSetterModel_write 245 = .ok (.invokevirtual 290, 3) := by decide +kernel
theorem d_TuneSetterModel_write_248 : decode b_TuneSetterModel_write 248 = .ok (.aload_n 0, 1) := by decide +kernel
theorem d_TuneSetterModel_write_249 : decode b_TuneSetterModel_write 249 = .ok (.iload 5, 2) := by decide +kernel
theorem d_TuneSetterModel_write_251 : decode b_TuneSetterModel_write 251 = .ok (.putfield 269, 3) := by decide +kernel
theorem d_TuneSetterModel_write_254 : decode b_TuneSetterModel_write 254 = .ok (.aload_n 0, 1) := by decide +kernel
theorem d_TuneSetterModel_write_255 : decode b_TuneSetterModel_write 255 = .ok (.getfield 269, 3) := by decide +kernel
theorem d_TuneSetterModel_write_258 : decode b_TuneSetterModel_write 258 = .ok (.ireturn, 1) := by decide +kernel
def w_TuneSetterModel_write : List Cond := .code y_TuneSetterModel_write b_TuneSetterModel_write 11 (some .int) :: WALL
theorem g_TuneSetterModel_write : GoodIn WALL w_TuneSetterModel_write := good_of mc_TuneSetterModel_write
set_option maxHeartbeats 4000000 in
set_option maxRecDepth 100000 in
theorem c_TuneSetterModel_write (l : Launch) (D : va_G) (cA a : Nat → Nat) (sz : Nat) (I : Nat → Int32) (A : Nat → Nat → Int32) (post : Int32 → (Nat → Int32) → (Nat → Nat → Int32) → Prop) (h : wp_TuneSetterModel_write I A post) : Met l y_TuneSetterModel_write w_TuneSetterModel_write ({ frames := 2, cells := 0, slots := 0, locals := 43 }) (va_Pc [.ref (a 0)] (PreR D cA a I A sz)) (va_Qi (fun r (u : StW) => post r u.1 u.2) (EndR D cA a) (AR a sz)) 0 0 (AR a sz) := by
  refine Met.ofW (cc := b_TuneSetterModel_write) (maxL := 11) (ret := (some .int)) (by decide) rfl ?_
  intro p e s m args below meth c s₁ B hml hv
  obtain ⟨rfl, hsz, hP, hK, hD0⟩ := hv
  have hx := B.exec
  have hb := B.bytes
  have hr := B.returns
  have hts := atoms_spec (ws := w_TuneSetterModel_write) B.pre
  have hw := wall_of hts
  have hown : s.vm.findClass R_TuneSetterModel = some m.cls := findClass_of_methodNamed B.named
  have hlocks := B.notSynchronized
  subst hsz
  have hD := hDR (sz := s.heap.size) hD0
  have hA : ∀ q : Nat, s.heap.size ≤ q → AR a s.heap.size q := fun q h => Or.inr h
  have hS : va_S (AR a s.heap.size) s.heap s.heap [] := va_S.rf
  have j175 : ∀ (k24 : Int32 → Int64 → Int32 → (Nat → Int32) → (Nat → Nat → Int32) → Prop) (hk24 : ∀ (y1 : Int32) (y2 : Int64) (y4 : Int32) (I : Nat → Int32) (A : Nat → Nat → Int32) (H : Heap) (locs : List Loc) (ls : Array Slot), k24 y1 y2 y4 I A → va_P D cls (wR cA a I A) H → va_S (AR a s.heap.size) s.heap H locs → lv_has ls 11 [(0, .ref (a 0)), (1, .int y1), (2, .long y2), (4, .int y4)] → W p l e (headSpec w_TuneSetterModel_write ({ frames := 2, cells := 0, slots := 0, locals := 43 })).room s m [.ref (a 0)].toArray below meth c H locs 0 0 (MQ below (va_Qi (fun r (u : StW) => post r u.1 u.2) (EndR D cA a) (AR a s.heap.size)) [.ref (a 0)].toArray s 0 0 (AR a s.heap.size)) (F0 m 24 ls [])), ∀ (k126 : Int32 → Int32 → Int64 → Int32 → Int32 → (Nat → Int32) → (Nat → Nat → Int32) → Prop) (hk126 : ∀ (y1 : Int32) (y4 : Int32) (y5 : Int64) (y7 : Int32) (y8 : Int32) (I : Nat → Int32) (A : Nat → Nat → Int32) (H : Heap) (locs : List Loc) (ls : Array Slot), k126 y1 y4 y5 y7 y8 I A → va_P D cls (wR cA a I A) H → va_S (AR a s.heap.size) s.heap H locs → lv_has ls 11 [(0, .ref (a 0)), (1, .int y1), (4, .int y4), (5, .long y5), (7, .int y7), (8, .int y8)] → W p l e (headSpec w_TuneSetterModel_write ({ frames := 2, cells := 0, slots := 0, locals := 43 })).room s m [.ref (a 0)].toArray below meth c H locs 0 0 (MQ below (va_Qi (fun r (u : StW) => post r u.1 u.2) (EndR D cA a) (AR a s.heap.size)) [.ref (a 0)].toArray s 0 0 (AR a s.heap.size)) (F0 m 126 ls [])), ∀ (y4 : Int32) (y5 : Int64) (y7 : Int32) (y8 : Int32) (y9 : Int32) (s0 : Int32) (I : Nat → Int32) (A : Nat → Nat → Int32) (H : Heap) (locs : List Loc) (ls : Array Slot), wp_TuneSetterModel_write_175 k24 k126 post y4 y5 y7 y8 y9 s0 I A → va_P D cls (wR cA a I A) H → va_S (AR a s.heap.size) s.heap H locs → lv_has ls 11 [(0, .ref (a 0)), (4, .int y4), (5, .long y5), (7, .int y7), (8, .int y8), (9, .int y9)] → W p l e (headSpec w_TuneSetterModel_write ({ frames := 2, cells := 0, slots := 0, locals := 43 })).room s m [.ref (a 0)].toArray below meth c H locs 0 0 (MQ below (va_Qi (fun r (u : StW) => post r u.1 u.2) (EndR D cA a) (AR a s.heap.size)) [.ref (a 0)].toArray s 0 0 (AR a s.heap.size)) (F0 m 175 ls [.int s0, .ref (a 0)]) := by
    intro k24 hk24 k126 hk126
    intro y4 y5 y7 y8 y9 s0 I A H locs ls h hP hS hl
    unfold wp_TuneSetterModel_write_175 at h
    refine k_TuneSetterModel_emit s0 (rest := []) ⟨hx, hb, hml, hown, hw⟩ hK hD hA hS hP hl.1 (hw _ m_TuneSetterModel_272) (Nat.le_of_ble_eq_true rfl) ⟨Nat.le_of_ble_eq_true rfl, Nat.le_of_ble_eq_true rfl⟩ ⟨Nat.zero_le _, Nat.zero_le _⟩ d_TuneSetterModel_write_175 h (fun I175 A175 H locs h hP hS => ?_)
    refine lv_aload_n hx hb d_TuneSetterModel_write_178 rfl (lv_at hl 0 rfl) ?_
    refine lv_lload hx hb d_TuneSetterModel_write_179 (lv_at hl 2 rfl) ?_
    refine lv_ldc2 (v := 128) hx hb hown (hw _ m_TuneSetterModel_277) d_TuneSetterModel_write_181 ?_
    refine lv_lrem hx hb d_TuneSetterModel_write_184 (by decide) ?_
    refine lv_l2i hx hb d_TuneSetterModel_write_185 rfl ?_
    refine k_TuneSetterModel_emit ((y5 - y5 / 128 * 128).toInt32) (rest := []) ⟨hx, hb, hml, hown, hw⟩ hK hD hA hS hP hl.1 (hw _ m_TuneSetterModel_272) (Nat.le_of_ble_eq_true rfl) ⟨Nat.le_of_ble_eq_true rfl, Nat.le_of_ble_eq_true rfl⟩ ⟨Nat.zero_le _, Nat.zero_le _⟩ d_TuneSetterModel_write_186 h (fun I186 A186 H locs h hP hS => ?_)
    refine lv_aload_n hx hb d_TuneSetterModel_write_189 rfl (lv_at hl 0 rfl) ?_
    refine lv_bipush (v := 64) hx hb d_TuneSetterModel_write_190 bp_64 ?_
    refine k_TuneSetterModel_emit 64 (rest := []) ⟨hx, hb, hml, hown, hw⟩ hK hD hA hS hP hl.1 (hw _ m_TuneSetterModel_272) (Nat.le_of_ble_eq_true rfl) ⟨Nat.le_of_ble_eq_true rfl, Nat.le_of_ble_eq_true rfl⟩ ⟨Nat.zero_le _, Nat.zero_le _⟩ d_TuneSetterModel_write_192 h (fun I192 A192 H locs h hP hS => ?_)
    refine lv_iload hx hb d_TuneSetterModel_write_195 (lv_at hl 5 rfl) ?_
    refine lv_istore_n (lv' := [(1, .int y9), (0, .ref (a 0)), (4, .int y4), (5, .long y5), (7, .int y7), (8, .int y8), (9, .int y9)]) hx hb d_TuneSetterModel_write_197 rfl hl (by decide) rfl (fun ls hl => ?_)
    obtain ⟨v198, ev198⟩ : ∃ z : Int32, z = y8 + 1 := ⟨_, rfl⟩
    have h := h v198 ev198
    refine lv_iinc (k := 5) (v := v198) (lv' := [(8, .int v198), (1, .int y9), (0, .ref (a 0)), (4, .int y4), (5, .long y5), (7, .int y7), (9, .int y9)]) hx hb d_TuneSetterModel_write_198 hl rfl (by rw [ev198, ic_1]) (by decide) rfl (fun ls hl => ?_)
    refine lv_goto (tgt := 126) hx hb d_TuneSetterModel_write_201 rfl ?_
    exact hk126 y9 y4 y5 y7 v198 I192 A192 _ _ _ h hP hS (lv_sub hl [2, 1, 3, 4, 5, 0] rfl)
  have j126 : ∀ (k24 : Int32 → Int64 → Int32 → (Nat → Int32) → (Nat → Nat → Int32) → Prop) (hk24 : ∀ (y1 : Int32) (y2 : Int64) (y4 : Int32) (I : Nat → Int32) (A : Nat → Nat → Int32) (H : Heap) (locs : List Loc) (ls : Array Slot), k24 y1 y2 y4 I A → va_P D cls (wR cA a I A) H → va_S (AR a s.heap.size) s.heap H locs → lv_has ls 11 [(0, .ref (a 0)), (1, .int y1), (2, .long y2), (4, .int y4)] → W p l e (headSpec w_TuneSetterModel_write ({ frames := 2, cells := 0, slots := 0, locals := 43 })).room s m [.ref (a 0)].toArray below meth c H locs 0 0 (MQ below (va_Qi (fun r (u : StW) => post r u.1 u.2) (EndR D cA a) (AR a s.heap.size)) [.ref (a 0)].toArray s 0 0 (AR a s.heap.size)) (F0 m 24 ls [])), ∀ n : Nat, ∀ (y1 : Int32) (y4 : Int32) (y5 : Int64) (y7 : Int32) (y8 : Int32) (I : Nat → Int32) (A : Nat → Nat → Int32) (H : Heap) (locs : List Loc) (ls : Array Slot), wp_TuneSetterModel_write_126 k24 post n y1 y4 y5 y7 y8 I A → va_P D cls (wR cA a I A) H → va_S (AR a s.heap.size) s.heap H locs → lv_has ls 11 [(0, .ref (a 0)), (1, .int y1), (4, .int y4), (5, .long y5), (7, .int y7), (8, .int y8)] → W p l e (headSpec w_TuneSetterModel_write ({ frames := 2, cells := 0, slots := 0, locals := 43 })).room s m [.ref (a 0)].toArray below meth c H locs 0 0 (MQ below (va_Qi (fun r (u : StW) => post r u.1 u.2) (EndR D cA a) (AR a s.heap.size)) [.ref (a 0)].toArray s 0 0 (AR a s.heap.size)) (F0 m 126 ls []) := by
    intro k24 hk24
    intro n
    induction n with
    | zero =>
      intro y1 y4 y5 y7 y8 I A H locs ls h hP hS hl
      exact False.elim h
    | succ n ih =>
      intro y1 y4 y5 y7 y8 I A H locs ls h hP hS hl
      unfold wp_TuneSetterModel_write_126 at h
      refine lv_iload hx hb d_TuneSetterModel_write_126 (lv_at hl 5 rfl) ?_
      refine lv_iload hx hb d_TuneSetterModel_write_128 (lv_at hl 4 rfl) ?_
      refine lv_icmp_ge (tgt := 204) hx hb d_TuneSetterModel_write_130 rfl (fun q => ?_) (fun q => ?_)
      · have h := h.1 q
        refine lv_lload hx hb d_TuneSetterModel_write_204 (lv_at hl 3 rfl) ?_
        refine lv_lstore_n (lv' := [(2, .long y5), (0, .ref (a 0)), (1, .int y1), (4, .int y4), (5, .long y5), (7, .int y7), (8, .int y8)]) hx hb d_TuneSetterModel_write_206 rfl hl (by decide) rfl (fun ls hl => ?_)
        refine lv_goto (tgt := 24) hx hb d_TuneSetterModel_write_207 rfl ?_
        exact hk24 y1 y5 y4 I A _ _ _ h hP hS (lv_sub hl [1, 2, 0, 3] rfl)
      · have h := h.2 q
        refine lv_lload hx hb d_TuneSetterModel_write_133 (lv_at hl 3 rfl) ?_
        refine lv_ldc2 (v := 256) hx hb hown (hw _ m_TuneSetterModel_275) d_TuneSetterModel_write_135 ?_
        refine lv_ldiv hx hb d_TuneSetterModel_write_138 (by decide) ?_
        refine lv_l2i hx hb d_TuneSetterModel_write_139 rfl ?_
        refine lv_topi (fun v140 ev140 => ?_)
        have h := h v140 ev140
        refine lv_istore (lv' := [(9, .int v140), (0, .ref (a 0)), (1, .int y1), (4, .int y4), (5, .long y5), (7, .int y7), (8, .int y8)]) hx hb d_TuneSetterModel_write_140 hl (by decide) rfl (fun ls hl => ?_)
        refine lv_aload_n hx hb d_TuneSetterModel_write_142 rfl (lv_at hl 1 rfl) ?_
        refine lv_iload hx hb d_TuneSetterModel_write_143 (lv_at hl 0 rfl) ?_
        refine lv_iload_n hx hb d_TuneSetterModel_write_145 rfl (lv_at hl 2 rfl) ?_
        refine lv_isub hx hb d_TuneSetterModel_write_146 ?_
        refine k_TuneSetterModel_emitGap (v140 - y1) (rest := []) ⟨hx, hb, hml, hown, hw⟩ hK hD hA hS hP hl.1 (hw _ m_TuneSetterModel_285) (Nat.le_of_ble_eq_true rfl) ⟨Nat.le_of_ble_eq_true rfl, Nat.le_of_ble_eq_true rfl⟩ ⟨Nat.zero_le _, Nat.zero_le _⟩ d_TuneSetterModel_write_147 h (fun I147 A147 H locs h hP hS => ?_)
        refine lv_aload_n hx hb d_TuneSetterModel_write_150 rfl (lv_at hl 1 rfl) ?_
        refine lv_lload hx hb d_TuneSetterModel_write_151 (lv_at hl 4 rfl) ?_
        refine lv_ldc2 (v := 128) hx hb hown (hw _ m_TuneSetterModel_277) d_TuneSetterModel_write_153 ?_
        refine lv_ldiv hx hb d_TuneSetterModel_write_156 (by decide) ?_
        refine lv_ldc2 (v := 2) hx hb hown (hw _ m_TuneSetterModel_288) d_TuneSetterModel_write_157 ?_
        refine lv_lrem hx hb d_TuneSetterModel_write_160 (by decide) ?_
        refine lv_lconst (v := 1) hx hb d_TuneSetterModel_write_161 rfl ?_
        refine W.lcmp hx hb d_TuneSetterModel_write_162 ?_
        refine lv_if_ne (tgt := 172) hx hb d_TuneSetterModel_write_163 rfl (fun q => ?_) (fun q => ?_)
        · have h := h.2 q
          refine lv_sipush (v := 128) hx hb d_TuneSetterModel_write_172 sp_128 ?_
          exact (j175 _ hk24 _ ih) y4 y5 y7 y8 v140 128 I147 A147 _ _ _ h hP hS (lv_sub hl [1, 3, 4, 5, 6, 0] rfl)
        · have h := h.1 q
          refine lv_sipush (v := 144) hx hb d_TuneSetterModel_write_166 sp_144 ?_
          refine lv_goto (tgt := 175) hx hb d_TuneSetterModel_write_169 rfl ?_
          exact (j175 _ hk24 _ ih) y4 y5 y7 y8 v140 144 I147 A147 _ _ _ h hP hS (lv_sub hl [1, 3, 4, 5, 6, 0] rfl)
  have j81 : ∀ (k24 : Int32 → Int64 → Int32 → (Nat → Int32) → (Nat → Nat → Int32) → Prop) (hk24 : ∀ (y1 : Int32) (y2 : Int64) (y4 : Int32) (I : Nat → Int32) (A : Nat → Nat → Int32) (H : Heap) (locs : List Loc) (ls : Array Slot), k24 y1 y2 y4 I A → va_P D cls (wR cA a I A) H → va_S (AR a s.heap.size) s.heap H locs → lv_has ls 11 [(0, .ref (a 0)), (1, .int y1), (2, .long y2), (4, .int y4)] → W p l e (headSpec w_TuneSetterModel_write ({ frames := 2, cells := 0, slots := 0, locals := 43 })).room s m [.ref (a 0)].toArray below meth c H locs 0 0 (MQ below (va_Qi (fun r (u : StW) => post r u.1 u.2) (EndR D cA a) (AR a s.heap.size)) [.ref (a 0)].toArray s 0 0 (AR a s.heap.size)) (F0 m 24 ls [])), ∀ (k40 : Int32 → Int64 → Int64 → Int32 → Int32 → (Nat → Int32) → (Nat → Nat → Int32) → Prop) (hk40 : ∀ (y1 : Int32) (y2 : Int64) (y5 : Int64) (y7 : Int32) (y8 : Int32) (I : Nat → Int32) (A : Nat → Nat → Int32) (H : Heap) (locs : List Loc) (ls : Array Slot), k40 y1 y2 y5 y7 y8 I A → va_P D cls (wR cA a I A) H → va_S (AR a s.heap.size) s.heap H locs → lv_has ls 11 [(0, .ref (a 0)), (1, .int y1), (2, .long y2), (5, .long y5), (7, .int y7), (8, .int y8)] → W p l e (headSpec w_TuneSetterModel_write ({ frames := 2, cells := 0, slots := 0, locals := 43 })).room s m [.ref (a 0)].toArray below meth c H locs 0 0 (MQ below (va_Qi (fun r (u : StW) => post r u.1 u.2) (EndR D cA a) (AR a s.heap.size)) [.ref (a 0)].toArray s 0 0 (AR a s.heap.size)) (F0 m 40 ls [])), ∀ (y1 : Int32) (y2 : Int64) (y5 : Int64) (y7 : Int32) (y8 : Int32) (y9 : Int64) (I : Nat → Int32) (A : Nat → Nat → Int32) (H : Heap) (locs : List Loc) (ls : Array Slot), wp_TuneSetterModel_write_81 k24 k40 post y1 y2 y5 y7 y8 y9 I A → va_P D cls (wR cA a I A) H → va_S (AR a s.heap.size) s.heap H locs → lv_has ls 11 [(0, .ref (a 0)), (1, .int y1), (2, .long y2), (5, .long y5), (7, .int y7), (8, .int y8), (9, .long y9)] → W p l e (headSpec w_TuneSetterModel_write ({ frames := 2, cells := 0, slots := 0, locals := 43 })).room s m [.ref (a 0)].toArray below meth c H locs 0 0 (MQ below (va_Qi (fun r (u : StW) => post r u.1 u.2) (EndR D cA a) (AR a s.heap.size)) [.ref (a 0)].toArray s 0 0 (AR a s.heap.size)) (F0 m 81 ls []) := by
    intro k24 hk24 k40 hk40
    intro y1 y2 y5 y7 y8 y9 I A H locs ls h hP hS hl
    unfold wp_TuneSetterModel_write_81 at h
    refine lv_lload hx hb d_TuneSetterModel_write_81 (lv_at hl 6 rfl) ?_
    refine lv_lload hx hb d_TuneSetterModel_write_83 (lv_at hl 3 rfl) ?_
    refine W.lcmp hx hb d_TuneSetterModel_write_85 ?_
    refine lv_if_ne (tgt := 96) hx hb d_TuneSetterModel_write_86 rfl (fun q => ?_) (fun q => ?_)
    · have h := h.2 q
      refine lv_iconst (v := 1) hx hb d_TuneSetterModel_write_96 ic_1 ?_
      refine lv_istore (lv' := [(7, .int 1), (0, .ref (a 0)), (1, .int y1), (2, .long y2), (5, .long y5), (8, .int y8), (9, .long y9)]) hx hb d_TuneSetterModel_write_97 hl (by decide) rfl (fun ls hl => ?_)
      refine lv_lload hx hb d_TuneSetterModel_write_99 (lv_at hl 6 rfl) ?_
      refine lv_lstore (lv' := [(5, .long y9), (7, .int 1), (0, .ref (a 0)), (1, .int y1), (2, .long y2), (8, .int y8), (9, .long y9)]) hx hb d_TuneSetterModel_write_101 hl (by decide) rfl (fun ls hl => ?_)
      obtain ⟨v103, ev103⟩ : ∃ z : Int32, z = y8 + 1 := ⟨_, rfl⟩
      have h := h v103 ev103
      refine lv_iinc (k := 5) (v := v103) (lv' := [(8, .int v103), (5, .long y9), (7, .int 1), (0, .ref (a 0)), (1, .int y1), (2, .long y2), (9, .long y9)]) hx hb d_TuneSetterModel_write_103 hl rfl (by rw [ev103, ic_1]) (by decide) rfl (fun ls hl => ?_)
      refine lv_goto (tgt := 40) hx hb d_TuneSetterModel_write_106 rfl ?_
      exact hk40 y1 y2 y9 1 v103 I A _ _ _ h hP hS (lv_sub hl [3, 4, 5, 1, 2, 0] rfl)
    · have h := h.1 q
      refine lv_iload hx hb d_TuneSetterModel_write_89 (lv_at hl 4 rfl) ?_
      refine lv_iconst (v := 1) hx hb d_TuneSetterModel_write_91 ic_1 ?_
      refine lv_iadd hx hb d_TuneSetterModel_write_92 ?_
      refine lv_goto (tgt := 97) hx hb d_TuneSetterModel_write_93 rfl ?_
      refine lv_topi (fun v97 ev97 => ?_)
      have h := h v97 ev97
      refine lv_istore (lv' := [(7, .int v97), (0, .ref (a 0)), (1, .int y1), (2, .long y2), (5, .long y5), (8, .int y8), (9, .long y9)]) hx hb d_TuneSetterModel_write_97 hl (by decide) rfl (fun ls hl => ?_)
      refine lv_lload hx hb d_TuneSetterModel_write_99 (lv_at hl 6 rfl) ?_
      refine lv_lstore (lv' := [(5, .long y9), (7, .int v97), (0, .ref (a 0)), (1, .int y1), (2, .long y2), (8, .int y8), (9, .long y9)]) hx hb d_TuneSetterModel_write_101 hl (by decide) rfl (fun ls hl => ?_)
      obtain ⟨v103, ev103⟩ : ∃ z : Int32, z = y8 + 1 := ⟨_, rfl⟩
      have h := h v103 ev103
      refine lv_iinc (k := 5) (v := v103) (lv' := [(8, .int v103), (5, .long y9), (7, .int v97), (0, .ref (a 0)), (1, .int y1), (2, .long y2), (9, .long y9)]) hx hb d_TuneSetterModel_write_103 hl rfl (by rw [ev103, ic_1]) (by decide) rfl (fun ls hl => ?_)
      refine lv_goto (tgt := 40) hx hb d_TuneSetterModel_write_106 rfl ?_
      exact hk40 y1 y2 y9 v97 v103 I A _ _ _ h hP hS (lv_sub hl [3, 4, 5, 1, 2, 0] rfl)
  have j40 : ∀ (k24 : Int32 → Int64 → Int32 → (Nat → Int32) → (Nat → Nat → Int32) → Prop) (hk24 : ∀ (y1 : Int32) (y2 : Int64) (y4 : Int32) (I : Nat → Int32) (A : Nat → Nat → Int32) (H : Heap) (locs : List Loc) (ls : Array Slot), k24 y1 y2 y4 I A → va_P D cls (wR cA a I A) H → va_S (AR a s.heap.size) s.heap H locs → lv_has ls 11 [(0, .ref (a 0)), (1, .int y1), (2, .long y2), (4, .int y4)] → W p l e (headSpec w_TuneSetterModel_write ({ frames := 2, cells := 0, slots := 0, locals := 43 })).room s m [.ref (a 0)].toArray below meth c H locs 0 0 (MQ below (va_Qi (fun r (u : StW) => post r u.1 u.2) (EndR D cA a) (AR a s.heap.size)) [.ref (a 0)].toArray s 0 0 (AR a s.heap.size)) (F0 m 24 ls [])), ∀ n : Nat, ∀ (y1 : Int32) (y2 : Int64) (y5 : Int64) (y7 : Int32) (y8 : Int32) (I : Nat → Int32) (A : Nat → Nat → Int32) (H : Heap) (locs : List Loc) (ls : Array Slot), wp_TuneSetterModel_write_40 k24 post n y1 y2 y5 y7 y8 I A → va_P D cls (wR cA a I A) H → va_S (AR a s.heap.size) s.heap H locs → lv_has ls 11 [(0, .ref (a 0)), (1, .int y1), (2, .long y2), (5, .long y5), (7, .int y7), (8, .int y8)] → W p l e (headSpec w_TuneSetterModel_write ({ frames := 2, cells := 0, slots := 0, locals := 43 })).room s m [.ref (a 0)].toArray below meth c H locs 0 0 (MQ below (va_Qi (fun r (u : StW) => post r u.1 u.2) (EndR D cA a) (AR a s.heap.size)) [.ref (a 0)].toArray s 0 0 (AR a s.heap.size)) (F0 m 40 ls []) := by
    intro k24 hk24
    intro n
    induction n with
    | zero =>
      intro y1 y2 y5 y7 y8 I A H locs ls h hP hS hl
      exact False.elim h
    | succ n ih =>
      intro y1 y2 y5 y7 y8 I A H locs ls h hP hS hl
      unfold wp_TuneSetterModel_write_40 at h
      refine lv_iload hx hb d_TuneSetterModel_write_40 (lv_at hl 5 rfl) ?_
      refine lv_iconst (v := 2) hx hb d_TuneSetterModel_write_42 ic_2 ?_
      refine lv_aload_n hx hb d_TuneSetterModel_write_43 rfl (lv_at hl 0 rfl) ?_
      refine gR_TuneSetterModel_notes hx hb hw hown hK hP (hw _ m_TuneSetterModel_97) d_TuneSetterModel_write_44 ?_
      refine lv_imul hx hb d_TuneSetterModel_write_47 ?_
      refine lv_icmp_ge (tgt := 109) hx hb d_TuneSetterModel_write_48 rfl (fun q => ?_) (fun q => ?_)
      · have h := h.1 q
        refine lv_lload hx hb d_TuneSetterModel_write_109 (lv_at hl 3 rfl) ?_
        refine lv_lconst (v := 0) hx hb d_TuneSetterModel_write_111 rfl ?_
        refine W.lcmp hx hb d_TuneSetterModel_write_112 ?_
        refine lv_if_lt (tgt := 120) hx hb d_TuneSetterModel_write_113 rfl (fun q => ?_) (fun q => ?_)
        · have h := h.1 q
          refine lv_iconst (v := 0) hx hb d_TuneSetterModel_write_120 ic_0 ?_
          refine lv_istore (lv' := [(4, .int 0), (0, .ref (a 0)), (1, .int y1), (2, .long y2), (5, .long y5), (7, .int y7), (8, .int y8)]) hx hb d_TuneSetterModel_write_121 hl (by decide) rfl (fun ls hl => ?_)
          refine lv_iconst (v := 0) hx hb d_TuneSetterModel_write_123 ic_0 ?_
          refine lv_istore (lv' := [(8, .int 0), (4, .int 0), (0, .ref (a 0)), (1, .int y1), (2, .long y2), (5, .long y5), (7, .int y7)]) hx hb d_TuneSetterModel_write_124 hl (by decide) rfl (fun ls hl => ?_)
          obtain ⟨n126, h⟩ := h
          exact (j126 _ hk24) n126 y1 0 y5 y7 0 I A _ _ _ h hP hS (lv_sub hl [2, 3, 1, 5, 6, 0] rfl)
        · have h := h.2 q
          refine lv_iconst (v := 1) hx hb d_TuneSetterModel_write_116 ic_1 ?_
          refine lv_goto (tgt := 121) hx hb d_TuneSetterModel_write_117 rfl ?_
          refine lv_istore (lv' := [(4, .int 1), (0, .ref (a 0)), (1, .int y1), (2, .long y2), (5, .long y5), (7, .int y7), (8, .int y8)]) hx hb d_TuneSetterModel_write_121 hl (by decide) rfl (fun ls hl => ?_)
          refine lv_iconst (v := 0) hx hb d_TuneSetterModel_write_123 ic_0 ?_
          refine lv_istore (lv' := [(8, .int 0), (4, .int 1), (0, .ref (a 0)), (1, .int y1), (2, .long y2), (5, .long y5), (7, .int y7)]) hx hb d_TuneSetterModel_write_124 hl (by decide) rfl (fun ls hl => ?_)
          obtain ⟨n126, h⟩ := h
          exact (j126 _ hk24) n126 y1 1 y5 y7 0 I A _ _ _ h hP hS (lv_sub hl [2, 3, 1, 5, 6, 0] rfl)
      · have h := h.2 q
        refine lv_aload_n hx hb d_TuneSetterModel_write_51 rfl (lv_at hl 0 rfl) ?_
        refine lv_iload hx hb d_TuneSetterModel_write_52 (lv_at hl 5 rfl) ?_
        refine k_TuneSetterModel_order y8 (rest := []) ⟨hx, hb, hml, hown, hw⟩ hK hD hA hS hP hl.1 (hw _ m_TuneSetterModel_281) (Nat.le_of_ble_eq_true rfl) ⟨Nat.le_of_ble_eq_true rfl, Nat.le_of_ble_eq_true rfl⟩ ⟨Nat.zero_le _, Nat.zero_le _⟩ d_TuneSetterModel_write_54 h (fun r54 I54 A54 H locs h hP hS => ?_)
        refine lv_lstore (lv' := [(9, .long r54), (0, .ref (a 0)), (1, .int y1), (2, .long y2), (5, .long y5), (7, .int y7), (8, .int y8)]) hx hb d_TuneSetterModel_write_57 hl (by decide) rfl (fun ls hl => ?_)
        refine lv_lload hx hb d_TuneSetterModel_write_59 (lv_at hl 0 rfl) ?_
        refine lv_lload_n hx hb d_TuneSetterModel_write_61 rfl (lv_at hl 3 rfl) ?_
        refine W.lcmp hx hb d_TuneSetterModel_write_62 ?_
        refine lv_if_le (tgt := 103) hx hb d_TuneSetterModel_write_63 rfl (fun q => ?_) (fun q => ?_)
        · have h := h.1 q
          obtain ⟨v103, ev103⟩ : ∃ z : Int32, z = y8 + 1 := ⟨_, rfl⟩
          have h := h v103 ev103
          refine lv_iinc (k := 6) (v := v103) (lv' := [(8, .int v103), (9, .long r54), (0, .ref (a 0)), (1, .int y1), (2, .long y2), (5, .long y5), (7, .int y7)]) hx hb d_TuneSetterModel_write_103 hl rfl (by rw [ev103, ic_1]) (by decide) rfl (fun ls hl => ?_)
          refine lv_goto (tgt := 40) hx hb d_TuneSetterModel_write_106 rfl ?_
          exact ih y1 y2 y5 y7 v103 I54 A54 _ _ _ h hP hS (lv_sub hl [2, 3, 4, 5, 6, 0] rfl)
        · have h := h.2 q
          refine lv_lload hx hb d_TuneSetterModel_write_66 (lv_at hl 4 rfl) ?_
          refine lv_lconst (v := 0) hx hb d_TuneSetterModel_write_68 rfl ?_
          refine W.lcmp hx hb d_TuneSetterModel_write_69 ?_
          refine lv_if_lt (tgt := 81) hx hb d_TuneSetterModel_write_70 rfl (fun q => ?_) (fun q => ?_)
          · have h := h.1 q
            exact (j81 _ hk24 _ ih) y1 y2 y5 y7 y8 r54 I54 A54 _ _ _ h hP hS (lv_sub hl [1, 2, 3, 4, 5, 6, 0] rfl)
          · have h := h.2 q
            refine lv_lload hx hb d_TuneSetterModel_write_73 (lv_at hl 0 rfl) ?_
            refine lv_lload hx hb d_TuneSetterModel_write_75 (lv_at hl 4 rfl) ?_
            refine W.lcmp hx hb d_TuneSetterModel_write_77 ?_
            refine lv_if_gt (tgt := 103) hx hb d_TuneSetterModel_write_78 rfl (fun q => ?_) (fun q => ?_)
            · have h := h.1 q
              obtain ⟨v103, ev103⟩ : ∃ z : Int32, z = y8 + 1 := ⟨_, rfl⟩
              have h := h v103 ev103
              refine lv_iinc (k := 6) (v := v103) (lv' := [(8, .int v103), (9, .long r54), (0, .ref (a 0)), (1, .int y1), (2, .long y2), (5, .long y5), (7, .int y7)]) hx hb d_TuneSetterModel_write_103 hl rfl (by rw [ev103, ic_1]) (by decide) rfl (fun ls hl => ?_)
              refine lv_goto (tgt := 40) hx hb d_TuneSetterModel_write_106 rfl ?_
              exact ih y1 y2 y5 y7 v103 I54 A54 _ _ _ h hP hS (lv_sub hl [2, 3, 4, 5, 6, 0] rfl)
            · have h := h.2 q
              exact (j81 _ hk24 _ ih) y1 y2 y5 y7 y8 r54 I54 A54 _ _ _ h hP hS (lv_sub hl [1, 2, 3, 4, 5, 6, 0] rfl)
  have j24 : ∀ n : Nat, ∀ (y1 : Int32) (y2 : Int64) (y4 : Int32) (I : Nat → Int32) (A : Nat → Nat → Int32) (H : Heap) (locs : List Loc) (ls : Array Slot), wp_TuneSetterModel_write_24 post n y1 y2 y4 I A → va_P D cls (wR cA a I A) H → va_S (AR a s.heap.size) s.heap H locs → lv_has ls 11 [(0, .ref (a 0)), (1, .int y1), (2, .long y2), (4, .int y4)] → W p l e (headSpec w_TuneSetterModel_write ({ frames := 2, cells := 0, slots := 0, locals := 43 })).room s m [.ref (a 0)].toArray below meth c H locs 0 0 (MQ below (va_Qi (fun r (u : StW) => post r u.1 u.2) (EndR D cA a) (AR a s.heap.size)) [.ref (a 0)].toArray s 0 0 (AR a s.heap.size)) (F0 m 24 ls []) := by
    intro n
    induction n with
    | zero =>
      intro y1 y2 y4 I A H locs ls h hP hS hl
      exact False.elim h
    | succ n ih =>
      intro y1 y2 y4 I A H locs ls h hP hS hl
      unfold wp_TuneSetterModel_write_24 at h
      refine lv_iload hx hb d_TuneSetterModel_write_24 (lv_at hl 3 rfl) ?_
      refine lv_if_eq (tgt := 210) hx hb d_TuneSetterModel_write_26 rfl (fun q => ?_) (fun q => ?_)
      · have h := h.1 q
        refine lv_aload_n hx hb d_TuneSetterModel_write_210 rfl (lv_at hl 0 rfl) ?_
        refine lv_iconst (v := 0) hx hb d_TuneSetterModel_write_211 ic_0 ?_
        refine k_TuneSetterModel_emit 0 (rest := []) ⟨hx, hb, hml, hown, hw⟩ hK hD hA hS hP hl.1 (hw _ m_TuneSetterModel_272) (Nat.le_of_ble_eq_true rfl) ⟨Nat.le_of_ble_eq_true rfl, Nat.le_of_ble_eq_true rfl⟩ ⟨Nat.zero_le _, Nat.zero_le _⟩ d_TuneSetterModel_write_212 h (fun I212 A212 H locs h hP hS => ?_)
        refine lv_aload_n hx hb d_TuneSetterModel_write_215 rfl (lv_at hl 0 rfl) ?_
        refine lv_sipush (v := 255) hx hb d_TuneSetterModel_write_216 sp_255 ?_
        refine k_TuneSetterModel_emit 255 (rest := []) ⟨hx, hb, hml, hown, hw⟩ hK hD hA hS hP hl.1 (hw _ m_TuneSetterModel_272) (Nat.le_of_ble_eq_true rfl) ⟨Nat.le_of_ble_eq_true rfl, Nat.le_of_ble_eq_true rfl⟩ ⟨Nat.zero_le _, Nat.zero_le _⟩ d_TuneSetterModel_write_219 h (fun I219 A219 H locs h hP hS => ?_)
        refine lv_aload_n hx hb d_TuneSetterModel_write_222 rfl (lv_at hl 0 rfl) ?_
        refine lv_bipush (v := 47) hx hb d_TuneSetterModel_write_223 bp_47 ?_
        refine k_TuneSetterModel_emit 47 (rest := []) ⟨hx, hb, hml, hown, hw⟩ hK hD hA hS hP hl.1 (hw _ m_TuneSetterModel_272) (Nat.le_of_ble_eq_true rfl) ⟨Nat.le_of_ble_eq_true rfl, Nat.le_of_ble_eq_true rfl⟩ ⟨Nat.zero_le _, Nat.zero_le _⟩ d_TuneSetterModel_write_225 h (fun I225 A225 H locs h hP hS => ?_)
        refine lv_aload_n hx hb d_TuneSetterModel_write_228 rfl (lv_at hl 0 rfl) ?_
        refine lv_iconst (v := 0) hx hb d_TuneSetterModel_write_229 ic_0 ?_
        refine k_TuneSetterModel_emit 0 (rest := []) ⟨hx, hb, hml, hown, hw⟩ hK hD hA hS hP hl.1 (hw _ m_TuneSetterModel_272) (Nat.le_of_ble_eq_true rfl) ⟨Nat.le_of_ble_eq_true rfl, Nat.le_of_ble_eq_true rfl⟩ ⟨Nat.zero_le _, Nat.zero_le _⟩ d_TuneSetterModel_write_230 h (fun I230 A230 H locs h hP hS => ?_)
        refine lv_aload_n hx hb d_TuneSetterModel_write_233 rfl (lv_at hl 0 rfl) ?_
        refine gR_TuneSetterModel_made hx hb hw hown hK hP (hw _ m_TuneSetterModel_269) d_TuneSetterModel_write_234 ?_
        refine lv_topi (fun v237 ev237 => ?_)
        have h := h v237 ev237
        refine lv_istore (lv' := [(5, .int v237), (0, .ref (a 0)), (1, .int y1), (2, .long y2), (4, .int y4)]) hx hb d_TuneSetterModel_write_237 hl (by decide) rfl (fun ls hl => ?_)
        refine lv_aload_n hx hb d_TuneSetterModel_write_239 rfl (lv_at hl 1 rfl) ?_
        refine lv_iload hx hb d_TuneSetterModel_write_240 (lv_at hl 0 rfl) ?_
        refine lv_bipush (v := 22) hx hb d_TuneSetterModel_write_242 bp_22 ?_
        refine lv_isub hx hb d_TuneSetterModel_write_244 ?_
        refine k_TuneSetterModel_heading (v237 - 22) (rest := []) ⟨hx, hb, hml, hown, hw⟩ hK hD hA hS hP hl.1 (hw _ m_TuneSetterModel_290) (Nat.le_of_ble_eq_true rfl) ⟨Nat.le_of_ble_eq_true rfl, Nat.le_of_ble_eq_true rfl⟩ ⟨Nat.zero_le _, Nat.zero_le _⟩ d_TuneSetterModel_write_245 h (fun I245 A245 H locs h hP hS => ?_)
        refine lv_aload_n hx hb d_TuneSetterModel_write_248 rfl (lv_at hl 1 rfl) ?_
        refine lv_iload hx hb d_TuneSetterModel_write_249 (lv_at hl 0 rfl) ?_
        refine pR_TuneSetterModel_made hx hb hw hown hK hD hS hP (hw _ m_TuneSetterModel_269) d_TuneSetterModel_write_251 (fun H locs hP hS => ?_)
        refine lv_aload_n hx hb d_TuneSetterModel_write_254 rfl (lv_at hl 1 rfl) ?_
        refine gR_TuneSetterModel_made hx hb hw hown hK hP (hw _ m_TuneSetterModel_269) d_TuneSetterModel_write_255 ?_
        exact W.iret hx hb hr (fun t ht hW => ⟨⟨_, ((upd I245 26 v237), A245), rfl, h, endR_of ht hP⟩, hS.F ht⟩) hS.2.2 d_TuneSetterModel_write_258
      · have h := h.2 q
        refine lv_ldc2 (v := (-1)) hx hb hown (hw _ m_TuneSetterModel_279) d_TuneSetterModel_write_29 ?_
        refine lv_lstore (lv' := [(5, .long (-1)), (0, .ref (a 0)), (1, .int y1), (2, .long y2), (4, .int y4)]) hx hb d_TuneSetterModel_write_32 hl (by decide) rfl (fun ls hl => ?_)
        refine lv_iconst (v := 0) hx hb d_TuneSetterModel_write_34 ic_0 ?_
        refine lv_istore (lv' := [(7, .int 0), (5, .long (-1)), (0, .ref (a 0)), (1, .int y1), (2, .long y2), (4, .int y4)]) hx hb d_TuneSetterModel_write_35 hl (by decide) rfl (fun ls hl => ?_)
        refine lv_iconst (v := 0) hx hb d_TuneSetterModel_write_37 ic_0 ?_
        refine lv_istore (lv' := [(8, .int 0), (7, .int 0), (5, .long (-1)), (0, .ref (a 0)), (1, .int y1), (2, .long y2), (4, .int y4)]) hx hb d_TuneSetterModel_write_38 hl (by decide) rfl (fun ls hl => ?_)
        obtain ⟨n40, h⟩ := h
        exact (j40 _ ih) n40 y1 y2 (-1) 0 0 I A _ _ _ h hP hS (lv_sub hl [3, 4, 5, 2, 1, 0] rfl)
  have hl := lv_entry ([.ref (a 0)]) (n := 11) (Nat.le_of_ble_eq_true rfl)
  rw [lg_entry_eq]
  generalize (lg_sl ([.ref (a 0)]) ++ List.replicate (11 - (lg_sl ([.ref (a 0)])).length) Slot.unset).toArray = ls at hl ⊢
  have hl : lv_has ls 11 [(0, .ref (a 0))] := hl
  unfold wp_TuneSetterModel_write at h
  refine lv_aload_n hx hb d_TuneSetterModel_write_0 rfl (lv_at hl 0 rfl) ?_
  refine gR_TuneSetterModel_tune hx hb hw hown hK hP (hw _ m_TuneSetterModel_93) d_TuneSetterModel_write_1 ?_
  refine lv_if_ne (tgt := 9) hx hb d_TuneSetterModel_write_4 rfl (fun q => ?_) (fun q => ?_)
  · have h := h.2 q
    refine lv_aload_n hx hb d_TuneSetterModel_write_9 rfl (lv_at hl 0 rfl) ?_
    refine lv_bipush (v := 22) hx hb d_TuneSetterModel_write_10 bp_22 ?_
    refine pR_TuneSetterModel_made hx hb hw hown hK hD hS hP (hw _ m_TuneSetterModel_269) d_TuneSetterModel_write_12 (fun H locs hP hS => ?_)
    refine lv_iconst (v := 0) hx hb d_TuneSetterModel_write_15 ic_0 ?_
    refine lv_istore_n (lv' := [(1, .int 0), (0, .ref (a 0))]) hx hb d_TuneSetterModel_write_16 rfl hl (by decide) rfl (fun ls hl => ?_)
    refine lv_ldc2 (v := (-1)) hx hb hown (hw _ m_TuneSetterModel_279) d_TuneSetterModel_write_17 ?_
    refine lv_lstore_n (lv' := [(2, .long (-1)), (1, .int 0), (0, .ref (a 0))]) hx hb d_TuneSetterModel_write_20 rfl hl (by decide) rfl (fun ls hl => ?_)
    refine lv_iconst (v := 1) hx hb d_TuneSetterModel_write_21 ic_1 ?_
    refine lv_istore (lv' := [(4, .int 1), (2, .long (-1)), (1, .int 0), (0, .ref (a 0))]) hx hb d_TuneSetterModel_write_22 hl (by decide) rfl (fun ls hl => ?_)
    obtain ⟨n24, h⟩ := h
    exact j24 n24 0 (-1) 1 (upd I 26 22) A _ _ _ h hP hS (lv_sub hl [3, 2, 1, 0] rfl)
  · have h := h.1 q
    refine lv_iconst (v := (-1)) hx hb d_TuneSetterModel_write_7 ic_m1 ?_
    exact W.iret hx hb hr (fun t ht hW => ⟨⟨_, (I, A), rfl, h, endR_of ht hP⟩, hS.F ht⟩) hS.2.2 d_TuneSetterModel_write_8
theorem k_TuneSetterModel_write {p : Program} {l : Launch} {e : Env} {R : Room} {s : State} {m : MethodId} {args : Array Value} {below : List Frame} {meth : Method} {c : Code} {H : Heap} {locs : List Loc} {cells slots : Nat} {Q : State → Prop} {cc : ByteArray} {pc nL idx : Nat} {own : String} {ls : Array Slot} {D : va_G} {cA a : Nat → Nat} {AA : Nat → Prop} {I : Nat → Int32} {A : Nat → Nat → Int32} {post : Int32 → (Nat → Int32) → (Nat → Nat → Int32) → Prop} {rest : List Value} (S : CallFix p m c cc nL s args WALL own) (hK : KR D cA a AA s) (hD : ∀ I A, va_D AA (wR cA a I A)) (hA : ∀ q : Nat, s.heap.size ≤ q → AA q) (hS : va_S AA s.heap H locs) (hP : va_P D cls (wR cA a I A) H) (hl1 : ls.size = nL) (hlink : (Cond.methodLink own idx y_TuneSetterModel_write).before args s = true) (hst : (rest.map fun v => v.category).sum ≤ 8) (hR : ({ frames := 2, cells := 0, slots := 0, locals := 43 } : Room).frames + 1 ≤ R.frames ∧ 8 + (11 + 11) + ({ frames := 2, cells := 0, slots := 0, locals := 43 } : Room).locals ≤ R.locals) (hcs : cells ≤ R.cells ∧ slots ≤ R.slots) (hdg : decode cc pc = .ok (.invokevirtual idx, 3)) (h : wp_TuneSetterModel_write I A post) (kk : ∀ (r : Int32) (I1 : Nat → Int32) (A1 : Nat → Nat → Int32) (H1 : Heap) (locs1 : List Loc), post r I1 A1 → va_P D cls (wR cA a I1 A1) H1 → va_S AA s.heap H1 locs1 → W p l e R s m args below meth c H1 locs1 cells slots Q (F0 m (pc + 3) ls (.int r :: rest))) : W p l e R s m args below meth c H locs cells slots Q (F0 m pc ls (.ref (a 0) :: rest)) :=
  va_calli (va_runV (As := []) (rest := rest) S (c_TuneSetterModel_write l D cA a H.size I A post h) ⟨callB_of 0 S.2.2.2.2 g_TuneSetterModel_write rfl rfl rfl (S.2.2.2.2 _ mi_TuneSetterModel) hlink ⟨by decide, by decide, by decide +kernel⟩ hR, S.2.2.2.2 _ mn_TuneSetterModel_write, S.2.2.2.2 _ ms_TuneSetterModel_write⟩ (preRV hK hD hA hS hP 0 rfl rfl) rfl rfl hl1 rfl (lv_room hst) hdg hcs) hS (fun q _ z => AR_le hD hA hS q z) (fun q z => AR_le hD hA hS q z) (fun r u t H1 locs1 ht _ hp hB _ _ hS1 => kk r u.1 u.2 H1 locs1 hp (of_endR ht hB) hS1)
def wp_TuneSetterModel_byteAt (x1 : Int32) (I : Nat → Int32) (A : Nat → Nat → Int32) (post : Int32 → (Nat → Int32) → (Nat → Nat → Int32) → Prop) : Prop := ((x1 < 0 → post (-1) I A) ∧ (¬ x1 < 0 → (((I 26) ≤ x1 → post (-1) I A) ∧ (¬ (I 26) ≤ x1 → (vp_in x1 900 ∧ post (A 17 (x1.toNatClampNeg)) I A)))))
theorem d_TuneSetterModel_byteAt_0 : decode b_TuneSetterModel_byteAt 0 = .ok (.iload_n 1, 1) := by decide +kernel
theorem d_TuneSetterModel_byteAt_1 : decode b_TuneSetterModel_byteAt 1 = .ok (.ifCond .lt 20, 3) := by decide +kernel
theorem d_TuneSetterModel_byteAt_4 : decode b_TuneSetterModel_byteAt 4 = .ok (.iload_n 1, 1) := by decide +kernel
theorem d_TuneSetterModel_byteAt_5 : decode b_TuneSetterModel_byteAt 5 = .ok (.aload_n 0, 1) := by decide +kernel
theorem d_TuneSetterModel_byteAt_6 : decode b_TuneSetterModel_byteAt 6 = .ok (.getfield 269, 3) := by decide +kernel
theorem d_TuneSetterModel_byteAt_9 : decode b_TuneSetterModel_byteAt 9 = .ok (.if_icmp .ge 12, 3) := by decide +kernel
theorem d_TuneSetterModel_byteAt_12 : decode b_TuneSetterModel_byteAt 12 = .ok (.aload_n 0, 1) := by decide +kernel
theorem d_TuneSetterModel_byteAt_13 : decode b_TuneSetterModel_byteAt 13 = .ok (.getfield 72, 3) := by decide +kernel
theorem d_TuneSetterModel_byteAt_16 : decode b_TuneSetterModel_byteAt 16 = .ok (.iload_n 1, 1) := by decide +kernel
theorem d_TuneSetterModel_byteAt_17 : decode b_TuneSetterModel_byteAt 17 = .ok (.iaload, 1) := by decide +kernel
theorem d_TuneSetterModel_byteAt_18 : decode b_TuneSetterModel_byteAt 18 = .ok (.goto 4, 3) := by decide +kernel
theorem d_TuneSetterModel_byteAt_21 : decode b_TuneSetterModel_byteAt 21 = .ok (.iconst (-1), 1) := by decide +kernel
theorem d_TuneSetterModel_byteAt_22 : decode b_TuneSetterModel_byteAt 22 = .ok (.ireturn, 1) := by decide +kernel
def w_TuneSetterModel_byteAt : List Cond := .code y_TuneSetterModel_byteAt b_TuneSetterModel_byteAt 2 (some .int) :: WALL
theorem g_TuneSetterModel_byteAt : GoodIn WALL w_TuneSetterModel_byteAt := good_of mc_TuneSetterModel_byteAt
set_option maxHeartbeats 4000000 in
set_option maxRecDepth 100000 in
theorem c_TuneSetterModel_byteAt (l : Launch) (D : va_G) (cA a : Nat → Nat) (sz : Nat) (x1 : Int32) (I : Nat → Int32) (A : Nat → Nat → Int32) (post : Int32 → (Nat → Int32) → (Nat → Nat → Int32) → Prop) (h : wp_TuneSetterModel_byteAt x1 I A post) : Met l y_TuneSetterModel_byteAt w_TuneSetterModel_byteAt ({ frames := 0, cells := 0, slots := 0, locals := 0 }) (va_Pc [.ref (a 0), .int x1] (PreR D cA a I A sz)) (va_Qi (fun r (u : StW) => post r u.1 u.2) (EndR D cA a) (AR a sz)) 0 0 (AR a sz) := by
  refine Met.ofW (cc := b_TuneSetterModel_byteAt) (maxL := 2) (ret := (some .int)) (by decide) rfl ?_
  intro p e s m args below meth c s₁ B hml hv
  obtain ⟨rfl, hsz, hP, hK, hD0⟩ := hv
  have hx := B.exec
  have hb := B.bytes
  have hr := B.returns
  have hts := atoms_spec (ws := w_TuneSetterModel_byteAt) B.pre
  have hw := wall_of hts
  have hown : s.vm.findClass R_TuneSetterModel = some m.cls := findClass_of_methodNamed B.named
  have hlocks := B.notSynchronized
  subst hsz
  have hD := hDR (sz := s.heap.size) hD0
  have hA : ∀ q : Nat, s.heap.size ≤ q → AR a s.heap.size q := fun q h => Or.inr h
  have hS : va_S (AR a s.heap.size) s.heap s.heap [] := va_S.rf
  have hl := lv_entry ([.ref (a 0), .int x1]) (n := 2) (Nat.le_of_ble_eq_true rfl)
  rw [lg_entry_eq]
  generalize (lg_sl ([.ref (a 0), .int x1]) ++ List.replicate (2 - (lg_sl ([.ref (a 0), .int x1])).length) Slot.unset).toArray = ls at hl ⊢
  have hl : lv_has ls 2 [(0, .ref (a 0)), (1, .int x1)] := hl
  unfold wp_TuneSetterModel_byteAt at h
  refine lv_iload_n hx hb d_TuneSetterModel_byteAt_0 rfl (lv_at hl 1 rfl) ?_
  refine lv_if_lt (tgt := 21) hx hb d_TuneSetterModel_byteAt_1 rfl (fun q => ?_) (fun q => ?_)
  · have h := h.1 q
    refine lv_iconst (v := (-1)) hx hb d_TuneSetterModel_byteAt_21 ic_m1 ?_
    exact W.iret hx hb hr (fun t ht hW => ⟨⟨_, (I, A), rfl, h, endR_of ht hP⟩, hS.F ht⟩) hS.2.2 d_TuneSetterModel_byteAt_22
  · have h := h.2 q
    refine lv_iload_n hx hb d_TuneSetterModel_byteAt_4 rfl (lv_at hl 1 rfl) ?_
    refine lv_aload_n hx hb d_TuneSetterModel_byteAt_5 rfl (lv_at hl 0 rfl) ?_
    refine gR_TuneSetterModel_made hx hb hw hown hK hP (hw _ m_TuneSetterModel_269) d_TuneSetterModel_byteAt_6 ?_
    refine lv_icmp_ge (tgt := 21) hx hb d_TuneSetterModel_byteAt_9 rfl (fun q => ?_) (fun q => ?_)
    · have h := h.1 q
      refine lv_iconst (v := (-1)) hx hb d_TuneSetterModel_byteAt_21 ic_m1 ?_
      exact W.iret hx hb hr (fun t ht hW => ⟨⟨_, (I, A), rfl, h, endR_of ht hP⟩, hS.F ht⟩) hS.2.2 d_TuneSetterModel_byteAt_22
    · have h := h.2 q
      refine lv_aload_n hx hb d_TuneSetterModel_byteAt_12 rfl (lv_at hl 0 rfl) ?_
      refine gR_TuneSetterModel_bytes hx hb hw hown hK hP (hw _ m_TuneSetterModel_72) d_TuneSetterModel_byteAt_13 ?_
      refine lv_iload_n hx hb d_TuneSetterModel_byteAt_16 rfl (lv_at hl 1 rfl) ?_
      obtain ⟨hin, h⟩ := h
      refine lR17 hx hb hK hP hin d_TuneSetterModel_byteAt_17 ?_
      refine lv_goto (tgt := 22) hx hb d_TuneSetterModel_byteAt_18 rfl ?_
      exact W.iret hx hb hr (fun t ht hW => ⟨⟨_, (I, A), rfl, h, endR_of ht hP⟩, hS.F ht⟩) hS.2.2 d_TuneSetterModel_byteAt_22
theorem k_TuneSetterModel_byteAt {p : Program} {l : Launch} {e : Env} {R : Room} {s : State} {m : MethodId} {args : Array Value} {below : List Frame} {meth : Method} {c : Code} {H : Heap} {locs : List Loc} {cells slots : Nat} {Q : State → Prop} {cc : ByteArray} {pc nL idx : Nat} {own : String} {ls : Array Slot} {D : va_G} {cA a : Nat → Nat} {AA : Nat → Prop} {I : Nat → Int32} {A : Nat → Nat → Int32} {post : Int32 → (Nat → Int32) → (Nat → Nat → Int32) → Prop} (x1 : Int32) {rest : List Value} (S : CallFix p m c cc nL s args WALL own) (hK : KR D cA a AA s) (hD : ∀ I A, va_D AA (wR cA a I A)) (hA : ∀ q : Nat, s.heap.size ≤ q → AA q) (hS : va_S AA s.heap H locs) (hP : va_P D cls (wR cA a I A) H) (hl1 : ls.size = nL) (hlink : (Cond.methodLink own idx y_TuneSetterModel_byteAt).before args s = true) (hst : (rest.map fun v => v.category).sum ≤ 8) (hR : ({ frames := 0, cells := 0, slots := 0, locals := 0 } : Room).frames + 1 ≤ R.frames ∧ 8 + (2 + 11) + ({ frames := 0, cells := 0, slots := 0, locals := 0 } : Room).locals ≤ R.locals) (hcs : cells ≤ R.cells ∧ slots ≤ R.slots) (hdg : decode cc pc = .ok (.invokevirtual idx, 3)) (h : wp_TuneSetterModel_byteAt x1 I A post) (kk : ∀ (r : Int32) (I1 : Nat → Int32) (A1 : Nat → Nat → Int32) (H1 : Heap) (locs1 : List Loc), post r I1 A1 → va_P D cls (wR cA a I1 A1) H1 → va_S AA s.heap H1 locs1 → W p l e R s m args below meth c H1 locs1 cells slots Q (F0 m (pc + 3) ls (.int r :: rest))) : W p l e R s m args below meth c H locs cells slots Q (F0 m pc ls (.int x1 :: .ref (a 0) :: rest)) :=
  va_calli (va_runV (As := [.int x1]) (rest := rest) S (c_TuneSetterModel_byteAt l D cA a H.size x1 I A post h) ⟨callB_of 1 S.2.2.2.2 g_TuneSetterModel_byteAt rfl rfl rfl (S.2.2.2.2 _ mi_TuneSetterModel) hlink ⟨by decide, by decide, by decide +kernel⟩ hR, S.2.2.2.2 _ mn_TuneSetterModel_byteAt, S.2.2.2.2 _ ms_TuneSetterModel_byteAt⟩ (preRV hK hD hA hS hP 0 rfl rfl) rfl rfl hl1 rfl (lv_room hst) hdg hcs) hS (fun q _ z => AR_le hD hA hS q z) (fun q z => AR_le hD hA hS q z) (fun r u t H1 locs1 ht _ hp hB _ _ hS1 => kk r u.1 u.2 H1 locs1 hp (of_endR ht hB) hS1)
def wp_TuneSetterModel_broken_235 (k73 : Int32 → Int32 → (Nat → Int32) → (Nat → Nat → Int32) → Prop) (k90 : Int32 → Int32 → Int32 → Int32 → (Nat → Int32) → (Nat → Nat → Int32) → Prop) (post : Int32 → (Nat → Int32) → (Nat → Nat → Int32) → Prop) (y1 : Int32) (y3 : Int32) (y4 : Int32) (y5 : Int32) (y7 : Int32) (y8 : Int32) (I : Nat → Int32) (A : Nat → Nat → Int32) : Prop := (vp_in y3 9 ∧ (vp_in y3 9 ∧ (∀ v251 : Int32, v251 = y5 + 1 → k90 y1 y3 y4 v251 I (upd2 (upd2 A 18 (y3.toNatClampNeg) y7) 19 (y3.toNatClampNeg) y8))))
def wp_TuneSetterModel_broken_191 (k73 : Int32 → Int32 → (Nat → Int32) → (Nat → Nat → Int32) → Prop) (k90 : Int32 → Int32 → Int32 → Int32 → (Nat → Int32) → (Nat → Nat → Int32) → Prop) (post : Int32 → (Nat → Int32) → (Nat → Nat → Int32) → Prop) (y1 : Int32) (y3 : Int32) (y4 : Int32) (y5 : Int32) (y7 : Int32) (s0 : Int32) (I : Nat → Int32) (A : Nat → Nat → Int32) : Prop := (vp_in y3 9 ∧ (((A 18 (y3.toNatClampNeg)) < 0 → wp_TuneSetterModel_broken_235 k73 k90 post y1 y3 y4 y5 y7 s0 I A) ∧ (¬ (A 18 (y3.toNatClampNeg)) < 0 → (vp_in y3 9 ∧ ((y7 < (A 18 (y3.toNatClampNeg)) → wp_TuneSetterModel_broken_235 k73 k90 post y1 y3 y4 y5 y7 s0 I A) ∧ (¬ y7 < (A 18 (y3.toNatClampNeg)) → (vp_in y3 9 ∧ ((y7 = (A 18 (y3.toNatClampNeg)) → (vp_in y3 9 ∧ (((A 19 (y3.toNatClampNeg)) ≤ s0 → (∀ v251 : Int32, v251 = y5 + 1 → k90 y1 y3 y4 v251 I A)) ∧ (¬ (A 19 (y3.toNatClampNeg)) ≤ s0 → wp_TuneSetterModel_broken_235 k73 k90 post y1 y3 y4 y5 y7 s0 I A)))) ∧ (¬ y7 = (A 18 (y3.toNatClampNeg)) → (∀ v251 : Int32, v251 = y5 + 1 → k90 y1 y3 y4 v251 I A))))))))))
def wp_TuneSetterModel_broken_169 (k73 : Int32 → Int32 → (Nat → Int32) → (Nat → Nat → Int32) → Prop) (k90 : Int32 → Int32 → Int32 → Int32 → (Nat → Int32) → (Nat → Nat → Int32) → Prop) (post : Int32 → (Nat → Int32) → (Nat → Nat → Int32) → Prop) (y1 : Int32) (y3 : Int32) (y4 : Int32) (y5 : Int32) (y6 : Int32) (s0 : Int32) (I : Nat → Int32) (A : Nat → Nat → Int32) : Prop := ((y6 = 0 → (vp_in (y5 + 1) 9 ∧ wp_TuneSetterModel_broken_191 k73 k90 post y1 y3 y4 y5 s0 ((1 : Int32) + (A 19 ((y5 + 1).toNatClampNeg))) I A)) ∧ (¬ y6 = 0 → wp_TuneSetterModel_broken_191 k73 k90 post y1 y3 y4 y5 s0 1 I A))
def wp_TuneSetterModel_broken_139 (k73 : Int32 → Int32 → (Nat → Int32) → (Nat → Nat → Int32) → Prop) (k90 : Int32 → Int32 → Int32 → Int32 → (Nat → Int32) → (Nat → Nat → Int32) → Prop) (post : Int32 → (Nat → Int32) → (Nat → Nat → Int32) → Prop) (y1 : Int32) (y3 : Int32) (y4 : Int32) (y5 : Int32) (s0 : Int32) (I : Nat → Int32) (A : Nat → Nat → Int32) : Prop := ((s0 = 0 → (vp_in (y5 + 1) 9 ∧ wp_TuneSetterModel_broken_169 k73 k90 post y1 y3 y4 y5 s0 (((y1 - y4) * (y1 - y4)) + (A 18 ((y5 + 1).toNatClampNeg))) I A)) ∧ (¬ s0 = 0 → wp_TuneSetterModel_broken_169 k73 k90 post y1 y3 y4 y5 s0 0 I A))
def wp_TuneSetterModel_broken_90 (k73 : Int32 → Int32 → (Nat → Int32) → (Nat → Nat → Int32) → Prop) (post : Int32 → (Nat → Int32) → (Nat → Nat → Int32) → Prop) : Nat → Int32 → Int32 → Int32 → Int32 → (Nat → Int32) → (Nat → Nat → Int32) → Prop
  | 0, _, _, _, _, _, _ => False
  | n + 1, y1, y3, y4, y5, I, A => (((I 5) ≤ y5 → (∀ v257 : Int32, v257 = y3 + (-1) → k73 y1 v257 I A)) ∧ (¬ (I 5) ≤ y5 → (wp_TuneSetterModel_widthOf y5 I A (fun r104 I104 A104 => ((y1 < (y4 + r104) → (∀ v257 : Int32, v257 = y3 + (-1) → k73 y1 v257 I104 A104)) ∧ (¬ y1 < (y4 + r104) → (wp_TuneSetterModel_widthOf y5 I104 A104 (fun r117 I117 A117 => (∀ v121 : Int32, v121 = y4 + r117 → ((y5 = ((I117 5) - 1) → wp_TuneSetterModel_broken_139 k73 (fun y1 y3 y4 y5 I A => wp_TuneSetterModel_broken_90 k73 post n y1 y3 y4 y5 I A) post y1 y3 v121 y5 1 I117 A117) ∧ (¬ y5 = ((I117 5) - 1) → wp_TuneSetterModel_broken_139 k73 (fun y1 y3 y4 y5 I A => wp_TuneSetterModel_broken_90 k73 post n y1 y3 y4 y5 I A) post y1 y3 v121 y5 0 I117 A117)))))))))))
def wp_TuneSetterModel_broken_73 (post : Int32 → (Nat → Int32) → (Nat → Nat → Int32) → Prop) : Nat → Int32 → Int32 → (Nat → Int32) → (Nat → Nat → Int32) → Prop
  | 0, _, _, _, _ => False
  | n + 1, y1, y3, I, A => ((y3 < 0 → post 1 I A) ∧ (¬ y3 < 0 → (vp_in y3 9 ∧ (∃ n90, wp_TuneSetterModel_broken_90 (fun y1 y3 I A => wp_TuneSetterModel_broken_73 post n y1 y3 I A) post n90 y1 y3 0 y3 I (upd2 A 18 (y3.toNatClampNeg) (-1))))))
def wp_TuneSetterModel_broken_27 (post : Int32 → (Nat → Int32) → (Nat → Nat → Int32) → Prop) : Nat → Int32 → Int32 → Int32 → (Nat → Int32) → (Nat → Nat → Int32) → Prop
  | 0, _, _, _, _, _ => False
  | n + 1, y1, y2, y3, I, A => (((I 5) ≤ y3 → ((y2 = 0 → post 0 I A) ∧ (¬ y2 = 0 → (∀ v72 : Int32, v72 = (I 5) - 1 → (∃ n73, wp_TuneSetterModel_broken_73 post n73 y1 v72 I A))))) ∧ (¬ (I 5) ≤ y3 → ((y2 = 0 → ((y2 = 0 → post 0 I A) ∧ (¬ y2 = 0 → (∀ v72 : Int32, v72 = (I 5) - 1 → (∃ n73, wp_TuneSetterModel_broken_73 post n73 y1 v72 I A))))) ∧ (¬ y2 = 0 → (wp_TuneSetterModel_widthOf y3 I A (fun r41 I41 A41 => ((y1 < r41 → (∀ v54 : Int32, v54 = y3 + 1 → wp_TuneSetterModel_broken_27 post n y1 0 v54 I41 A41)) ∧ (¬ y1 < r41 → (∀ v54 : Int32, v54 = y3 + 1 → wp_TuneSetterModel_broken_27 post n y1 1 v54 I41 A41)))))))))
def wp_TuneSetterModel_broken (x1 : Int32) (I : Nat → Int32) (A : Nat → Nat → Int32) (post : Int32 → (Nat → Int32) → (Nat → Nat → Int32) → Prop) : Prop := (((I 6) = 0 → (∃ n27, wp_TuneSetterModel_broken_27 post n27 x1 0 0 I A)) ∧ (¬ (I 6) = 0 → ((x1 < 1 → (∃ n27, wp_TuneSetterModel_broken_27 post n27 x1 0 0 I A)) ∧ (¬ x1 < 1 → ((1000 < x1 → (∃ n27, wp_TuneSetterModel_broken_27 post n27 x1 0 0 I A)) ∧ (¬ 1000 < x1 → (∃ n27, wp_TuneSetterModel_broken_27 post n27 x1 1 0 I A)))))))
theorem d_TuneSetterModel_broken_0 : decode b_TuneSetterModel_broken 0 = .ok (.aload_n 0, 1) := by decide +kernel
theorem d_TuneSetterModel_broken_1 : decode b_TuneSetterModel_broken 1 = .ok (.getfield 93, 3) := by decide +kernel
theorem d_TuneSetterModel_broken_4 : decode b_TuneSetterModel_broken 4 = .ok (.ifCond .eq 19, 3) := by decide +kernel
theorem d_TuneSetterModel_broken_7 : decode b_TuneSetterModel_broken 7 = .ok (.iload_n 1, 1) := by decide +kernel
theorem d_TuneSetterModel_broken_8 : decode b_TuneSetterModel_broken 8 = .ok (.iconst 1, 1) := by decide +kernel
theorem d_TuneSetterModel_broken_9 : decode b_TuneSetterModel_broken 9 = .ok (.if_icmp .lt 14, 3) := by decide +kernel
theorem d_TuneSetterModel_broken_12 : decode b_TuneSetterModel_broken 12 = .ok (.iload_n 1, 1) := by decide +kernel
theorem d_TuneSetterModel_broken_13 : decode b_TuneSetterModel_broken 13 = .ok (.sipush 1000, 3) := by decide +kernel
theorem d_TuneSetterModel_broken_16 : decode b_TuneSetterModel_broken 16 = .ok (.if_icmp .gt 7, 3) := by decide +kernel
theorem d_TuneSetterModel_broken_19 : decode b_TuneSetterModel_broken 19 = .ok (.iconst 1, 1) := by decide +kernel
theorem d_TuneSetterModel_broken_20 : decode b_TuneSetterModel_broken 20 = .ok (.goto 4, 3) := by decide +kernel
theorem d_TuneSetterModel_broken_23 : decode b_TuneSetterModel_broken 23 = .ok (.iconst 0, 1) := by decide +kernel
theorem d_TuneSetterModel_broken_24 : decode b_TuneSetterModel_broken 24 = .ok (.istore_n 2, 1) := by decide +kernel
theorem d_TuneSetterModel_broken_25 : decode b_TuneSetterModel_broken 25 = .ok (.iconst 0, 1) := by decide +kernel
theorem d_TuneSetterModel_broken_26 : decode b_TuneSetterModel_broken 26 = .ok (.istore_n 3, 1) := by decide +kernel
theorem d_TuneSetterModel_broken_27 : decode b_TuneSetterModel_broken 27 = .ok (.iload_n 3, 1) := by decide +kernel
theorem d_TuneSetterModel_broken_28 : decode b_TuneSetterModel_broken 28 = .ok (.aload_n 0, 1) := by decide +kernel
theorem d_TuneSetterModel_broken_29 : decode b_TuneSetterModel_broken 29 = .ok (.getfield 87, 3) := by decide +kernel
theorem d_TuneSetterModel_broken_32 : decode b_TuneSetterModel_broken 32 = .ok (.if_icmp .ge 28, 3) := by decide +kernel
theorem d_TuneSetterModel_broken_35 : decode b_TuneSetterModel_broken 35 = .ok (.iload_n 2, 1) := by decide +kernel
theorem d_TuneSetterModel_broken_36 : decode b_TuneSetterModel_broken 36 = .ok (.ifCond .eq 24, 3) := by decide +kernel
theorem d_TuneSetterModel_broken_39 : decode b_TuneSetterModel_broken 39 = .ok (.aload_n 0, 1) := by decide +kernel
theorem d_TuneSetterModel_broken_40 : decode b_TuneSetterModel_broken 40 = .ok (.iload_n 3, 1) := by decide +kernel
theorem d_TuneSetterModel_broken_41 : decode b_TuneSetterModel_broken 41 = .ok (.invokevirtual 266, 3) := by decide +kernel
theorem d_TuneSetterModel_broken_44 : decode b_TuneSetterModel_broken 44 = .ok (.iload_n 1, 1) := by decide +kernel
theorem d_TuneSetterModel_broken_45 : decode b_TuneSetterModel_broken 45 = .ok (.if_icmp .gt 7, 3) := by decide +kernel
theorem d_TuneSetterModel_broken_48 : decode b_TuneSetterModel_broken 48 = .ok (.iconst 1, 1) := by decide +kernel
theorem d_TuneSetterModel_broken_49 : decode b_TuneSetterModel_broken 49 = .ok (.goto 4, 3) := by decide +kernel
theorem d_TuneSetterModel_broken_52 : decode b_TuneSetterModel_broken 52 = .ok (.iconst 0, 1) := by decide +kernel
theorem d_TuneSetterModel_broken_53 : decode b_TuneSetterModel_broken 53 = .ok (.istore_n 2, 1) := by decide +kernel
theorem d_TuneSetterModel_broken_54 : decode b_TuneSetterModel_broken 54 = .ok (.iinc 3 1, 3) := by decide +kernel
theorem d_TuneSetterModel_broken_57 : decode b_TuneSetterModel_broken 57 = .ok (.goto (-30), 3) := by decide +kernel
theorem d_TuneSetterModel_broken_60 : decode b_TuneSetterModel_broken 60 = .ok (.iload_n 2, 1) := by decide +kernel
theorem d_TuneSetterModel_broken_61 : decode b_TuneSetterModel_broken 61 = .ok (.ifCond .ne 5, 3) := by decide +kernel
theorem d_TuneSetterModel_broken_64 : decode b_TuneSetterModel_broken 64 = .ok (.iconst 0, 1) := by decide +kernel
theorem d_TuneSetterModel_broken_65 : decode b_TuneSetterModel_broken 65 = .ok (.ireturn, 1) := by decide +kernel
theorem d_TuneSetterModel_broken_66 : decode b_TuneSetterModel_broken 66 = .ok (.aload_n 0, 1) := by decide +kernel
theorem d_TuneSetterModel_broken_67 : decode b_TuneSetterModel_broken 67 = .ok (.getfield 87, 3) := by decide +kernel
theorem d_TuneSetterModel_broken_70 : decode b_TuneSetterModel_broken 70 = .ok (.iconst 1, 1) := by decide +kernel
theorem d_TuneSetterModel_broken_71 : decode b_TuneSetterModel_broken 71 = .ok (.isub, 1) := by decide +kernel
theorem d_TuneSetterModel_broken_72 : decode b_TuneSetterModel_broken 72 = .ok (.istore_n 3, 1) := by decide +kernel
theorem d_TuneSetterModel_broken_73 : decode b_TuneSetterModel_broken 73 = .ok (.iload_n 3, 1) := by decide +kernel
theorem d_TuneSetterModel_broken_74 : decode b_TuneSetterModel_broken 74 = .ok (.ifCond .lt 189, 3) := by decide +kernel
theorem d_TuneSetterModel_broken_77 : decode b_TuneSetterModel_broken 77 = .ok (.aload_n 0, 1) := by decide +kernel
theorem d_TuneSetterModel_broken_78 : decode b_TuneSetterModel_broken 78 = .ok (.getfield 75, 3) := by decide +kernel
theorem d_TuneSetterModel_broken_81 : decode b_TuneSetterModel_broken 81 = .ok (.iload_n 3, 1) := by decide +kernel
theorem d_TuneSetterModel_broken_82 : decode b_TuneSetterModel_broken 82 = .ok (.iconst (-1), 1) := by decide +kernel
theorem d_TuneSetterModel_broken_83 : decode b_TuneSetterModel_broken 83 = .ok (.iastore, 1) := by decide +kernel
theorem d_TuneSetterModel_broken_84 : decode b_TuneSetterModel_broken 84 = .ok (.iconst 0, 1) := by decide +kernel
theorem d_TuneSetterModel_broken_85 : decode b_TuneSetterModel_broken 85 = .ok (.istore 4, 2) := by decide +kernel
theorem d_TuneSetterModel_broken_87 : decode b_TuneSetterModel_broken 87 = .ok (.iload_n 3, 1) := by decide +kernel
theorem d_TuneSetterModel_broken_88 : decode b_TuneSetterModel_broken 88 = .ok (.istore 5, 2) := by decide +kernel
theorem d_TuneSetterModel_broken_90 : decode b_TuneSetterModel_broken 90 = .ok (.iload 5, 2) := by decide +kernel
theorem d_TuneSetterModel_broken_92 : decode b_TuneSetterModel_broken 92 = .ok (.aload_n 0, 1) := by decide +kernel
theorem d_TuneSetterModel_broken_93 : decode b_TuneSetterModel_broken 93 = .ok (.getfield 87, 3) := by decide +kernel
theorem d_TuneSetterModel_broken_96 : decode b_TuneSetterModel_broken 96 = .ok (.if_icmp .ge 161, 3) := by decide +kernel
theorem d_TuneSetterModel_broken_99 : decode b_TuneSetterModel_broken 99 = .ok (.iload 4, 2) := by decide +kernel
theorem d_TuneSetterModel_broken_101 : decode b_TuneSetterModel_broken 101 = .ok (.aload_n 0, 1) := by decide +kernel
theorem d_TuneSetterModel_broken_102 : decode b_TuneSetterModel_broken 102 = .ok (.iload 5, 2) := by decide +kernel
theorem d_TuneSetterModel_broken_104 : decode b_TuneSetterModel_broken 104 = .ok (.invokevirtual 266, 3) := by decide +kernel
theorem d_TuneSetterModel_broken_107 : decode b_TuneSetterModel_broken 107 = .ok (.iadd, 1) := by decide +kernel
theorem d_TuneSetterModel_broken_108 : decode b_TuneSetterModel_broken 108 = .ok (.iload_n 1, 1) := by decide +kernel
theorem d_TuneSetterModel_broken_109 : decode b_TuneSetterModel_broken 109 = .ok (.if_icmp .gt 148, 3) := by decide +kernel
theorem d_TuneSetterModel_broken_112 : decode b_TuneSetterModel_broken 112 = .ok (.iload 4, 2) := by decide +kernel
theorem d_TuneSetterModel_broken_114 : decode b_TuneSetterModel_broken 114 = .ok (.aload_n 0, 1) := by decide +kernel
theorem d_TuneSetterModel_broken_115 : decode b_TuneSetterModel_broken 115 = .ok (.iload 5, 2) := by decide +kernel
theorem d_TuneSetterModel_broken_117 : decode b_TuneSetterModel_broken 117 = .ok (.invokevirtual 266, 3) := by decide +kernel
theorem d_TuneSetterModel_broken_120 : decode b_TuneSetterModel_broken 120 = .ok (.iadd, 1) := by decide +kernel
theorem d_TuneSetterModel_broken_121 : decode b_TuneSetterModel_broken 121 = .ok (.istore 4, 2) := by decide +kernel
theorem d_TuneSetterModel_broken_123 : decode b_TuneSetterModel_broken 123 = .ok (.iload 5, 2) := by decide +kernel
theorem d_TuneSetterModel_broken_125 : decode b_TuneSetterModel_broken 125 = .ok (.aload_n 0, 1) := by decide +kernel
theorem d_TuneSetterModel_broken_126 : decode b_TuneSetterModel_broken 126 = .ok (.getfield 87, 3) := by decide +kernel
theorem d_TuneSetterModel_broken_129 : decode b_TuneSetterModel_broken 129 = .ok (.iconst 1, 1) := by decide +kernel
theorem d_TuneSetterModel_broken_130 : decode b_TuneSetterModel_broken 130 = .ok (.isub, 1) := by decide +kernel
theorem d_TuneSetterModel_broken_131 : decode b_TuneSetterModel_broken 131 = .ok (.if_icmp .ne 7, 3) := by decide +kernel
theorem d_TuneSetterModel_broken_134 : decode b_TuneSetterModel_broken 134 = .ok (.iconst 1, 1) := by decide +kernel
theorem d_TuneSetterModel_broken_135 : decode b_TuneSetterModel_broken 135 = .ok (.goto 4, 3) := by decide +kernel
theorem d_TuneSetterModel_broken_138 : decode b_TuneSetterModel_broken 138 = .ok (.iconst 0, 1) := by decide +kernel
theorem d_TuneSetterModel_broken_139 : decode b_TuneSetterModel_broken 139 = .ok (.istore 6, 2) := by decide +kernel
theorem d_TuneSetterModel_broken_141 : decode b_TuneSetterModel_broken 141 = .ok (.iload 6, 2) := by decide +kernel
theorem d_TuneSetterModel_broken_143 : decode b_TuneSetterModel_broken 143 = .ok (.ifCond .eq 7, 3) := by decide +kernel
theorem d_TuneSetterModel_broken_146 : decode b_TuneSetterModel_broken 146 = .ok (.iconst 0, 1) := by decide +kernel
theorem d_TuneSetterModel_broken_147 : decode b_TuneSetterModel_broken 147 = .ok (.goto 22, 3) := by decide +kernel
theorem d_TuneSetterModel_broken_150 : decode b_TuneSetterModel_broken 150 = .ok (.iload_n 1, 1) := by decide +kernel
theorem d_TuneSetterModel_broken_151 : decode b_TuneSetterModel_broken 151 = .ok (.iload 4, 2) := by decide +kernel
theorem d_TuneSetterModel_broken_153 : decode b_TuneSetterModel_broken 153 = .ok (.isub, 1) := by decide +kernel
theorem d_TuneSetterModel_broken_154 : decode b_TuneSetterModel_broken 154 = .ok (.iload_n 1, 1) := by decide +kernel
theorem d_TuneSetterModel_broken_155 : decode b_TuneSetterModel_broken 155 = .ok (.iload 4, 2) := by decide +kernel
theorem d_TuneSetterModel_broken_157 : decode b_TuneSetterModel_broken 157 = .ok (.isub, 1) := by decide +kernel
theorem d_TuneSetterModel_broken_158 : decode b_TuneSetterModel_broken 158 = .ok (.imul, 1) := by decide +kernel
theorem d_TuneSetterModel_broken_159 : decode b_TuneSetterModel_broken 159 = .ok (.aload_n 0, 1) := by decide +kernel
theorem d_TuneSetterModel_broken_160 : decode b_TuneSetterModel_broken 160 = .ok (.getfield 75, 3) := by decide +kernel
theorem d_TuneSetterModel_broken_163 : decode b_TuneSetterModel_broken 163 = .ok (.iload 5, 2) := by decide +kernel
theorem d_TuneSetterModel_broken_165 : decode b_TuneSetterModel_broken 165 = .ok (.iconst 1, 1) := by decide +kernel
theorem d_TuneSetterModel_broken_166 : decode b_TuneSetterModel_broken 166 = .ok (.iadd, 1) := by decide +kernel
theorem d_TuneSetterModel_broken_167 : decode b_TuneSetterModel_broken 167 = .ok (.iaload, 1) := by decide +kernel
theorem d_TuneSetterModel_broken_168 : decode b_TuneSetterModel_broken 168 = .ok (.iadd, 1) := by decide +kernel
theorem d_TuneSetterModel_broken_169 : decode b_TuneSetterModel_broken 169 = .ok (.istore 7, 2) := by decide +kernel
theorem d_TuneSetterModel_broken_171 : decode b_TuneSetterModel_broken 171 = .ok (.iload 6, 2) := by decide +kernel
theorem d_TuneSetterModel_broken_173 : decode b_TuneSetterModel_broken 173 = .ok (.ifCond .eq 7, 3) := by decide +kernel
theorem d_TuneSetterModel_broken_176 : decode b_TuneSetterModel_broken 176 = .ok (.iconst 1, 1) := by decide +kernel
theorem d_TuneSetterModel_broken_177 : decode b_TuneSetterModel_broken 177 = .ok (.goto 14, 3) := by decide +kernel
theorem d_TuneSetterModel_broken_180 : decode b_TuneSetterModel_broken 180 = .ok (.iconst 1, 1) := by decide +kernel
theorem d_TuneSetterModel_broken_181 : decode b_TuneSetterModel_broken 181 = .ok (.aload_n 0, 1) := by decide +kernel
theorem d_TuneSetterModel_broken_182 : decode b_TuneSetterModel_broken 182 = .ok (.getfield 78, 3) := by decide +kernel
theorem d_TuneSetterModel_broken_185 : decode b_TuneSetterModel_broken 185 = .ok (.iload 5, 2) := by decide +kernel
theorem d_TuneSetterModel_broken_187 : decode b_TuneSetterModel_broken 187 = .ok (.iconst 1, 1) := by decide +kernel
theorem d_TuneSetterModel_broken_188 : decode b_TuneSetterModel_broken 188 = .ok (.iadd, 1) := by decide +kernel
theorem d_TuneSetterModel_broken_189 : decode b_TuneSetterModel_broken 189 = .ok (.iaload, 1) := by decide +kernel
theorem d_TuneSetterModel_broken_190 : decode b_TuneSetterModel_broken 190 = .ok (.iadd, 1) := by decide +kernel
theorem d_TuneSetterModel_broken_191 : decode b_TuneSetterModel_broken 191 = .ok (.istore 8, 2) := by decide +kernel
theorem d_TuneSetterModel_broken_193 : decode b_TuneSetterModel_broken 193 = .ok (.aload_n 0, 1) := by decide +kernel
theorem d_TuneSetterModel_broken_194 : decode b_TuneSetterModel_broken 194 = .ok (.getfield 75, 3) := by decide +kernel
theorem d_TuneSetterModel_broken_197 : decode b_TuneSetterModel_broken 197 = .ok (.iload_n 3, 1) := by decide +kernel
theorem d_TuneSetterModel_broken_198 : decode b_TuneSetterModel_broken 198 = .ok (.iaload, 1) := by decide +kernel
theorem d_TuneSetterModel_broken_199 : decode b_TuneSetterModel_broken 199 = .ok (.ifCond .lt 36, 3) := by decide +kernel
theorem d_TuneSetterModel_broken_202 : decode b_TuneSetterModel_broken 202 = .ok (.iload 7, 2) := by decide +kernel
theorem d_TuneSetterModel_broken_204 : decode b_TuneSetterModel_broken 204 = .ok (.aload_n 0, 1) := by decide +kernel
theorem d_TuneSetterModel_broken_205 : decode b_TuneSetterModel_broken 205 = .ok (.getfield 75, 3) := by decide +kernel
theorem d_TuneSetterModel_broken_208 : decode b_TuneSetterModel_broken 208 = .ok (.iload_n 3, 1) := by decide +kernel
theorem d_TuneSetterModel_broken_209 : decode b_TuneSetterModel_broken 209 = .ok (.iaload, 1) := by decide +kernel
theorem d_TuneSetterModel_broken_210 : decode b_TuneSetterModel_broken 210 = .ok (.if_icmp .lt 25, 3) := by decide +kernel
theorem d_TuneSetterModel_broken_213 : decode b_TuneSetterModel_broken 213 = .ok (.iload 7, 2) := by decide +kernel
theorem d_TuneSetterModel_broken_215 : decode b_TuneSetterModel_broken 215 = .ok (.aload_n 0, 1) := by decide +kernel
theorem d_TuneSetterModel_broken_216 : decode b_TuneSetterModel_broken 216 = .ok (.getfield 75, 3) := by decide +kernel
theorem d_TuneSetterModel_broken_219 : decode b_TuneSetterModel_broken 219 = .ok (.iload_n 3, 1) := by decide +kernel
theorem d_TuneSetterModel_broken_220 : decode b_TuneSetterModel_broken 220 = .ok (.iaload, 1) := by decide +kernel
theorem d_TuneSetterModel_broken_221 : decode b_TuneSetterModel_broken 221 = .ok (.if_icmp .ne 30, 3) := by decide +kernel
theorem d_TuneSetterModel_broken_224 : decode b_TuneSetterModel_broken 224 = .ok (.iload 8, 2) := by decide +kernel
theorem d_TuneSetterModel_broken_226 : decode b_TuneSetterModel_broken 226 = .ok (.aload_n 0, 1) := by decide +kernel
theorem d_TuneSetterModel_broken_227 : decode b_TuneSetterModel_broken 227 = .ok (.getfield 78, 3) := by decide +kernel
theorem d_TuneSetterModel_broken_230 : decode b_TuneSetterModel_broken 230 = .ok (.iload_n 3, 1) := by decide +kernel
theorem d_TuneSetterModel_broken_231 : decode b_TuneSetterModel_broken 231 = .ok (.iaload, 1) := by decide +kernel
theorem d_TuneSetterModel_broken_232 : decode b_TuneSetterModel_broken 232 = .ok (.if_icmp .ge 19, 3) := by decide +kernel
theorem d_TuneSetterModel_broken_235 : decode b_TuneSetterModel_broken 235 = .ok (.aload_n 0, 1) := by decide +kernel
theorem d_TuneSetterModel_broken_236 : decode b_TuneSetterModel_broken 236 = .ok (.getfield 75, 3) := by decide +kernel
theorem d_TuneSetterModel_broken_239 : decode b_TuneSetterModel_broken 239 = .ok (.iload_n 3, 1) := by decide +kernel
theorem d_TuneSetterModel_broken_240 : decode b_TuneSetterModel_broken 240 = .ok (.iload 7, 2) := by decide +kernel
theorem d_TuneSetterModel_broken_242 : decode b_TuneSetterModel_broken 242 = .ok (.iastore, 1) := by decide +kernel
theorem d_TuneSetterModel_broken_243 : decode b_TuneSetterModel_broken 243 = .ok (.aload_n 0, 1) := by decide +kernel
theorem d_TuneSetterModel_broken_244 : decode b_TuneSetterModel_broken 244 = .ok (.getfield 78, 3) := by decide +kernel
theorem d_TuneSetterModel_broken_247 : decode b_TuneSetterModel_broken 247 = .ok (.iload_n 3, 1) := by decide +kernel
theorem d_TuneSetterModel_broken_248 : decode b_TuneSetterModel_broken 248 = .ok (.iload 8, 2) := by decide +kernel
theorem d_TuneSetterModel_broken_250 : decode b_TuneSetterModel_broken 250 = .ok (.iastore, 1) := by decide +kernel
theorem d_TuneSetterModel_broken_251 : decode b_TuneSetterModel_broken 251 = .ok (.iinc 5 1, 3) := by decide +kernel
theorem d_TuneSetterModel_broken_254 : decode b_TuneSetterModel_broken 254 = .ok (.goto (-164), 3) := by decide +kernel
theorem d_TuneSetterModel_broken_257 : decode b_TuneSetterModel_broken 257 = .ok (.iinc 3 (-1), 3) := by decide +kernel
theorem d_TuneSetterModel_broken_260 : decode b_TuneSetterModel_broken 260 = .ok (.goto (-187), 3) := by decide +kernel
theorem d_TuneSetterModel_broken_263 : decode b_TuneSetterModel_broken 263 = .ok (.iconst 1, 1) := by decide +kernel
theorem d_TuneSetterModel_broken_264 : decode b_TuneSetterModel_broken 264 = .ok (.ireturn, 1) := by decide +kernel
def w_TuneSetterModel_broken : List Cond := .code y_TuneSetterModel_broken b_TuneSetterModel_broken 9 (some .boolean) :: WALL
theorem g_TuneSetterModel_broken : GoodIn WALL w_TuneSetterModel_broken := good_of mc_TuneSetterModel_broken
set_option maxHeartbeats 4000000 in
set_option maxRecDepth 100000 in
theorem c_TuneSetterModel_broken (l : Launch) (D : va_G) (cA a : Nat → Nat) (sz : Nat) (x1 : Int32) (I : Nat → Int32) (A : Nat → Nat → Int32) (post : Int32 → (Nat → Int32) → (Nat → Nat → Int32) → Prop) (h : wp_TuneSetterModel_broken x1 I A post) : Met l y_TuneSetterModel_broken w_TuneSetterModel_broken ({ frames := 1, cells := 0, slots := 0, locals := 25 }) (va_Pc [.ref (a 0), .int x1] (PreR D cA a I A sz)) (va_Qi (fun r (u : StW) => post r u.1 u.2) (EndR D cA a) (AR a sz)) 0 0 (AR a sz) := by
  refine Met.ofW (cc := b_TuneSetterModel_broken) (maxL := 9) (ret := (some .boolean)) (by decide) rfl ?_
  intro p e s m args below meth c s₁ B hml hv
  obtain ⟨rfl, hsz, hP, hK, hD0⟩ := hv
  have hx := B.exec
  have hb := B.bytes
  have hr := B.returns
  have hts := atoms_spec (ws := w_TuneSetterModel_broken) B.pre
  have hw := wall_of hts
  have hown : s.vm.findClass R_TuneSetterModel = some m.cls := findClass_of_methodNamed B.named
  have hlocks := B.notSynchronized
  subst hsz
  have hD := hDR (sz := s.heap.size) hD0
  have hA : ∀ q : Nat, s.heap.size ≤ q → AR a s.heap.size q := fun q h => Or.inr h
  have hS : va_S (AR a s.heap.size) s.heap s.heap [] := va_S.rf
  have j235 : ∀ (k73 : Int32 → Int32 → (Nat → Int32) → (Nat → Nat → Int32) → Prop) (hk73 : ∀ (y1 : Int32) (y3 : Int32) (I : Nat → Int32) (A : Nat → Nat → Int32) (H : Heap) (locs : List Loc) (ls : Array Slot), k73 y1 y3 I A → va_P D cls (wR cA a I A) H → va_S (AR a s.heap.size) s.heap H locs → lv_has ls 9 [(0, .ref (a 0)), (1, .int y1), (3, .int y3)] → W p l e (headSpec w_TuneSetterModel_broken ({ frames := 1, cells := 0, slots := 0, locals := 25 })).room s m [.ref (a 0), .int x1].toArray below meth c H locs 0 0 (MQ below (va_Qi (fun r (u : StW) => post r u.1 u.2) (EndR D cA a) (AR a s.heap.size)) [.ref (a 0), .int x1].toArray s 0 0 (AR a s.heap.size)) (F0 m 73 ls [])), ∀ (k90 : Int32 → Int32 → Int32 → Int32 → (Nat → Int32) → (Nat → Nat → Int32) → Prop) (hk90 : ∀ (y1 : Int32) (y3 : Int32) (y4 : Int32) (y5 : Int32) (I : Nat → Int32) (A : Nat → Nat → Int32) (H : Heap) (locs : List Loc) (ls : Array Slot), k90 y1 y3 y4 y5 I A → va_P D cls (wR cA a I A) H → va_S (AR a s.heap.size) s.heap H locs → lv_has ls 9 [(0, .ref (a 0)), (1, .int y1), (3, .int y3), (4, .int y4), (5, .int y5)] → W p l e (headSpec w_TuneSetterModel_broken ({ frames := 1, cells := 0, slots := 0, locals := 25 })).room s m [.ref (a 0), .int x1].toArray below meth c H locs 0 0 (MQ below (va_Qi (fun r (u : StW) => post r u.1 u.2) (EndR D cA a) (AR a s.heap.size)) [.ref (a 0), .int x1].toArray s 0 0 (AR a s.heap.size)) (F0 m 90 ls [])), ∀ (y1 : Int32) (y3 : Int32) (y4 : Int32) (y5 : Int32) (y7 : Int32) (y8 : Int32) (I : Nat → Int32) (A : Nat → Nat → Int32) (H : Heap) (locs : List Loc) (ls : Array Slot), wp_TuneSetterModel_broken_235 k73 k90 post y1 y3 y4 y5 y7 y8 I A → va_P D cls (wR cA a I A) H → va_S (AR a s.heap.size) s.heap H locs → lv_has ls 9 [(0, .ref (a 0)), (1, .int y1), (3, .int y3), (4, .int y4), (5, .int y5), (7, .int y7), (8, .int y8)] → W p l e (headSpec w_TuneSetterModel_broken ({ frames := 1, cells := 0, slots := 0, locals := 25 })).room s m [.ref (a 0), .int x1].toArray below meth c H locs 0 0 (MQ below (va_Qi (fun r (u : StW) => post r u.1 u.2) (EndR D cA a) (AR a s.heap.size)) [.ref (a 0), .int x1].toArray s 0 0 (AR a s.heap.size)) (F0 m 235 ls []) := by
    intro k73 hk73 k90 hk90
    intro y1 y3 y4 y5 y7 y8 I A H locs ls h hP hS hl
    unfold wp_TuneSetterModel_broken_235 at h
    refine lv_aload_n hx hb d_TuneSetterModel_broken_235 rfl (lv_at hl 0 rfl) ?_
    refine gR_TuneSetterModel_cost hx hb hw hown hK hP (hw _ m_TuneSetterModel_75) d_TuneSetterModel_broken_236 ?_
    refine lv_iload_n hx hb d_TuneSetterModel_broken_239 rfl (lv_at hl 2 rfl) ?_
    refine lv_iload hx hb d_TuneSetterModel_broken_240 (lv_at hl 5 rfl) ?_
    obtain ⟨hin, h⟩ := h
    refine sR18 hx hb hK hD hS hP hin d_TuneSetterModel_broken_242 (fun H locs hP hS => ?_)
    refine lv_aload_n hx hb d_TuneSetterModel_broken_243 rfl (lv_at hl 0 rfl) ?_
    refine gR_TuneSetterModel_rows hx hb hw hown hK hP (hw _ m_TuneSetterModel_78) d_TuneSetterModel_broken_244 ?_
    refine lv_iload_n hx hb d_TuneSetterModel_broken_247 rfl (lv_at hl 2 rfl) ?_
    refine lv_iload hx hb d_TuneSetterModel_broken_248 (lv_at hl 6 rfl) ?_
    obtain ⟨hin, h⟩ := h
    refine sR19 hx hb hK hD hS hP hin d_TuneSetterModel_broken_250 (fun H locs hP hS => ?_)
    obtain ⟨v251, ev251⟩ : ∃ z : Int32, z = y5 + 1 := ⟨_, rfl⟩
    have h := h v251 ev251
    refine lv_iinc (k := 4) (v := v251) (lv' := [(5, .int v251), (0, .ref (a 0)), (1, .int y1), (3, .int y3), (4, .int y4), (7, .int y7), (8, .int y8)]) hx hb d_TuneSetterModel_broken_251 hl rfl (by rw [ev251, ic_1]) (by decide) rfl (fun ls hl => ?_)
    refine lv_goto (tgt := 90) hx hb d_TuneSetterModel_broken_254 rfl ?_
    exact hk90 y1 y3 y4 v251 I (upd2 (upd2 A 18 (y3.toNatClampNeg) y7) 19 (y3.toNatClampNeg) y8) _ _ _ h hP hS (lv_sub hl [1, 2, 3, 4, 0] rfl)
  have j191 : ∀ (k73 : Int32 → Int32 → (Nat → Int32) → (Nat → Nat → Int32) → Prop) (hk73 : ∀ (y1 : Int32) (y3 : Int32) (I : Nat → Int32) (A : Nat → Nat → Int32) (H : Heap) (locs : List Loc) (ls : Array Slot), k73 y1 y3 I A → va_P D cls (wR cA a I A) H → va_S (AR a s.heap.size) s.heap H locs → lv_has ls 9 [(0, .ref (a 0)), (1, .int y1), (3, .int y3)] → W p l e (headSpec w_TuneSetterModel_broken ({ frames := 1, cells := 0, slots := 0, locals := 25 })).room s m [.ref (a 0), .int x1].toArray below meth c H locs 0 0 (MQ below (va_Qi (fun r (u : StW) => post r u.1 u.2) (EndR D cA a) (AR a s.heap.size)) [.ref (a 0), .int x1].toArray s 0 0 (AR a s.heap.size)) (F0 m 73 ls [])), ∀ (k90 : Int32 → Int32 → Int32 → Int32 → (Nat → Int32) → (Nat → Nat → Int32) → Prop) (hk90 : ∀ (y1 : Int32) (y3 : Int32) (y4 : Int32) (y5 : Int32) (I : Nat → Int32) (A : Nat → Nat → Int32) (H : Heap) (locs : List Loc) (ls : Array Slot), k90 y1 y3 y4 y5 I A → va_P D cls (wR cA a I A) H → va_S (AR a s.heap.size) s.heap H locs → lv_has ls 9 [(0, .ref (a 0)), (1, .int y1), (3, .int y3), (4, .int y4), (5, .int y5)] → W p l e (headSpec w_TuneSetterModel_broken ({ frames := 1, cells := 0, slots := 0, locals := 25 })).room s m [.ref (a 0), .int x1].toArray below meth c H locs 0 0 (MQ below (va_Qi (fun r (u : StW) => post r u.1 u.2) (EndR D cA a) (AR a s.heap.size)) [.ref (a 0), .int x1].toArray s 0 0 (AR a s.heap.size)) (F0 m 90 ls [])), ∀ (y1 : Int32) (y3 : Int32) (y4 : Int32) (y5 : Int32) (y7 : Int32) (s0 : Int32) (I : Nat → Int32) (A : Nat → Nat → Int32) (H : Heap) (locs : List Loc) (ls : Array Slot), wp_TuneSetterModel_broken_191 k73 k90 post y1 y3 y4 y5 y7 s0 I A → va_P D cls (wR cA a I A) H → va_S (AR a s.heap.size) s.heap H locs → lv_has ls 9 [(0, .ref (a 0)), (1, .int y1), (3, .int y3), (4, .int y4), (5, .int y5), (7, .int y7)] → W p l e (headSpec w_TuneSetterModel_broken ({ frames := 1, cells := 0, slots := 0, locals := 25 })).room s m [.ref (a 0), .int x1].toArray below meth c H locs 0 0 (MQ below (va_Qi (fun r (u : StW) => post r u.1 u.2) (EndR D cA a) (AR a s.heap.size)) [.ref (a 0), .int x1].toArray s 0 0 (AR a s.heap.size)) (F0 m 191 ls [.int s0]) := by
    intro k73 hk73 k90 hk90
    intro y1 y3 y4 y5 y7 s0 I A H locs ls h hP hS hl
    unfold wp_TuneSetterModel_broken_191 at h
    refine lv_istore (lv' := [(8, .int s0), (0, .ref (a 0)), (1, .int y1), (3, .int y3), (4, .int y4), (5, .int y5), (7, .int y7)]) hx hb d_TuneSetterModel_broken_191 hl (by decide) rfl (fun ls hl => ?_)
    refine lv_aload_n hx hb d_TuneSetterModel_broken_193 rfl (lv_at hl 1 rfl) ?_
    refine gR_TuneSetterModel_cost hx hb hw hown hK hP (hw _ m_TuneSetterModel_75) d_TuneSetterModel_broken_194 ?_
    refine lv_iload_n hx hb d_TuneSetterModel_broken_197 rfl (lv_at hl 3 rfl) ?_
    obtain ⟨hin, h⟩ := h
    refine lR18 hx hb hK hP hin d_TuneSetterModel_broken_198 ?_
    refine lv_if_lt (tgt := 235) hx hb d_TuneSetterModel_broken_199 rfl (fun q => ?_) (fun q => ?_)
    · have h := h.1 q
      exact (j235 _ hk73 _ hk90) y1 y3 y4 y5 y7 s0 I A _ _ _ h hP hS (lv_sub hl [1, 2, 3, 4, 5, 6, 0] rfl)
    · have h := h.2 q
      refine lv_iload hx hb d_TuneSetterModel_broken_202 (lv_at hl 6 rfl) ?_
      refine lv_aload_n hx hb d_TuneSetterModel_broken_204 rfl (lv_at hl 1 rfl) ?_
      refine gR_TuneSetterModel_cost hx hb hw hown hK hP (hw _ m_TuneSetterModel_75) d_TuneSetterModel_broken_205 ?_
      refine lv_iload_n hx hb d_TuneSetterModel_broken_208 rfl (lv_at hl 3 rfl) ?_
      obtain ⟨hin, h⟩ := h
      refine lR18 hx hb hK hP hin d_TuneSetterModel_broken_209 ?_
      refine lv_icmp_lt (tgt := 235) hx hb d_TuneSetterModel_broken_210 rfl (fun q => ?_) (fun q => ?_)
      · have h := h.1 q
        exact (j235 _ hk73 _ hk90) y1 y3 y4 y5 y7 s0 I A _ _ _ h hP hS (lv_sub hl [1, 2, 3, 4, 5, 6, 0] rfl)
      · have h := h.2 q
        refine lv_iload hx hb d_TuneSetterModel_broken_213 (lv_at hl 6 rfl) ?_
        refine lv_aload_n hx hb d_TuneSetterModel_broken_215 rfl (lv_at hl 1 rfl) ?_
        refine gR_TuneSetterModel_cost hx hb hw hown hK hP (hw _ m_TuneSetterModel_75) d_TuneSetterModel_broken_216 ?_
        refine lv_iload_n hx hb d_TuneSetterModel_broken_219 rfl (lv_at hl 3 rfl) ?_
        obtain ⟨hin, h⟩ := h
        refine lR18 hx hb hK hP hin d_TuneSetterModel_broken_220 ?_
        refine lv_icmp_ne (tgt := 251) hx hb d_TuneSetterModel_broken_221 rfl (fun q => ?_) (fun q => ?_)
        · have h := h.2 q
          obtain ⟨v251, ev251⟩ : ∃ z : Int32, z = y5 + 1 := ⟨_, rfl⟩
          have h := h v251 ev251
          refine lv_iinc (k := 5) (v := v251) (lv' := [(5, .int v251), (8, .int s0), (0, .ref (a 0)), (1, .int y1), (3, .int y3), (4, .int y4), (7, .int y7)]) hx hb d_TuneSetterModel_broken_251 hl rfl (by rw [ev251, ic_1]) (by decide) rfl (fun ls hl => ?_)
          refine lv_goto (tgt := 90) hx hb d_TuneSetterModel_broken_254 rfl ?_
          exact hk90 y1 y3 y4 v251 I A _ _ _ h hP hS (lv_sub hl [2, 3, 4, 5, 0] rfl)
        · have h := h.1 q
          refine lv_iload hx hb d_TuneSetterModel_broken_224 (lv_at hl 0 rfl) ?_
          refine lv_aload_n hx hb d_TuneSetterModel_broken_226 rfl (lv_at hl 1 rfl) ?_
          refine gR_TuneSetterModel_rows hx hb hw hown hK hP (hw _ m_TuneSetterModel_78) d_TuneSetterModel_broken_227 ?_
          refine lv_iload_n hx hb d_TuneSetterModel_broken_230 rfl (lv_at hl 3 rfl) ?_
          obtain ⟨hin, h⟩ := h
          refine lR19 hx hb hK hP hin d_TuneSetterModel_broken_231 ?_
          refine lv_icmp_ge (tgt := 251) hx hb d_TuneSetterModel_broken_232 rfl (fun q => ?_) (fun q => ?_)
          · have h := h.1 q
            obtain ⟨v251, ev251⟩ : ∃ z : Int32, z = y5 + 1 := ⟨_, rfl⟩
            have h := h v251 ev251
            refine lv_iinc (k := 5) (v := v251) (lv' := [(5, .int v251), (8, .int s0), (0, .ref (a 0)), (1, .int y1), (3, .int y3), (4, .int y4), (7, .int y7)]) hx hb d_TuneSetterModel_broken_251 hl rfl (by rw [ev251, ic_1]) (by decide) rfl (fun ls hl => ?_)
            refine lv_goto (tgt := 90) hx hb d_TuneSetterModel_broken_254 rfl ?_
            exact hk90 y1 y3 y4 v251 I A _ _ _ h hP hS (lv_sub hl [2, 3, 4, 5, 0] rfl)
          · have h := h.2 q
            exact (j235 _ hk73 _ hk90) y1 y3 y4 y5 y7 s0 I A _ _ _ h hP hS (lv_sub hl [1, 2, 3, 4, 5, 6, 0] rfl)
  have j169 : ∀ (k73 : Int32 → Int32 → (Nat → Int32) → (Nat → Nat → Int32) → Prop) (hk73 : ∀ (y1 : Int32) (y3 : Int32) (I : Nat → Int32) (A : Nat → Nat → Int32) (H : Heap) (locs : List Loc) (ls : Array Slot), k73 y1 y3 I A → va_P D cls (wR cA a I A) H → va_S (AR a s.heap.size) s.heap H locs → lv_has ls 9 [(0, .ref (a 0)), (1, .int y1), (3, .int y3)] → W p l e (headSpec w_TuneSetterModel_broken ({ frames := 1, cells := 0, slots := 0, locals := 25 })).room s m [.ref (a 0), .int x1].toArray below meth c H locs 0 0 (MQ below (va_Qi (fun r (u : StW) => post r u.1 u.2) (EndR D cA a) (AR a s.heap.size)) [.ref (a 0), .int x1].toArray s 0 0 (AR a s.heap.size)) (F0 m 73 ls [])), ∀ (k90 : Int32 → Int32 → Int32 → Int32 → (Nat → Int32) → (Nat → Nat → Int32) → Prop) (hk90 : ∀ (y1 : Int32) (y3 : Int32) (y4 : Int32) (y5 : Int32) (I : Nat → Int32) (A : Nat → Nat → Int32) (H : Heap) (locs : List Loc) (ls : Array Slot), k90 y1 y3 y4 y5 I A → va_P D cls (wR cA a I A) H → va_S (AR a s.heap.size) s.heap H locs → lv_has ls 9 [(0, .ref (a 0)), (1, .int y1), (3, .int y3), (4, .int y4), (5, .int y5)] → W p l e (headSpec w_TuneSetterModel_broken ({ frames := 1, cells := 0, slots := 0, locals := 25 })).room s m [.ref (a 0), .int x1].toArray below meth c H locs 0 0 (MQ below (va_Qi (fun r (u : StW) => post r u.1 u.2) (EndR D cA a) (AR a s.heap.size)) [.ref (a 0), .int x1].toArray s 0 0 (AR a s.heap.size)) (F0 m 90 ls [])), ∀ (y1 : Int32) (y3 : Int32) (y4 : Int32) (y5 : Int32) (y6 : Int32) (s0 : Int32) (I : Nat → Int32) (A : Nat → Nat → Int32) (H : Heap) (locs : List Loc) (ls : Array Slot), wp_TuneSetterModel_broken_169 k73 k90 post y1 y3 y4 y5 y6 s0 I A → va_P D cls (wR cA a I A) H → va_S (AR a s.heap.size) s.heap H locs → lv_has ls 9 [(0, .ref (a 0)), (1, .int y1), (3, .int y3), (4, .int y4), (5, .int y5), (6, .int y6)] → W p l e (headSpec w_TuneSetterModel_broken ({ frames := 1, cells := 0, slots := 0, locals := 25 })).room s m [.ref (a 0), .int x1].toArray below meth c H locs 0 0 (MQ below (va_Qi (fun r (u : StW) => post r u.1 u.2) (EndR D cA a) (AR a s.heap.size)) [.ref (a 0), .int x1].toArray s 0 0 (AR a s.heap.size)) (F0 m 169 ls [.int s0]) := by
    intro k73 hk73 k90 hk90
    intro y1 y3 y4 y5 y6 s0 I A H locs ls h hP hS hl
    unfold wp_TuneSetterModel_broken_169 at h
    refine lv_istore (lv' := [(7, .int s0), (0, .ref (a 0)), (1, .int y1), (3, .int y3), (4, .int y4), (5, .int y5), (6, .int y6)]) hx hb d_TuneSetterModel_broken_169 hl (by decide) rfl (fun ls hl => ?_)
    refine lv_iload hx hb d_TuneSetterModel_broken_171 (lv_at hl 6 rfl) ?_
    refine lv_if_eq (tgt := 180) hx hb d_TuneSetterModel_broken_173 rfl (fun q => ?_) (fun q => ?_)
    · have h := h.1 q
      refine lv_iconst (v := 1) hx hb d_TuneSetterModel_broken_180 ic_1 ?_
      refine lv_aload_n hx hb d_TuneSetterModel_broken_181 rfl (lv_at hl 1 rfl) ?_
      refine gR_TuneSetterModel_rows hx hb hw hown hK hP (hw _ m_TuneSetterModel_78) d_TuneSetterModel_broken_182 ?_
      refine lv_iload hx hb d_TuneSetterModel_broken_185 (lv_at hl 5 rfl) ?_
      refine lv_iconst (v := 1) hx hb d_TuneSetterModel_broken_187 ic_1 ?_
      refine lv_iadd hx hb d_TuneSetterModel_broken_188 ?_
      obtain ⟨hin, h⟩ := h
      refine lR19 hx hb hK hP hin d_TuneSetterModel_broken_189 ?_
      refine lv_iadd hx hb d_TuneSetterModel_broken_190 ?_
      exact (j191 _ hk73 _ hk90) y1 y3 y4 y5 s0 ((1 : Int32) + (A 19 ((y5 + 1).toNatClampNeg))) I A _ _ _ h hP hS (lv_sub hl [1, 2, 3, 4, 5, 0] rfl)
    · have h := h.2 q
      refine lv_iconst (v := 1) hx hb d_TuneSetterModel_broken_176 ic_1 ?_
      refine lv_goto (tgt := 191) hx hb d_TuneSetterModel_broken_177 rfl ?_
      exact (j191 _ hk73 _ hk90) y1 y3 y4 y5 s0 1 I A _ _ _ h hP hS (lv_sub hl [1, 2, 3, 4, 5, 0] rfl)
  have j139 : ∀ (k73 : Int32 → Int32 → (Nat → Int32) → (Nat → Nat → Int32) → Prop) (hk73 : ∀ (y1 : Int32) (y3 : Int32) (I : Nat → Int32) (A : Nat → Nat → Int32) (H : Heap) (locs : List Loc) (ls : Array Slot), k73 y1 y3 I A → va_P D cls (wR cA a I A) H → va_S (AR a s.heap.size) s.heap H locs → lv_has ls 9 [(0, .ref (a 0)), (1, .int y1), (3, .int y3)] → W p l e (headSpec w_TuneSetterModel_broken ({ frames := 1, cells := 0, slots := 0, locals := 25 })).room s m [.ref (a 0), .int x1].toArray below meth c H locs 0 0 (MQ below (va_Qi (fun r (u : StW) => post r u.1 u.2) (EndR D cA a) (AR a s.heap.size)) [.ref (a 0), .int x1].toArray s 0 0 (AR a s.heap.size)) (F0 m 73 ls [])), ∀ (k90 : Int32 → Int32 → Int32 → Int32 → (Nat → Int32) → (Nat → Nat → Int32) → Prop) (hk90 : ∀ (y1 : Int32) (y3 : Int32) (y4 : Int32) (y5 : Int32) (I : Nat → Int32) (A : Nat → Nat → Int32) (H : Heap) (locs : List Loc) (ls : Array Slot), k90 y1 y3 y4 y5 I A → va_P D cls (wR cA a I A) H → va_S (AR a s.heap.size) s.heap H locs → lv_has ls 9 [(0, .ref (a 0)), (1, .int y1), (3, .int y3), (4, .int y4), (5, .int y5)] → W p l e (headSpec w_TuneSetterModel_broken ({ frames := 1, cells := 0, slots := 0, locals := 25 })).room s m [.ref (a 0), .int x1].toArray below meth c H locs 0 0 (MQ below (va_Qi (fun r (u : StW) => post r u.1 u.2) (EndR D cA a) (AR a s.heap.size)) [.ref (a 0), .int x1].toArray s 0 0 (AR a s.heap.size)) (F0 m 90 ls [])), ∀ (y1 : Int32) (y3 : Int32) (y4 : Int32) (y5 : Int32) (s0 : Int32) (I : Nat → Int32) (A : Nat → Nat → Int32) (H : Heap) (locs : List Loc) (ls : Array Slot), wp_TuneSetterModel_broken_139 k73 k90 post y1 y3 y4 y5 s0 I A → va_P D cls (wR cA a I A) H → va_S (AR a s.heap.size) s.heap H locs → lv_has ls 9 [(0, .ref (a 0)), (1, .int y1), (3, .int y3), (4, .int y4), (5, .int y5)] → W p l e (headSpec w_TuneSetterModel_broken ({ frames := 1, cells := 0, slots := 0, locals := 25 })).room s m [.ref (a 0), .int x1].toArray below meth c H locs 0 0 (MQ below (va_Qi (fun r (u : StW) => post r u.1 u.2) (EndR D cA a) (AR a s.heap.size)) [.ref (a 0), .int x1].toArray s 0 0 (AR a s.heap.size)) (F0 m 139 ls [.int s0]) := by
    intro k73 hk73 k90 hk90
    intro y1 y3 y4 y5 s0 I A H locs ls h hP hS hl
    unfold wp_TuneSetterModel_broken_139 at h
    refine lv_istore (lv' := [(6, .int s0), (0, .ref (a 0)), (1, .int y1), (3, .int y3), (4, .int y4), (5, .int y5)]) hx hb d_TuneSetterModel_broken_139 hl (by decide) rfl (fun ls hl => ?_)
    refine lv_iload hx hb d_TuneSetterModel_broken_141 (lv_at hl 0 rfl) ?_
    refine lv_if_eq (tgt := 150) hx hb d_TuneSetterModel_broken_143 rfl (fun q => ?_) (fun q => ?_)
    · have h := h.1 q
      refine lv_iload_n hx hb d_TuneSetterModel_broken_150 rfl (lv_at hl 2 rfl) ?_
      refine lv_iload hx hb d_TuneSetterModel_broken_151 (lv_at hl 4 rfl) ?_
      refine lv_isub hx hb d_TuneSetterModel_broken_153 ?_
      refine lv_iload_n hx hb d_TuneSetterModel_broken_154 rfl (lv_at hl 2 rfl) ?_
      refine lv_iload hx hb d_TuneSetterModel_broken_155 (lv_at hl 4 rfl) ?_
      refine lv_isub hx hb d_TuneSetterModel_broken_157 ?_
      refine lv_imul hx hb d_TuneSetterModel_broken_158 ?_
      refine lv_aload_n hx hb d_TuneSetterModel_broken_159 rfl (lv_at hl 1 rfl) ?_
      refine gR_TuneSetterModel_cost hx hb hw hown hK hP (hw _ m_TuneSetterModel_75) d_TuneSetterModel_broken_160 ?_
      refine lv_iload hx hb d_TuneSetterModel_broken_163 (lv_at hl 5 rfl) ?_
      refine lv_iconst (v := 1) hx hb d_TuneSetterModel_broken_165 ic_1 ?_
      refine lv_iadd hx hb d_TuneSetterModel_broken_166 ?_
      obtain ⟨hin, h⟩ := h
      refine lR18 hx hb hK hP hin d_TuneSetterModel_broken_167 ?_
      refine lv_iadd hx hb d_TuneSetterModel_broken_168 ?_
      exact (j169 _ hk73 _ hk90) y1 y3 y4 y5 s0 (((y1 - y4) * (y1 - y4)) + (A 18 ((y5 + 1).toNatClampNeg))) I A _ _ _ h hP hS (lv_sub hl [1, 2, 3, 4, 5, 0] rfl)
    · have h := h.2 q
      refine lv_iconst (v := 0) hx hb d_TuneSetterModel_broken_146 ic_0 ?_
      refine lv_goto (tgt := 169) hx hb d_TuneSetterModel_broken_147 rfl ?_
      exact (j169 _ hk73 _ hk90) y1 y3 y4 y5 s0 0 I A _ _ _ h hP hS (lv_sub hl [1, 2, 3, 4, 5, 0] rfl)
  have j90 : ∀ (k73 : Int32 → Int32 → (Nat → Int32) → (Nat → Nat → Int32) → Prop) (hk73 : ∀ (y1 : Int32) (y3 : Int32) (I : Nat → Int32) (A : Nat → Nat → Int32) (H : Heap) (locs : List Loc) (ls : Array Slot), k73 y1 y3 I A → va_P D cls (wR cA a I A) H → va_S (AR a s.heap.size) s.heap H locs → lv_has ls 9 [(0, .ref (a 0)), (1, .int y1), (3, .int y3)] → W p l e (headSpec w_TuneSetterModel_broken ({ frames := 1, cells := 0, slots := 0, locals := 25 })).room s m [.ref (a 0), .int x1].toArray below meth c H locs 0 0 (MQ below (va_Qi (fun r (u : StW) => post r u.1 u.2) (EndR D cA a) (AR a s.heap.size)) [.ref (a 0), .int x1].toArray s 0 0 (AR a s.heap.size)) (F0 m 73 ls [])), ∀ n : Nat, ∀ (y1 : Int32) (y3 : Int32) (y4 : Int32) (y5 : Int32) (I : Nat → Int32) (A : Nat → Nat → Int32) (H : Heap) (locs : List Loc) (ls : Array Slot), wp_TuneSetterModel_broken_90 k73 post n y1 y3 y4 y5 I A → va_P D cls (wR cA a I A) H → va_S (AR a s.heap.size) s.heap H locs → lv_has ls 9 [(0, .ref (a 0)), (1, .int y1), (3, .int y3), (4, .int y4), (5, .int y5)] → W p l e (headSpec w_TuneSetterModel_broken ({ frames := 1, cells := 0, slots := 0, locals := 25 })).room s m [.ref (a 0), .int x1].toArray below meth c H locs 0 0 (MQ below (va_Qi (fun r (u : StW) => post r u.1 u.2) (EndR D cA a) (AR a s.heap.size)) [.ref (a 0), .int x1].toArray s 0 0 (AR a s.heap.size)) (F0 m 90 ls []) := by
    intro k73 hk73
    intro n
    induction n with
    | zero =>
      intro y1 y3 y4 y5 I A H locs ls h hP hS hl
      exact False.elim h
    | succ n ih =>
      intro y1 y3 y4 y5 I A H locs ls h hP hS hl
      unfold wp_TuneSetterModel_broken_90 at h
      refine lv_iload hx hb d_TuneSetterModel_broken_90 (lv_at hl 4 rfl) ?_
      refine lv_aload_n hx hb d_TuneSetterModel_broken_92 rfl (lv_at hl 0 rfl) ?_
      refine gR_TuneSetterModel_bars hx hb hw hown hK hP (hw _ m_TuneSetterModel_87) d_TuneSetterModel_broken_93 ?_
      refine lv_icmp_ge (tgt := 257) hx hb d_TuneSetterModel_broken_96 rfl (fun q => ?_) (fun q => ?_)
      · have h := h.1 q
        obtain ⟨v257, ev257⟩ : ∃ z : Int32, z = y3 + (-1) := ⟨_, rfl⟩
        have h := h v257 ev257
        refine lv_iinc (k := 2) (v := v257) (lv' := [(3, .int v257), (0, .ref (a 0)), (1, .int y1), (4, .int y4), (5, .int y5)]) hx hb d_TuneSetterModel_broken_257 hl rfl (by rw [ev257, ic_m1]) (by decide) rfl (fun ls hl => ?_)
        refine lv_goto (tgt := 73) hx hb d_TuneSetterModel_broken_260 rfl ?_
        exact hk73 y1 v257 I A _ _ _ h hP hS (lv_sub hl [1, 2, 0] rfl)
      · have h := h.2 q
        refine lv_iload hx hb d_TuneSetterModel_broken_99 (lv_at hl 3 rfl) ?_
        refine lv_aload_n hx hb d_TuneSetterModel_broken_101 rfl (lv_at hl 0 rfl) ?_
        refine lv_iload hx hb d_TuneSetterModel_broken_102 (lv_at hl 4 rfl) ?_
        refine k_TuneSetterModel_widthOf y5 (rest := [.int y4]) ⟨hx, hb, hml, hown, hw⟩ hK hD hA hS hP hl.1 (hw _ m_TuneSetterModel_266) (Nat.le_of_ble_eq_true rfl) ⟨Nat.le_of_ble_eq_true rfl, Nat.le_of_ble_eq_true rfl⟩ ⟨Nat.zero_le _, Nat.zero_le _⟩ d_TuneSetterModel_broken_104 h (fun r104 I104 A104 H locs h hP hS => ?_)
        refine lv_iadd hx hb d_TuneSetterModel_broken_107 ?_
        refine lv_iload_n hx hb d_TuneSetterModel_broken_108 rfl (lv_at hl 1 rfl) ?_
        refine lv_icmp_gt (tgt := 257) hx hb d_TuneSetterModel_broken_109 rfl (fun q => ?_) (fun q => ?_)
        · have h := h.1 q
          obtain ⟨v257, ev257⟩ : ∃ z : Int32, z = y3 + (-1) := ⟨_, rfl⟩
          have h := h v257 ev257
          refine lv_iinc (k := 2) (v := v257) (lv' := [(3, .int v257), (0, .ref (a 0)), (1, .int y1), (4, .int y4), (5, .int y5)]) hx hb d_TuneSetterModel_broken_257 hl rfl (by rw [ev257, ic_m1]) (by decide) rfl (fun ls hl => ?_)
          refine lv_goto (tgt := 73) hx hb d_TuneSetterModel_broken_260 rfl ?_
          exact hk73 y1 v257 I104 A104 _ _ _ h hP hS (lv_sub hl [1, 2, 0] rfl)
        · have h := h.2 q
          refine lv_iload hx hb d_TuneSetterModel_broken_112 (lv_at hl 3 rfl) ?_
          refine lv_aload_n hx hb d_TuneSetterModel_broken_114 rfl (lv_at hl 0 rfl) ?_
          refine lv_iload hx hb d_TuneSetterModel_broken_115 (lv_at hl 4 rfl) ?_
          refine k_TuneSetterModel_widthOf y5 (rest := [.int y4]) ⟨hx, hb, hml, hown, hw⟩ hK hD hA hS hP hl.1 (hw _ m_TuneSetterModel_266) (Nat.le_of_ble_eq_true rfl) ⟨Nat.le_of_ble_eq_true rfl, Nat.le_of_ble_eq_true rfl⟩ ⟨Nat.zero_le _, Nat.zero_le _⟩ d_TuneSetterModel_broken_117 h (fun r117 I117 A117 H locs h hP hS => ?_)
          refine lv_iadd hx hb d_TuneSetterModel_broken_120 ?_
          refine lv_topi (fun v121 ev121 => ?_)
          have h := h v121 ev121
          refine lv_istore (lv' := [(4, .int v121), (0, .ref (a 0)), (1, .int y1), (3, .int y3), (5, .int y5)]) hx hb d_TuneSetterModel_broken_121 hl (by decide) rfl (fun ls hl => ?_)
          refine lv_iload hx hb d_TuneSetterModel_broken_123 (lv_at hl 4 rfl) ?_
          refine lv_aload_n hx hb d_TuneSetterModel_broken_125 rfl (lv_at hl 1 rfl) ?_
          refine gR_TuneSetterModel_bars hx hb hw hown hK hP (hw _ m_TuneSetterModel_87) d_TuneSetterModel_broken_126 ?_
          refine lv_iconst (v := 1) hx hb d_TuneSetterModel_broken_129 ic_1 ?_
          refine lv_isub hx hb d_TuneSetterModel_broken_130 ?_
          refine lv_icmp_ne (tgt := 138) hx hb d_TuneSetterModel_broken_131 rfl (fun q => ?_) (fun q => ?_)
          · have h := h.2 q
            refine lv_iconst (v := 0) hx hb d_TuneSetterModel_broken_138 ic_0 ?_
            exact (j139 _ hk73 _ ih) y1 y3 v121 y5 0 I117 A117 _ _ _ h hP hS (lv_sub hl [1, 2, 3, 0, 4] rfl)
          · have h := h.1 q
            refine lv_iconst (v := 1) hx hb d_TuneSetterModel_broken_134 ic_1 ?_
            refine lv_goto (tgt := 139) hx hb d_TuneSetterModel_broken_135 rfl ?_
            exact (j139 _ hk73 _ ih) y1 y3 v121 y5 1 I117 A117 _ _ _ h hP hS (lv_sub hl [1, 2, 3, 0, 4] rfl)
  have j73 : ∀ n : Nat, ∀ (y1 : Int32) (y3 : Int32) (I : Nat → Int32) (A : Nat → Nat → Int32) (H : Heap) (locs : List Loc) (ls : Array Slot), wp_TuneSetterModel_broken_73 post n y1 y3 I A → va_P D cls (wR cA a I A) H → va_S (AR a s.heap.size) s.heap H locs → lv_has ls 9 [(0, .ref (a 0)), (1, .int y1), (3, .int y3)] → W p l e (headSpec w_TuneSetterModel_broken ({ frames := 1, cells := 0, slots := 0, locals := 25 })).room s m [.ref (a 0), .int x1].toArray below meth c H locs 0 0 (MQ below (va_Qi (fun r (u : StW) => post r u.1 u.2) (EndR D cA a) (AR a s.heap.size)) [.ref (a 0), .int x1].toArray s 0 0 (AR a s.heap.size)) (F0 m 73 ls []) := by
    intro n
    induction n with
    | zero =>
      intro y1 y3 I A H locs ls h hP hS hl
      exact False.elim h
    | succ n ih =>
      intro y1 y3 I A H locs ls h hP hS hl
      unfold wp_TuneSetterModel_broken_73 at h
      refine lv_iload_n hx hb d_TuneSetterModel_broken_73 rfl (lv_at hl 2 rfl) ?_
      refine lv_if_lt (tgt := 263) hx hb d_TuneSetterModel_broken_74 rfl (fun q => ?_) (fun q => ?_)
      · have h := h.1 q
        refine lv_iconst (v := 1) hx hb d_TuneSetterModel_broken_263 ic_1 ?_
        exact W.zret hx hb hr (vz_n vz1) (fun t ht hW => ⟨⟨_, (I, A), rfl, h, endR_of ht hP⟩, hS.F ht⟩) hS.2.2 d_TuneSetterModel_broken_264
      · have h := h.2 q
        refine lv_aload_n hx hb d_TuneSetterModel_broken_77 rfl (lv_at hl 0 rfl) ?_
        refine gR_TuneSetterModel_cost hx hb hw hown hK hP (hw _ m_TuneSetterModel_75) d_TuneSetterModel_broken_78 ?_
        refine lv_iload_n hx hb d_TuneSetterModel_broken_81 rfl (lv_at hl 2 rfl) ?_
        refine lv_iconst (v := (-1)) hx hb d_TuneSetterModel_broken_82 ic_m1 ?_
        obtain ⟨hin, h⟩ := h
        refine sR18 hx hb hK hD hS hP hin d_TuneSetterModel_broken_83 (fun H locs hP hS => ?_)
        refine lv_iconst (v := 0) hx hb d_TuneSetterModel_broken_84 ic_0 ?_
        refine lv_istore (lv' := [(4, .int 0), (0, .ref (a 0)), (1, .int y1), (3, .int y3)]) hx hb d_TuneSetterModel_broken_85 hl (by decide) rfl (fun ls hl => ?_)
        refine lv_iload_n hx hb d_TuneSetterModel_broken_87 rfl (lv_at hl 3 rfl) ?_
        refine lv_istore (lv' := [(5, .int y3), (4, .int 0), (0, .ref (a 0)), (1, .int y1), (3, .int y3)]) hx hb d_TuneSetterModel_broken_88 hl (by decide) rfl (fun ls hl => ?_)
        obtain ⟨n90, h⟩ := h
        exact (j90 _ ih) n90 y1 y3 0 y3 I (upd2 A 18 (y3.toNatClampNeg) (-1)) _ _ _ h hP hS (lv_sub hl [2, 3, 4, 1, 0] rfl)
  have j27 : ∀ n : Nat, ∀ (y1 : Int32) (y2 : Int32) (y3 : Int32) (I : Nat → Int32) (A : Nat → Nat → Int32) (H : Heap) (locs : List Loc) (ls : Array Slot), wp_TuneSetterModel_broken_27 post n y1 y2 y3 I A → va_P D cls (wR cA a I A) H → va_S (AR a s.heap.size) s.heap H locs → lv_has ls 9 [(0, .ref (a 0)), (1, .int y1), (2, .int y2), (3, .int y3)] → W p l e (headSpec w_TuneSetterModel_broken ({ frames := 1, cells := 0, slots := 0, locals := 25 })).room s m [.ref (a 0), .int x1].toArray below meth c H locs 0 0 (MQ below (va_Qi (fun r (u : StW) => post r u.1 u.2) (EndR D cA a) (AR a s.heap.size)) [.ref (a 0), .int x1].toArray s 0 0 (AR a s.heap.size)) (F0 m 27 ls []) := by
    intro n
    induction n with
    | zero =>
      intro y1 y2 y3 I A H locs ls h hP hS hl
      exact False.elim h
    | succ n ih =>
      intro y1 y2 y3 I A H locs ls h hP hS hl
      unfold wp_TuneSetterModel_broken_27 at h
      refine lv_iload_n hx hb d_TuneSetterModel_broken_27 rfl (lv_at hl 3 rfl) ?_
      refine lv_aload_n hx hb d_TuneSetterModel_broken_28 rfl (lv_at hl 0 rfl) ?_
      refine gR_TuneSetterModel_bars hx hb hw hown hK hP (hw _ m_TuneSetterModel_87) d_TuneSetterModel_broken_29 ?_
      refine lv_icmp_ge (tgt := 60) hx hb d_TuneSetterModel_broken_32 rfl (fun q => ?_) (fun q => ?_)
      · have h := h.1 q
        refine lv_iload_n hx hb d_TuneSetterModel_broken_60 rfl (lv_at hl 2 rfl) ?_
        refine lv_if_ne (tgt := 66) hx hb d_TuneSetterModel_broken_61 rfl (fun q => ?_) (fun q => ?_)
        · have h := h.2 q
          refine lv_aload_n hx hb d_TuneSetterModel_broken_66 rfl (lv_at hl 0 rfl) ?_
          refine gR_TuneSetterModel_bars hx hb hw hown hK hP (hw _ m_TuneSetterModel_87) d_TuneSetterModel_broken_67 ?_
          refine lv_iconst (v := 1) hx hb d_TuneSetterModel_broken_70 ic_1 ?_
          refine lv_isub hx hb d_TuneSetterModel_broken_71 ?_
          refine lv_topi (fun v72 ev72 => ?_)
          have h := h v72 ev72
          refine lv_istore_n (lv' := [(3, .int v72), (0, .ref (a 0)), (1, .int y1), (2, .int y2)]) hx hb d_TuneSetterModel_broken_72 rfl hl (by decide) rfl (fun ls hl => ?_)
          obtain ⟨n73, h⟩ := h
          exact j73 n73 y1 v72 I A _ _ _ h hP hS (lv_sub hl [1, 2, 0] rfl)
        · have h := h.1 q
          refine lv_iconst (v := 0) hx hb d_TuneSetterModel_broken_64 ic_0 ?_
          exact W.zret hx hb hr (vz_n vz0) (fun t ht hW => ⟨⟨_, (I, A), rfl, h, endR_of ht hP⟩, hS.F ht⟩) hS.2.2 d_TuneSetterModel_broken_65
      · have h := h.2 q
        refine lv_iload_n hx hb d_TuneSetterModel_broken_35 rfl (lv_at hl 2 rfl) ?_
        refine lv_if_eq (tgt := 60) hx hb d_TuneSetterModel_broken_36 rfl (fun q => ?_) (fun q => ?_)
        · have h := h.1 q
          refine lv_iload_n hx hb d_TuneSetterModel_broken_60 rfl (lv_at hl 2 rfl) ?_
          refine lv_if_ne (tgt := 66) hx hb d_TuneSetterModel_broken_61 rfl (fun q => ?_) (fun q => ?_)
          · have h := h.2 q
            refine lv_aload_n hx hb d_TuneSetterModel_broken_66 rfl (lv_at hl 0 rfl) ?_
            refine gR_TuneSetterModel_bars hx hb hw hown hK hP (hw _ m_TuneSetterModel_87) d_TuneSetterModel_broken_67 ?_
            refine lv_iconst (v := 1) hx hb d_TuneSetterModel_broken_70 ic_1 ?_
            refine lv_isub hx hb d_TuneSetterModel_broken_71 ?_
            refine lv_topi (fun v72 ev72 => ?_)
            have h := h v72 ev72
            refine lv_istore_n (lv' := [(3, .int v72), (0, .ref (a 0)), (1, .int y1), (2, .int y2)]) hx hb d_TuneSetterModel_broken_72 rfl hl (by decide) rfl (fun ls hl => ?_)
            obtain ⟨n73, h⟩ := h
            exact j73 n73 y1 v72 I A _ _ _ h hP hS (lv_sub hl [1, 2, 0] rfl)
          · have h := h.1 q
            refine lv_iconst (v := 0) hx hb d_TuneSetterModel_broken_64 ic_0 ?_
            exact W.zret hx hb hr (vz_n vz0) (fun t ht hW => ⟨⟨_, (I, A), rfl, h, endR_of ht hP⟩, hS.F ht⟩) hS.2.2 d_TuneSetterModel_broken_65
        · have h := h.2 q
          refine lv_aload_n hx hb d_TuneSetterModel_broken_39 rfl (lv_at hl 0 rfl) ?_
          refine lv_iload_n hx hb d_TuneSetterModel_broken_40 rfl (lv_at hl 3 rfl) ?_
          refine k_TuneSetterModel_widthOf y3 (rest := []) ⟨hx, hb, hml, hown, hw⟩ hK hD hA hS hP hl.1 (hw _ m_TuneSetterModel_266) (Nat.le_of_ble_eq_true rfl) ⟨Nat.le_of_ble_eq_true rfl, Nat.le_of_ble_eq_true rfl⟩ ⟨Nat.zero_le _, Nat.zero_le _⟩ d_TuneSetterModel_broken_41 h (fun r41 I41 A41 H locs h hP hS => ?_)
          refine lv_iload_n hx hb d_TuneSetterModel_broken_44 rfl (lv_at hl 1 rfl) ?_
          refine lv_icmp_gt (tgt := 52) hx hb d_TuneSetterModel_broken_45 rfl (fun q => ?_) (fun q => ?_)
          · have h := h.1 q
            refine lv_iconst (v := 0) hx hb d_TuneSetterModel_broken_52 ic_0 ?_
            refine lv_istore_n (lv' := [(2, .int 0), (0, .ref (a 0)), (1, .int y1), (3, .int y3)]) hx hb d_TuneSetterModel_broken_53 rfl hl (by decide) rfl (fun ls hl => ?_)
            obtain ⟨v54, ev54⟩ : ∃ z : Int32, z = y3 + 1 := ⟨_, rfl⟩
            have h := h v54 ev54
            refine lv_iinc (k := 3) (v := v54) (lv' := [(3, .int v54), (2, .int 0), (0, .ref (a 0)), (1, .int y1)]) hx hb d_TuneSetterModel_broken_54 hl rfl (by rw [ev54, ic_1]) (by decide) rfl (fun ls hl => ?_)
            refine lv_goto (tgt := 27) hx hb d_TuneSetterModel_broken_57 rfl ?_
            exact ih y1 0 v54 I41 A41 _ _ _ h hP hS (lv_sub hl [2, 3, 1, 0] rfl)
          · have h := h.2 q
            refine lv_iconst (v := 1) hx hb d_TuneSetterModel_broken_48 ic_1 ?_
            refine lv_goto (tgt := 53) hx hb d_TuneSetterModel_broken_49 rfl ?_
            refine lv_istore_n (lv' := [(2, .int 1), (0, .ref (a 0)), (1, .int y1), (3, .int y3)]) hx hb d_TuneSetterModel_broken_53 rfl hl (by decide) rfl (fun ls hl => ?_)
            obtain ⟨v54, ev54⟩ : ∃ z : Int32, z = y3 + 1 := ⟨_, rfl⟩
            have h := h v54 ev54
            refine lv_iinc (k := 3) (v := v54) (lv' := [(3, .int v54), (2, .int 1), (0, .ref (a 0)), (1, .int y1)]) hx hb d_TuneSetterModel_broken_54 hl rfl (by rw [ev54, ic_1]) (by decide) rfl (fun ls hl => ?_)
            refine lv_goto (tgt := 27) hx hb d_TuneSetterModel_broken_57 rfl ?_
            exact ih y1 1 v54 I41 A41 _ _ _ h hP hS (lv_sub hl [2, 3, 1, 0] rfl)
  have hl := lv_entry ([.ref (a 0), .int x1]) (n := 9) (Nat.le_of_ble_eq_true rfl)
  rw [lg_entry_eq]
  generalize (lg_sl ([.ref (a 0), .int x1]) ++ List.replicate (9 - (lg_sl ([.ref (a 0), .int x1])).length) Slot.unset).toArray = ls at hl ⊢
  have hl : lv_has ls 9 [(0, .ref (a 0)), (1, .int x1)] := hl
  unfold wp_TuneSetterModel_broken at h
  refine lv_aload_n hx hb d_TuneSetterModel_broken_0 rfl (lv_at hl 0 rfl) ?_
  refine gR_TuneSetterModel_tune hx hb hw hown hK hP (hw _ m_TuneSetterModel_93) d_TuneSetterModel_broken_1 ?_
  refine lv_if_eq (tgt := 23) hx hb d_TuneSetterModel_broken_4 rfl (fun q => ?_) (fun q => ?_)
  · have h := h.1 q
    refine lv_iconst (v := 0) hx hb d_TuneSetterModel_broken_23 ic_0 ?_
    refine lv_istore_n (lv' := [(2, .int 0), (0, .ref (a 0)), (1, .int x1)]) hx hb d_TuneSetterModel_broken_24 rfl hl (by decide) rfl (fun ls hl => ?_)
    refine lv_iconst (v := 0) hx hb d_TuneSetterModel_broken_25 ic_0 ?_
    refine lv_istore_n (lv' := [(3, .int 0), (2, .int 0), (0, .ref (a 0)), (1, .int x1)]) hx hb d_TuneSetterModel_broken_26 rfl hl (by decide) rfl (fun ls hl => ?_)
    obtain ⟨n27, h⟩ := h
    exact j27 n27 x1 0 0 I A _ _ _ h hP hS (lv_sub hl [2, 3, 1, 0] rfl)
  · have h := h.2 q
    refine lv_iload_n hx hb d_TuneSetterModel_broken_7 rfl (lv_at hl 1 rfl) ?_
    refine lv_iconst (v := 1) hx hb d_TuneSetterModel_broken_8 ic_1 ?_
    refine lv_icmp_lt (tgt := 23) hx hb d_TuneSetterModel_broken_9 rfl (fun q => ?_) (fun q => ?_)
    · have h := h.1 q
      refine lv_iconst (v := 0) hx hb d_TuneSetterModel_broken_23 ic_0 ?_
      refine lv_istore_n (lv' := [(2, .int 0), (0, .ref (a 0)), (1, .int x1)]) hx hb d_TuneSetterModel_broken_24 rfl hl (by decide) rfl (fun ls hl => ?_)
      refine lv_iconst (v := 0) hx hb d_TuneSetterModel_broken_25 ic_0 ?_
      refine lv_istore_n (lv' := [(3, .int 0), (2, .int 0), (0, .ref (a 0)), (1, .int x1)]) hx hb d_TuneSetterModel_broken_26 rfl hl (by decide) rfl (fun ls hl => ?_)
      obtain ⟨n27, h⟩ := h
      exact j27 n27 x1 0 0 I A _ _ _ h hP hS (lv_sub hl [2, 3, 1, 0] rfl)
    · have h := h.2 q
      refine lv_iload_n hx hb d_TuneSetterModel_broken_12 rfl (lv_at hl 1 rfl) ?_
      refine lv_sipush (v := 1000) hx hb d_TuneSetterModel_broken_13 sp_1000 ?_
      refine lv_icmp_gt (tgt := 23) hx hb d_TuneSetterModel_broken_16 rfl (fun q => ?_) (fun q => ?_)
      · have h := h.1 q
        refine lv_iconst (v := 0) hx hb d_TuneSetterModel_broken_23 ic_0 ?_
        refine lv_istore_n (lv' := [(2, .int 0), (0, .ref (a 0)), (1, .int x1)]) hx hb d_TuneSetterModel_broken_24 rfl hl (by decide) rfl (fun ls hl => ?_)
        refine lv_iconst (v := 0) hx hb d_TuneSetterModel_broken_25 ic_0 ?_
        refine lv_istore_n (lv' := [(3, .int 0), (2, .int 0), (0, .ref (a 0)), (1, .int x1)]) hx hb d_TuneSetterModel_broken_26 rfl hl (by decide) rfl (fun ls hl => ?_)
        obtain ⟨n27, h⟩ := h
        exact j27 n27 x1 0 0 I A _ _ _ h hP hS (lv_sub hl [2, 3, 1, 0] rfl)
      · have h := h.2 q
        refine lv_iconst (v := 1) hx hb d_TuneSetterModel_broken_19 ic_1 ?_
        refine lv_goto (tgt := 24) hx hb d_TuneSetterModel_broken_20 rfl ?_
        refine lv_istore_n (lv' := [(2, .int 1), (0, .ref (a 0)), (1, .int x1)]) hx hb d_TuneSetterModel_broken_24 rfl hl (by decide) rfl (fun ls hl => ?_)
        refine lv_iconst (v := 0) hx hb d_TuneSetterModel_broken_25 ic_0 ?_
        refine lv_istore_n (lv' := [(3, .int 0), (2, .int 1), (0, .ref (a 0)), (1, .int x1)]) hx hb d_TuneSetterModel_broken_26 rfl hl (by decide) rfl (fun ls hl => ?_)
        obtain ⟨n27, h⟩ := h
        exact j27 n27 x1 1 0 I A _ _ _ h hP hS (lv_sub hl [2, 3, 1, 0] rfl)
theorem k_TuneSetterModel_broken {p : Program} {l : Launch} {e : Env} {R : Room} {s : State} {m : MethodId} {args : Array Value} {below : List Frame} {meth : Method} {c : Code} {H : Heap} {locs : List Loc} {cells slots : Nat} {Q : State → Prop} {cc : ByteArray} {pc nL idx : Nat} {own : String} {ls : Array Slot} {D : va_G} {cA a : Nat → Nat} {AA : Nat → Prop} {I : Nat → Int32} {A : Nat → Nat → Int32} {post : Int32 → (Nat → Int32) → (Nat → Nat → Int32) → Prop} (x1 : Int32) {rest : List Value} (S : CallFix p m c cc nL s args WALL own) (hK : KR D cA a AA s) (hD : ∀ I A, va_D AA (wR cA a I A)) (hA : ∀ q : Nat, s.heap.size ≤ q → AA q) (hS : va_S AA s.heap H locs) (hP : va_P D cls (wR cA a I A) H) (hl1 : ls.size = nL) (hlink : (Cond.methodLink own idx y_TuneSetterModel_broken).before args s = true) (hst : (rest.map fun v => v.category).sum ≤ 8) (hR : ({ frames := 1, cells := 0, slots := 0, locals := 25 } : Room).frames + 1 ≤ R.frames ∧ 8 + (9 + 11) + ({ frames := 1, cells := 0, slots := 0, locals := 25 } : Room).locals ≤ R.locals) (hcs : cells ≤ R.cells ∧ slots ≤ R.slots) (hdg : decode cc pc = .ok (.invokevirtual idx, 3)) (h : wp_TuneSetterModel_broken x1 I A post) (kk : ∀ (r : Int32) (I1 : Nat → Int32) (A1 : Nat → Nat → Int32) (H1 : Heap) (locs1 : List Loc), post r I1 A1 → va_P D cls (wR cA a I1 A1) H1 → va_S AA s.heap H1 locs1 → W p l e R s m args below meth c H1 locs1 cells slots Q (F0 m (pc + 3) ls (.int r :: rest))) : W p l e R s m args below meth c H locs cells slots Q (F0 m pc ls (.int x1 :: .ref (a 0) :: rest)) :=
  va_calli (va_runV (As := [.int x1]) (rest := rest) S (c_TuneSetterModel_broken l D cA a H.size x1 I A post h) ⟨callB_of 1 S.2.2.2.2 g_TuneSetterModel_broken rfl rfl rfl (S.2.2.2.2 _ mi_TuneSetterModel) hlink ⟨by decide, by decide, by decide +kernel⟩ hR, S.2.2.2.2 _ mn_TuneSetterModel_broken, S.2.2.2.2 _ ms_TuneSetterModel_broken⟩ (preRV hK hD hA hS hP 0 rfl rfl) rfl rfl hl1 rfl (lv_room hst) hdg hcs) hS (fun q _ z => AR_le hD hA hS q z) (fun q z => AR_le hD hA hS q z) (fun r u t H1 locs1 ht _ hp hB _ _ hS1 => kk r u.1 u.2 H1 locs1 hp (of_endR ht hB) hS1)
def wp_TuneSetterModel_breaking (x1 : Int32) (I : Nat → Int32) (A : Nat → Nat → Int32) (post : Int32 → (Nat → Int32) → (Nat → Nat → Int32) → Prop) : Prop := (wp_TuneSetterModel_broken x1 I A (fun r2 I2 A2 => ((r2 = 0 → post (-1) I2 A2) ∧ (¬ r2 = 0 → (vp_in 0 9 ∧ post (A2 18 ((0 : Int32).toNatClampNeg)) I2 A2)))))
theorem d_TuneSetterModel_breaking_0 : decode b_TuneSetterModel_breaking 0 = .ok (.aload_n 0, 1) := by decide +kernel
theorem d_TuneSetterModel_breaking_1 : decode b_TuneSetterModel_breaking 1 = .ok (.iload_n 1, 1) := by decide +kernel
theorem d_TuneSetterModel_breaking_2 : decode b_TuneSetterModel_breaking 2 = .ok (.invokevirtual 293, 3) := by decide +kernel
theorem d_TuneSetterModel_breaking_5 : decode b_TuneSetterModel_breaking 5 = .ok (.ifCond .eq 12, 3) := by decide +kernel
theorem d_TuneSetterModel_breaking_8 : decode b_TuneSetterModel_breaking 8 = .ok (.aload_n 0, 1) := by decide +kernel
theorem d_TuneSetterModel_breaking_9 : decode b_TuneSetterModel_breaking 9 = .ok (.getfield 75, 3) := by decide +kernel
theorem d_TuneSetterModel_breaking_12 : decode b_TuneSetterModel_breaking 12 = .ok (.iconst 0, 1) := by decide +kernel
theorem d_TuneSetterModel_breaking_13 : decode b_TuneSetterModel_breaking 13 = .ok (.iaload, 1) := by decide +kernel
theorem d_TuneSetterModel_breaking_14 : decode b_TuneSetterModel_breaking 14 = .ok (.goto 4, 3) := by decide +kernel
theorem d_TuneSetterModel_breaking_17 : decode b_TuneSetterModel_breaking 17 = .ok (.iconst (-1), 1) := by decide +kernel
theorem d_TuneSetterModel_breaking_18 : decode b_TuneSetterModel_breaking 18 = .ok (.ireturn, 1) := by decide +kernel
def w_TuneSetterModel_breaking : List Cond := .code y_TuneSetterModel_breaking b_TuneSetterModel_breaking 2 (some .int) :: WALL
theorem g_TuneSetterModel_breaking : GoodIn WALL w_TuneSetterModel_breaking := good_of mc_TuneSetterModel_breaking
set_option maxHeartbeats 4000000 in
set_option maxRecDepth 100000 in
theorem c_TuneSetterModel_breaking (l : Launch) (D : va_G) (cA a : Nat → Nat) (sz : Nat) (x1 : Int32) (I : Nat → Int32) (A : Nat → Nat → Int32) (post : Int32 → (Nat → Int32) → (Nat → Nat → Int32) → Prop) (h : wp_TuneSetterModel_breaking x1 I A post) : Met l y_TuneSetterModel_breaking w_TuneSetterModel_breaking ({ frames := 2, cells := 0, slots := 0, locals := 53 }) (va_Pc [.ref (a 0), .int x1] (PreR D cA a I A sz)) (va_Qi (fun r (u : StW) => post r u.1 u.2) (EndR D cA a) (AR a sz)) 0 0 (AR a sz) := by
  refine Met.ofW (cc := b_TuneSetterModel_breaking) (maxL := 2) (ret := (some .int)) (by decide) rfl ?_
  intro p e s m args below meth c s₁ B hml hv
  obtain ⟨rfl, hsz, hP, hK, hD0⟩ := hv
  have hx := B.exec
  have hb := B.bytes
  have hr := B.returns
  have hts := atoms_spec (ws := w_TuneSetterModel_breaking) B.pre
  have hw := wall_of hts
  have hown : s.vm.findClass R_TuneSetterModel = some m.cls := findClass_of_methodNamed B.named
  have hlocks := B.notSynchronized
  subst hsz
  have hD := hDR (sz := s.heap.size) hD0
  have hA : ∀ q : Nat, s.heap.size ≤ q → AR a s.heap.size q := fun q h => Or.inr h
  have hS : va_S (AR a s.heap.size) s.heap s.heap [] := va_S.rf
  have hl := lv_entry ([.ref (a 0), .int x1]) (n := 2) (Nat.le_of_ble_eq_true rfl)
  rw [lg_entry_eq]
  generalize (lg_sl ([.ref (a 0), .int x1]) ++ List.replicate (2 - (lg_sl ([.ref (a 0), .int x1])).length) Slot.unset).toArray = ls at hl ⊢
  have hl : lv_has ls 2 [(0, .ref (a 0)), (1, .int x1)] := hl
  unfold wp_TuneSetterModel_breaking at h
  refine lv_aload_n hx hb d_TuneSetterModel_breaking_0 rfl (lv_at hl 0 rfl) ?_
  refine lv_iload_n hx hb d_TuneSetterModel_breaking_1 rfl (lv_at hl 1 rfl) ?_
  refine k_TuneSetterModel_broken x1 (rest := []) ⟨hx, hb, hml, hown, hw⟩ hK hD hA hS hP hl.1 (hw _ m_TuneSetterModel_293) (Nat.le_of_ble_eq_true rfl) ⟨Nat.le_of_ble_eq_true rfl, Nat.le_of_ble_eq_true rfl⟩ ⟨Nat.zero_le _, Nat.zero_le _⟩ d_TuneSetterModel_breaking_2 h (fun r2 I2 A2 H locs h hP hS => ?_)
  refine lv_if_eq (tgt := 17) hx hb d_TuneSetterModel_breaking_5 rfl (fun q => ?_) (fun q => ?_)
  · have h := h.1 q
    refine lv_iconst (v := (-1)) hx hb d_TuneSetterModel_breaking_17 ic_m1 ?_
    exact W.iret hx hb hr (fun t ht hW => ⟨⟨_, (I2, A2), rfl, h, endR_of ht hP⟩, hS.F ht⟩) hS.2.2 d_TuneSetterModel_breaking_18
  · have h := h.2 q
    refine lv_aload_n hx hb d_TuneSetterModel_breaking_8 rfl (lv_at hl 0 rfl) ?_
    refine gR_TuneSetterModel_cost hx hb hw hown hK hP (hw _ m_TuneSetterModel_75) d_TuneSetterModel_breaking_9 ?_
    refine lv_iconst (v := 0) hx hb d_TuneSetterModel_breaking_12 ic_0 ?_
    obtain ⟨hin, h⟩ := h
    refine lR18 hx hb hK hP hin d_TuneSetterModel_breaking_13 ?_
    refine lv_goto (tgt := 18) hx hb d_TuneSetterModel_breaking_14 rfl ?_
    exact W.iret hx hb hr (fun t ht hW => ⟨⟨_, (I2, A2), rfl, h, endR_of ht hP⟩, hS.F ht⟩) hS.2.2 d_TuneSetterModel_breaking_18
theorem k_TuneSetterModel_breaking {p : Program} {l : Launch} {e : Env} {R : Room} {s : State} {m : MethodId} {args : Array Value} {below : List Frame} {meth : Method} {c : Code} {H : Heap} {locs : List Loc} {cells slots : Nat} {Q : State → Prop} {cc : ByteArray} {pc nL idx : Nat} {own : String} {ls : Array Slot} {D : va_G} {cA a : Nat → Nat} {AA : Nat → Prop} {I : Nat → Int32} {A : Nat → Nat → Int32} {post : Int32 → (Nat → Int32) → (Nat → Nat → Int32) → Prop} (x1 : Int32) {rest : List Value} (S : CallFix p m c cc nL s args WALL own) (hK : KR D cA a AA s) (hD : ∀ I A, va_D AA (wR cA a I A)) (hA : ∀ q : Nat, s.heap.size ≤ q → AA q) (hS : va_S AA s.heap H locs) (hP : va_P D cls (wR cA a I A) H) (hl1 : ls.size = nL) (hlink : (Cond.methodLink own idx y_TuneSetterModel_breaking).before args s = true) (hst : (rest.map fun v => v.category).sum ≤ 8) (hR : ({ frames := 2, cells := 0, slots := 0, locals := 53 } : Room).frames + 1 ≤ R.frames ∧ 8 + (2 + 11) + ({ frames := 2, cells := 0, slots := 0, locals := 53 } : Room).locals ≤ R.locals) (hcs : cells ≤ R.cells ∧ slots ≤ R.slots) (hdg : decode cc pc = .ok (.invokevirtual idx, 3)) (h : wp_TuneSetterModel_breaking x1 I A post) (kk : ∀ (r : Int32) (I1 : Nat → Int32) (A1 : Nat → Nat → Int32) (H1 : Heap) (locs1 : List Loc), post r I1 A1 → va_P D cls (wR cA a I1 A1) H1 → va_S AA s.heap H1 locs1 → W p l e R s m args below meth c H1 locs1 cells slots Q (F0 m (pc + 3) ls (.int r :: rest))) : W p l e R s m args below meth c H locs cells slots Q (F0 m pc ls (.int x1 :: .ref (a 0) :: rest)) :=
  va_calli (va_runV (As := [.int x1]) (rest := rest) S (c_TuneSetterModel_breaking l D cA a H.size x1 I A post h) ⟨callB_of 1 S.2.2.2.2 g_TuneSetterModel_breaking rfl rfl rfl (S.2.2.2.2 _ mi_TuneSetterModel) hlink ⟨by decide, by decide, by decide +kernel⟩ hR, S.2.2.2.2 _ mn_TuneSetterModel_breaking, S.2.2.2.2 _ ms_TuneSetterModel_breaking⟩ (preRV hK hD hA hS hP 0 rfl rfl) rfl rfl hl1 rfl (lv_room hst) hdg hcs) hS (fun q _ z => AR_le hD hA hS q z) (fun q z => AR_le hD hA hS q z) (fun r u t H1 locs1 ht _ hp hB _ _ hS1 => kk r u.1 u.2 H1 locs1 hp (of_endR ht hB) hS1)
def wp_TuneSetterModel_lines (x1 : Int32) (I : Nat → Int32) (A : Nat → Nat → Int32) (post : Int32 → (Nat → Int32) → (Nat → Nat → Int32) → Prop) : Prop := (wp_TuneSetterModel_broken x1 I A (fun r2 I2 A2 => ((r2 = 0 → post (-1) I2 A2) ∧ (¬ r2 = 0 → (vp_in 0 9 ∧ post (A2 19 ((0 : Int32).toNatClampNeg)) I2 A2)))))
theorem d_TuneSetterModel_lines_0 : decode b_TuneSetterModel_lines 0 = .ok (.aload_n 0, 1) := by decide +kernel
theorem d_TuneSetterModel_lines_1 : decode b_TuneSetterModel_lines 1 = .ok (.iload_n 1, 1) := by decide +kernel
theorem d_TuneSetterModel_lines_2 : decode b_TuneSetterModel_lines 2 = .ok (.invokevirtual 293, 3) := by decide +kernel
theorem d_TuneSetterModel_lines_5 : decode b_TuneSetterModel_lines 5 = .ok (.ifCond .eq 12, 3) := by decide +kernel
theorem d_TuneSetterModel_lines_8 : decode b_TuneSetterModel_lines 8 = .ok (.aload_n 0, 1) := by decide +kernel
theorem d_TuneSetterModel_lines_9 : decode b_TuneSetterModel_lines 9 = .ok (.getfield 78, 3) := by decide +kernel
theorem d_TuneSetterModel_lines_12 : decode b_TuneSetterModel_lines 12 = .ok (.iconst 0, 1) := by decide +kernel
theorem d_TuneSetterModel_lines_13 : decode b_TuneSetterModel_lines 13 = .ok (.iaload, 1) := by decide +kernel
theorem d_TuneSetterModel_lines_14 : decode b_TuneSetterModel_lines 14 = .ok (.goto 4, 3) := by decide +kernel
theorem d_TuneSetterModel_lines_17 : decode b_TuneSetterModel_lines 17 = .ok (.iconst (-1), 1) := by decide +kernel
theorem d_TuneSetterModel_lines_18 : decode b_TuneSetterModel_lines 18 = .ok (.ireturn, 1) := by decide +kernel
def w_TuneSetterModel_lines : List Cond := .code y_TuneSetterModel_lines b_TuneSetterModel_lines 2 (some .int) :: WALL
theorem g_TuneSetterModel_lines : GoodIn WALL w_TuneSetterModel_lines := good_of mc_TuneSetterModel_lines
set_option maxHeartbeats 4000000 in
set_option maxRecDepth 100000 in
theorem c_TuneSetterModel_lines (l : Launch) (D : va_G) (cA a : Nat → Nat) (sz : Nat) (x1 : Int32) (I : Nat → Int32) (A : Nat → Nat → Int32) (post : Int32 → (Nat → Int32) → (Nat → Nat → Int32) → Prop) (h : wp_TuneSetterModel_lines x1 I A post) : Met l y_TuneSetterModel_lines w_TuneSetterModel_lines ({ frames := 2, cells := 0, slots := 0, locals := 53 }) (va_Pc [.ref (a 0), .int x1] (PreR D cA a I A sz)) (va_Qi (fun r (u : StW) => post r u.1 u.2) (EndR D cA a) (AR a sz)) 0 0 (AR a sz) := by
  refine Met.ofW (cc := b_TuneSetterModel_lines) (maxL := 2) (ret := (some .int)) (by decide) rfl ?_
  intro p e s m args below meth c s₁ B hml hv
  obtain ⟨rfl, hsz, hP, hK, hD0⟩ := hv
  have hx := B.exec
  have hb := B.bytes
  have hr := B.returns
  have hts := atoms_spec (ws := w_TuneSetterModel_lines) B.pre
  have hw := wall_of hts
  have hown : s.vm.findClass R_TuneSetterModel = some m.cls := findClass_of_methodNamed B.named
  have hlocks := B.notSynchronized
  subst hsz
  have hD := hDR (sz := s.heap.size) hD0
  have hA : ∀ q : Nat, s.heap.size ≤ q → AR a s.heap.size q := fun q h => Or.inr h
  have hS : va_S (AR a s.heap.size) s.heap s.heap [] := va_S.rf
  have hl := lv_entry ([.ref (a 0), .int x1]) (n := 2) (Nat.le_of_ble_eq_true rfl)
  rw [lg_entry_eq]
  generalize (lg_sl ([.ref (a 0), .int x1]) ++ List.replicate (2 - (lg_sl ([.ref (a 0), .int x1])).length) Slot.unset).toArray = ls at hl ⊢
  have hl : lv_has ls 2 [(0, .ref (a 0)), (1, .int x1)] := hl
  unfold wp_TuneSetterModel_lines at h
  refine lv_aload_n hx hb d_TuneSetterModel_lines_0 rfl (lv_at hl 0 rfl) ?_
  refine lv_iload_n hx hb d_TuneSetterModel_lines_1 rfl (lv_at hl 1 rfl) ?_
  refine k_TuneSetterModel_broken x1 (rest := []) ⟨hx, hb, hml, hown, hw⟩ hK hD hA hS hP hl.1 (hw _ m_TuneSetterModel_293) (Nat.le_of_ble_eq_true rfl) ⟨Nat.le_of_ble_eq_true rfl, Nat.le_of_ble_eq_true rfl⟩ ⟨Nat.zero_le _, Nat.zero_le _⟩ d_TuneSetterModel_lines_2 h (fun r2 I2 A2 H locs h hP hS => ?_)
  refine lv_if_eq (tgt := 17) hx hb d_TuneSetterModel_lines_5 rfl (fun q => ?_) (fun q => ?_)
  · have h := h.1 q
    refine lv_iconst (v := (-1)) hx hb d_TuneSetterModel_lines_17 ic_m1 ?_
    exact W.iret hx hb hr (fun t ht hW => ⟨⟨_, (I2, A2), rfl, h, endR_of ht hP⟩, hS.F ht⟩) hS.2.2 d_TuneSetterModel_lines_18
  · have h := h.2 q
    refine lv_aload_n hx hb d_TuneSetterModel_lines_8 rfl (lv_at hl 0 rfl) ?_
    refine gR_TuneSetterModel_rows hx hb hw hown hK hP (hw _ m_TuneSetterModel_78) d_TuneSetterModel_lines_9 ?_
    refine lv_iconst (v := 0) hx hb d_TuneSetterModel_lines_12 ic_0 ?_
    obtain ⟨hin, h⟩ := h
    refine lR19 hx hb hK hP hin d_TuneSetterModel_lines_13 ?_
    refine lv_goto (tgt := 18) hx hb d_TuneSetterModel_lines_14 rfl ?_
    exact W.iret hx hb hr (fun t ht hW => ⟨⟨_, (I2, A2), rfl, h, endR_of ht hP⟩, hS.F ht⟩) hS.2.2 d_TuneSetterModel_lines_18
theorem k_TuneSetterModel_lines {p : Program} {l : Launch} {e : Env} {R : Room} {s : State} {m : MethodId} {args : Array Value} {below : List Frame} {meth : Method} {c : Code} {H : Heap} {locs : List Loc} {cells slots : Nat} {Q : State → Prop} {cc : ByteArray} {pc nL idx : Nat} {own : String} {ls : Array Slot} {D : va_G} {cA a : Nat → Nat} {AA : Nat → Prop} {I : Nat → Int32} {A : Nat → Nat → Int32} {post : Int32 → (Nat → Int32) → (Nat → Nat → Int32) → Prop} (x1 : Int32) {rest : List Value} (S : CallFix p m c cc nL s args WALL own) (hK : KR D cA a AA s) (hD : ∀ I A, va_D AA (wR cA a I A)) (hA : ∀ q : Nat, s.heap.size ≤ q → AA q) (hS : va_S AA s.heap H locs) (hP : va_P D cls (wR cA a I A) H) (hl1 : ls.size = nL) (hlink : (Cond.methodLink own idx y_TuneSetterModel_lines).before args s = true) (hst : (rest.map fun v => v.category).sum ≤ 8) (hR : ({ frames := 2, cells := 0, slots := 0, locals := 53 } : Room).frames + 1 ≤ R.frames ∧ 8 + (2 + 11) + ({ frames := 2, cells := 0, slots := 0, locals := 53 } : Room).locals ≤ R.locals) (hcs : cells ≤ R.cells ∧ slots ≤ R.slots) (hdg : decode cc pc = .ok (.invokevirtual idx, 3)) (h : wp_TuneSetterModel_lines x1 I A post) (kk : ∀ (r : Int32) (I1 : Nat → Int32) (A1 : Nat → Nat → Int32) (H1 : Heap) (locs1 : List Loc), post r I1 A1 → va_P D cls (wR cA a I1 A1) H1 → va_S AA s.heap H1 locs1 → W p l e R s m args below meth c H1 locs1 cells slots Q (F0 m (pc + 3) ls (.int r :: rest))) : W p l e R s m args below meth c H locs cells slots Q (F0 m pc ls (.int x1 :: .ref (a 0) :: rest)) :=
  va_calli (va_runV (As := [.int x1]) (rest := rest) S (c_TuneSetterModel_lines l D cA a H.size x1 I A post h) ⟨callB_of 1 S.2.2.2.2 g_TuneSetterModel_lines rfl rfl rfl (S.2.2.2.2 _ mi_TuneSetterModel) hlink ⟨by decide, by decide, by decide +kernel⟩ hR, S.2.2.2.2 _ mn_TuneSetterModel_lines, S.2.2.2.2 _ ms_TuneSetterModel_lines⟩ (preRV hK hD hA hS hP 0 rfl rfl) rfl rfl hl1 rfl (lv_room hst) hdg hcs) hS (fun q _ z => AR_le hD hA hS q z) (fun q z => AR_le hD hA hS q z) (fun r u t H1 locs1 ht _ hp hB _ _ hS1 => kk r u.1 u.2 H1 locs1 hp (of_endR ht hB) hS1)

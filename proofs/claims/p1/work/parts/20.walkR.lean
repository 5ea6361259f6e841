def wp_TuneSetterModel_sound_151 (k31 : Int32 → Int32 → (Nat → Int32) → (Nat → Nat → Int32) → Prop) (k49 : Int32 → Int32 → Int32 → Int32 → (Nat → Int32) → (Nat → Nat → Int32) → Prop) (post : Int32 → (Nat → Int32) → (Nat → Nat → Int32) → Prop) (y1 : Int32) (y2 : Int32) (y3 : Int32) (y4 : Int32) (I : Nat → Int32) (A : Nat → Nat → Int32) : Prop := (vp_in (((4 : Int32) * y2) + y4) 384 ∧ (vp_in (A 16 ((((4 : Int32) * y2) + y4).toNatClampNeg)) 64 ∧ (vp_in y3 48 ∧ (vp_in (A 16 ((((4 : Int32) * y2) + y4).toNatClampNeg)) 64 ∧ (vp_in y3 48 ∧ (((A 7 (y3.toNatClampNeg)) = 0 → (∀ v202 : Int32, v202 = y4 + 1 → k49 y1 y2 y3 v202 I (upd2 A 14 ((A 16 ((((4 : Int32) * y2) + y4).toNatClampNeg)).toNatClampNeg) ((A 14 ((A 16 ((((4 : Int32) * y2) + y4).toNatClampNeg)).toNatClampNeg)) + (A 6 (y3.toNatClampNeg)))))) ∧ (¬ (A 7 (y3.toNatClampNeg)) = 0 → (((I 24) ≤ (y2 + 1) → (∀ v202 : Int32, v202 = y4 + 1 → k49 y1 y2 y3 v202 I (upd2 A 14 ((A 16 ((((4 : Int32) * y2) + y4).toNatClampNeg)).toNatClampNeg) ((A 14 ((A 16 ((((4 : Int32) * y2) + y4).toNatClampNeg)).toNatClampNeg)) + (A 6 (y3.toNatClampNeg)))))) ∧ (¬ (I 24) ≤ (y2 + 1) → (wp_TuneSetterModel_goOn y2 y4 I (upd2 A 14 ((A 16 ((((4 : Int32) * y2) + y4).toNatClampNeg)).toNatClampNeg) ((A 14 ((A 16 ((((4 : Int32) * y2) + y4).toNatClampNeg)).toNatClampNeg)) + (A 6 (y3.toNatClampNeg)))) (fun I199 A199 => (∀ v202 : Int32, v202 = y4 + 1 → k49 y1 y2 y3 v202 I199 A199))))))))))))
def wp_TuneSetterModel_sound_49 (k31 : Int32 → Int32 → (Nat → Int32) → (Nat → Nat → Int32) → Prop) (post : Int32 → (Nat → Int32) → (Nat → Nat → Int32) → Prop) : Nat → Int32 → Int32 → Int32 → Int32 → (Nat → Int32) → (Nat → Nat → Int32) → Prop
  | 0, _, _, _, _, _, _ => False
  | n + 1, y1, y2, y3, y4, I, A => (vp_in y3 48 ∧ (((A 9 (y3.toNatClampNeg)) ≤ y4 → (vp_in y3 48 ∧ (∀ v216 : Int32, v216 = y1 + (A 6 (y3.toNatClampNeg)) → (∀ v217 : Int32, v217 = y2 + 1 → k31 v216 v217 I A)))) ∧ (¬ (A 9 (y3.toNatClampNeg)) ≤ y4 → (vp_in (((4 : Int32) * y2) + y4) 384 ∧ ((0 ≤ (A 16 ((((4 : Int32) * y2) + y4).toNatClampNeg)) → wp_TuneSetterModel_sound_151 k31 (fun y1 y2 y3 y4 I A => wp_TuneSetterModel_sound_49 k31 post n y1 y2 y3 y4 I A) post y1 y2 y3 y4 I A) ∧ (¬ 0 ≤ (A 16 ((((4 : Int32) * y2) + y4).toNatClampNeg)) → (((I 25) = 64 → post (-7) I A) ∧ (¬ (I 25) = 64 → (vp_in (((4 : Int32) * y2) + y4) 384 ∧ (vp_in (I 25) 64 ∧ (vp_in (I 25) 64 ∧ (vp_in (((4 : Int32) * y3) + y4) 192 ∧ (vp_in (I 25) 64 ∧ wp_TuneSetterModel_sound_151 k31 (fun y1 y2 y3 y4 I A => wp_TuneSetterModel_sound_49 k31 post n y1 y2 y3 y4 I A) post y1 y2 y3 y4 (upd I 25 ((I 25) + 1)) (upd2 (upd2 (upd2 (upd2 A 16 ((((4 : Int32) * y2) + y4).toNatClampNeg) (I 25)) 13 ((I 25).toNatClampNeg) y1) 14 ((I 25).toNatClampNeg) 0) 15 ((I 25).toNatClampNeg) (A 10 ((((4 : Int32) * y3) + y4).toNatClampNeg))))))))))))))))
def wp_TuneSetterModel_sound_31 (post : Int32 → (Nat → Int32) → (Nat → Nat → Int32) → Prop) : Nat → Int32 → Int32 → (Nat → Int32) → (Nat → Nat → Int32) → Prop
  | 0, _, _, _, _ => False
  | n + 1, y1, y2, I, A => (((I 24) ≤ y2 → post 0 I A) ∧ (¬ (I 24) ≤ y2 → (vp_in y2 96 ∧ (∀ v45 : Int32, v45 = (A 12 (y2.toNatClampNeg)) → (∃ n49, wp_TuneSetterModel_sound_49 (fun y1 y2 I A => wp_TuneSetterModel_sound_31 post n y1 y2 I A) post n49 y1 y2 v45 0 I A)))))
def wp_TuneSetterModel_sound_9 (post : Int32 → (Nat → Int32) → (Nat → Nat → Int32) → Prop) : Nat → Int32 → Int32 → (Nat → Int32) → (Nat → Nat → Int32) → Prop
  | 0, _, _, _, _ => False
  | n + 1, y1, y2, I, A => ((384 ≤ y2 → (∃ n31, wp_TuneSetterModel_sound_31 post n31 y1 0 I A)) ∧ (¬ 384 ≤ y2 → (vp_in y2 384 ∧ (∀ v23 : Int32, v23 = y2 + 1 → wp_TuneSetterModel_sound_9 post n y1 v23 I (upd2 A 16 (y2.toNatClampNeg) (-1))))))
def wp_TuneSetterModel_sound (I : Nat → Int32) (A : Nat → Nat → Int32) (post : Int32 → (Nat → Int32) → (Nat → Nat → Int32) → Prop) : Prop := (∃ n9, wp_TuneSetterModel_sound_9 post n9 0 0 (upd I 25 0) A)
theorem d_TuneSetterModel_sound_0 : decode b_TuneSetterModel_sound 0 = .ok (.aload_n 0, 1) := by decide +kernel
theorem d_TuneSetterModel_sound_1 : decode b_TuneSetterModel_sound 1 = .ok (.iconst 0, 1) := by decide +kernel
theorem d_TuneSetterModel_sound_2 : decode b_TuneSetterModel_sound 2 = .ok (.putfield 97, 3) := by decide +kernel
theorem d_TuneSetterModel_sound_5 : decode b_TuneSetterModel_sound 5 = .ok (.iconst 0, 1) := by decide +kernel
theorem d_TuneSetterModel_sound_6 : decode b_TuneSetterModel_sound 6 = .ok (.istore_n 1, 1) := by decide +kernel
theorem d_TuneSetterModel_sound_7 : decode b_TuneSetterModel_sound 7 = .ok (.iconst 0, 1) := by decide +kernel
theorem d_TuneSetterModel_sound_8 : decode b_TuneSetterModel_sound 8 = .ok (.istore_n 2, 1) := by decide +kernel
theorem d_TuneSetterModel_sound_9 : decode b_TuneSetterModel_sound 9 = .ok (.iload_n 2, 1) := by decide +kernel
theorem d_TuneSetterModel_sound_10 : decode b_TuneSetterModel_sound 10 = .ok (.sipush 384, 3) := by decide +kernel
theorem d_TuneSetterModel_sound_13 : decode b_TuneSetterModel_sound 13 = .ok (.if_icmp .ge 16, 3) := by decide +kernel
theorem d_TuneSetterModel_sound_16 : decode b_TuneSetterModel_sound 16 = .ok (.aload_n 0, 1) := by decide +kernel
theorem d_TuneSetterModel_sound_17 : decode b_TuneSetterModel_sound 17 = .ok (.getfield 69, 3) := by decide +kernel
theorem d_TuneSetterModel_sound_20 : decode b_TuneSetterModel_sound 20 = .ok (.iload_n 2, 1) := by decide +kernel
theorem d_TuneSetterModel_sound_21 : decode b_TuneSetterModel_sound 21 = .ok (.iconst (-1), 1) := by decide +kernel
theorem d_TuneSetterModel_sound_22 : decode b_TuneSetterModel_sound 22 = .ok (.iastore, 1) := by decide +kernel
theorem d_TuneSetterModel_sound_23 : decode b_TuneSetterModel_sound 23 = .ok (.iinc 2 1, 3) := by decide +kernel
theorem d_TuneSetterModel_sound_26 : decode b_TuneSetterModel_sound 26 = .ok (.goto (-17), 3) := by decide +kernel
theorem d_TuneSetterModel_sound_29 : decode b_TuneSetterModel_sound 29 = .ok (.iconst 0, 1) := by decide +kernel
theorem d_TuneSetterModel_sound_30 : decode b_TuneSetterModel_sound 30 = .ok (.istore_n 2, 1) := by decide +kernel
theorem d_TuneSetterModel_sound_31 : decode b_TuneSetterModel_sound 31 = .ok (.iload_n 2, 1) := by decide +kernel
theorem d_TuneSetterModel_sound_32 : decode b_TuneSetterModel_sound 32 = .ok (.aload_n 0, 1) := by decide +kernel
theorem d_TuneSetterModel_sound_33 : decode b_TuneSetterModel_sound 33 = .ok (.getfield 250, 3) := by decide +kernel
theorem d_TuneSetterModel_sound_36 : decode b_TuneSetterModel_sound 36 = .ok (.if_icmp .ge 187, 3) := by decide +kernel
theorem d_TuneSetterModel_sound_39 : decode b_TuneSetterModel_sound 39 = .ok (.aload_n 0, 1) := by decide +kernel
theorem d_TuneSetterModel_sound_40 : decode b_TuneSetterModel_sound 40 = .ok (.getfield 57, 3) := by decide +kernel
theorem d_TuneSetterModel_sound_43 : decode b_TuneSetterModel_sound 43 = .ok (.iload_n 2, 1) := by decide +kernel
theorem d_TuneSetterModel_sound_44 : decode b_TuneSetterModel_sound 44 = .ok (.iaload, 1) := by decide +kernel
theorem d_TuneSetterModel_sound_45 : decode b_TuneSetterModel_sound 45 = .ok (.istore_n 3, 1) := by decide +kernel
theorem d_TuneSetterModel_sound_46 : decode b_TuneSetterModel_sound 46 = .ok (.iconst 0, 1) := by decide +kernel
theorem d_TuneSetterModel_sound_47 : decode b_TuneSetterModel_sound 47 = .ok (.istore 4, 2) := by decide +kernel
theorem d_TuneSetterModel_sound_49 : decode b_TuneSetterModel_sound 49 = .ok (.iload 4, 2) := by decide +kernel
theorem d_TuneSetterModel_sound_51 : decode b_TuneSetterModel_sound 51 = .ok (.aload_n 0, 1) := by decide +kernel
theorem d_TuneSetterModel_sound_52 : decode b_TuneSetterModel_sound 52 = .ok (.getfield 48, 3) := by decide +kernel
theorem d_TuneSetterModel_sound_55 : decode b_TuneSetterModel_sound 55 = .ok (.iload_n 3, 1) := by decide +kernel
theorem d_TuneSetterModel_sound_56 : decode b_TuneSetterModel_sound 56 = .ok (.iaload, 1) := by decide +kernel
theorem d_TuneSetterModel_sound_57 : decode b_TuneSetterModel_sound 57 = .ok (.if_icmp .ge 151, 3) := by decide +kernel
theorem d_TuneSetterModel_sound_60 : decode b_TuneSetterModel_sound 60 = .ok (.aload_n 0, 1) := by decide +kernel
theorem d_TuneSetterModel_sound_61 : decode b_TuneSetterModel_sound 61 = .ok (.getfield 69, 3) := by decide +kernel
theorem d_TuneSetterModel_sound_64 : decode b_TuneSetterModel_sound 64 = .ok (.iconst 4, 1) := by decide +kernel
theorem d_TuneSetterModel_sound_65 : decode b_TuneSetterModel_sound 65 = .ok (.iload_n 2, 1) := by decide +kernel
theorem d_TuneSetterModel_sound_66 : decode b_TuneSetterModel_sound 66 = .ok (.imul, 1) := by decide +kernel
theorem d_TuneSetterModel_sound_67 : decode b_TuneSetterModel_sound 67 = .ok (.iload 4, 2) := by decide +kernel
theorem d_TuneSetterModel_sound_69 : decode b_TuneSetterModel_sound 69 = .ok (.iadd, 1) := by decide +kernel
theorem d_TuneSetterModel_sound_70 : decode b_TuneSetterModel_sound 70 = .ok (.iaload, 1) := by decide +kernel
theorem d_TuneSetterModel_sound_71 : decode b_TuneSetterModel_sound 71 = .ok (.ifCond .ge 80, 3) := by decide +kernel
theorem d_TuneSetterModel_sound_74 : decode b_TuneSetterModel_sound 74 = .ok (.aload_n 0, 1) := by decide +kernel
theorem d_TuneSetterModel_sound_75 : decode b_TuneSetterModel_sound 75 = .ok (.getfield 97, 3) := by decide +kernel
theorem d_TuneSetterModel_sound_78 : decode b_TuneSetterModel_sound 78 = .ok (.bipush 64, 2) := by decide +kernel
theorem d_TuneSetterModel_sound_80 : decode b_TuneSetterModel_sound 80 = .ok (.if_icmp .ne 6, 3) := by decide +kernel
theorem d_TuneSetterModel_sound_83 : decode b_TuneSetterModel_sound 83 = .ok (.bipush (-7), 2) := by decide +kernel
theorem d_TuneSetterModel_sound_85 : decode b_TuneSetterModel_sound 85 = .ok (.ireturn, 1) := by decide +kernel
theorem d_TuneSetterModel_sound_86 : decode b_TuneSetterModel_sound 86 = .ok (.aload_n 0, 1) := by decide +kernel
theorem d_TuneSetterModel_sound_87 : decode b_TuneSetterModel_sound 87 = .ok (.getfield 69, 3) := by decide +kernel
theorem d_TuneSetterModel_sound_90 : decode b_TuneSetterModel_sound 90 = .ok (.iconst 4, 1) := by decide +kernel
theorem d_TuneSetterModel_sound_91 : decode b_TuneSetterModel_sound 91 = .ok (.iload_n 2, 1) := by decide +kernel
theorem d_TuneSetterModel_sound_92 : decode b_TuneSetterModel_sound 92 = .ok (.imul, 1) := by decide +kernel
theorem d_TuneSetterModel_sound_93 : decode b_TuneSetterModel_sound 93 = .ok (.iload 4, 2) := by decide +kernel
theorem d_TuneSetterModel_sound_95 : decode b_TuneSetterModel_sound 95 = .ok (.iadd, 1) := by decide +kernel
theorem d_TuneSetterModel_sound_96 : decode b_TuneSetterModel_sound 96 = .ok (.aload_n 0, 1) := by decide +kernel
theorem d_TuneSetterModel_sound_97 : decode b_TuneSetterModel_sound 97 = .ok (.getfield 97, 3) := by decide +kernel
theorem d_TuneSetterModel_sound_100 : decode b_TuneSetterModel_sound 100 = .ok (.iastore, 1) := by decide +kernel
theorem d_TuneSetterModel_sound_101 : decode b_TuneSetterModel_sound 101 = .ok (.aload_n 0, 1) := by decide +kernel
theorem d_TuneSetterModel_sound_102 : decode b_TuneSetterModel_sound 102 = .ok (.getfield 60, 3) := by decide +kernel
theorem d_TuneSetterModel_sound_105 : decode b_TuneSetterModel_sound 105 = .ok (.aload_n 0, 1) := by decide +kernel
theorem d_TuneSetterModel_sound_106 : decode b_TuneSetterModel_sound 106 = .ok (.getfield 97, 3) := by decide +kernel
theorem d_TuneSetterModel_sound_109 : decode b_TuneSetterModel_sound 109 = .ok (.iload_n 1, 1) := by decide +kernel
theorem d_TuneSetterModel_sound_110 : decode b_TuneSetterModel_sound 110 = .ok (.iastore, 1) := by decide +kernel
theorem d_TuneSetterModel_sound_111 : decode b_TuneSetterModel_sound 111 = .ok (.aload_n 0, 1) := by decide +kernel
theorem d_TuneSetterModel_sound_112 : decode b_TuneSetterModel_sound 112 = .ok (.getfield 63, 3) := by decide +kernel
theorem d_TuneSetterModel_sound_115 : decode b_TuneSetterModel_sound 115 = .ok (.aload_n 0, 1) := by decide +kernel
theorem d_TuneSetterModel_sound_116 : decode b_TuneSetterModel_sound 116 = .ok (.getfield 97, 3) := by decide +kernel
theorem d_TuneSetterModel_sound_119 : decode b_TuneSetterModel_sound 119 = .ok (.iconst 0, 1) := by decide +kernel
theorem d_TuneSetterModel_sound_120 : decode b_TuneSetterModel_sound 120 = .ok (.iastore, 1) := by decide +kernel
theorem d_TuneSetterModel_sound_121 : decode b_TuneSetterModel_sound 121 = .ok (.aload_n 0, 1) := by decide +kernel
theorem d_TuneSetterModel_sound_122 : decode b_TuneSetterModel_sound 122 = .ok (.getfield 66, 3) := by decide +kernel
theorem d_TuneSetterModel_sound_125 : decode b_TuneSetterModel_sound 125 = .ok (.aload_n 0, 1) := by decide +kernel
theorem d_TuneSetterModel_sound_126 : decode b_TuneSetterModel_sound 126 = .ok (.getfield 97, 3) := by decide +kernel
theorem d_TuneSetterModel_sound_129 : decode b_TuneSetterModel_sound 129 = .ok (.aload_n 0, 1) := by decide +kernel
theorem d_TuneSetterModel_sound_130 : decode b_TuneSetterModel_sound 130 = .ok (.getfield 51, 3) := by decide +kernel
theorem d_TuneSetterModel_sound_133 : decode b_TuneSetterModel_sound 133 = .ok (.iconst 4, 1) := by decide +kernel
theorem d_TuneSetterModel_sound_134 : decode b_TuneSetterModel_sound 134 = .ok (.iload_n 3, 1) := by decide +kernel
theorem d_TuneSetterModel_sound_135 : decode b_TuneSetterModel_sound 135 = .ok (.imul, 1) := by decide +kernel
theorem d_TuneSetterModel_sound_136 : decode b_TuneSetterModel_sound 136 = .ok (.iload 4, 2) := by decide +kernel
theorem d_TuneSetterModel_sound_138 : decode b_TuneSetterModel_sound 138 = .ok (.iadd, 1) := by decide +kernel
theorem d_TuneSetterModel_sound_139 : decode b_TuneSetterModel_sound 139 = .ok (.iaload, 1) := by decide +kernel
theorem d_TuneSetterModel_sound_140 : decode b_TuneSetterModel_sound 140 = .ok (.iastore, 1) := by decide +kernel
theorem d_TuneSetterModel_sound_141 : decode b_TuneSetterModel_sound 141 = .ok (.aload_n 0, 1) := by decide +kernel
theorem d_TuneSetterModel_sound_142 : decode b_TuneSetterModel_sound 142 = .ok (.dup, 1) := by decide +kernel
theorem d_TuneSetterModel_sound_143 : decode b_TuneSetterModel_sound 143 = .ok (.getfield 97, 3) := by decide +kernel
theorem d_TuneSetterModel_sound_146 : decode b_TuneSetterModel_sound 146 = .ok (.iconst 1, 1) := by decide +kernel
theorem d_TuneSetterModel_sound_147 : decode b_TuneSetterModel_sound 147 = .ok (.iadd, 1) := by decide +kernel
theorem d_TuneSetterModel_sound_148 : decode b_TuneSetterModel_sound 148 = .ok (.putfield 97, 3) := by decide +kernel
theorem d_TuneSetterModel_sound_151 : decode b_TuneSetterModel_sound 151 = .ok (.aload_n 0, 1) := by decide +kernel
theorem d_TuneSetterModel_sound_152 : decode b_TuneSetterModel_sound 152 = .ok (.getfield 63, 3) := by decide +kernel
theorem d_TuneSetterModel_sound_155 : decode b_TuneSetterModel_sound 155 = .ok (.aload_n 0, 1) := by decide +kernel
theorem d_TuneSetterModel_sound_156 : decode b_TuneSetterModel_sound 156 = .ok (.getfield 69, 3) := by decide +kernel
theorem d_TuneSetterModel_sound_159 : decode b_TuneSetterModel_sound 159 = .ok (.iconst 4, 1) := by decide +kernel
theorem d_TuneSetterModel_sound_160 : decode b_TuneSetterModel_sound 160 = .ok (.iload_n 2, 1) := by decide +kernel
theorem d_TuneSetterModel_sound_161 : decode b_TuneSetterModel_sound 161 = .ok (.imul, 1) := by decide +kernel
theorem d_TuneSetterModel_sound_162 : decode b_TuneSetterModel_sound 162 = .ok (.iload 4, 2) := by decide +kernel
theorem d_TuneSetterModel_sound_164 : decode b_TuneSetterModel_sound 164 = .ok (.iadd, 1) := by decide +kernel
theorem d_TuneSetterModel_sound_165 : decode b_TuneSetterModel_sound 165 = .ok (.iaload, 1) := by decide +kernel
theorem d_TuneSetterModel_sound_166 : decode b_TuneSetterModel_sound 166 = .ok (.dup2, 1) := by decide +kernel
theorem d_TuneSetterModel_sound_167 : decode b_TuneSetterModel_sound 167 = .ok (.iaload, 1) := by decide +kernel
theorem d_TuneSetterModel_sound_168 : decode b_TuneSetterModel_sound 168 = .ok (.aload_n 0, 1) := by decide +kernel
theorem d_TuneSetterModel_sound_169 : decode b_TuneSetterModel_sound 169 = .ok (.getfield 38, 3) := by decide +kernel
theorem d_TuneSetterModel_sound_172 : decode b_TuneSetterModel_sound 172 = .ok (.iload_n 3, 1) := by decide +kernel
theorem d_TuneSetterModel_sound_173 : decode b_TuneSetterModel_sound 173 = .ok (.iaload, 1) := by decide +kernel
theorem d_TuneSetterModel_sound_174 : decode b_TuneSetterModel_sound 174 = .ok (.iadd, 1) := by decide +kernel
theorem d_TuneSetterModel_sound_175 : decode b_TuneSetterModel_sound 175 = .ok (.iastore, 1) := by decide +kernel
theorem d_TuneSetterModel_sound_176 : decode b_TuneSetterModel_sound 176 = .ok (.aload_n 0, 1) := by decide +kernel
theorem d_TuneSetterModel_sound_177 : decode b_TuneSetterModel_sound 177 = .ok (.getfield 41, 3) := by decide +kernel
theorem d_TuneSetterModel_sound_180 : decode b_TuneSetterModel_sound 180 = .ok (.iload_n 3, 1) := by decide +kernel
theorem d_TuneSetterModel_sound_181 : decode b_TuneSetterModel_sound 181 = .ok (.baload, 1) := by decide +kernel
theorem d_TuneSetterModel_sound_182 : decode b_TuneSetterModel_sound 182 = .ok (.ifCond .eq 20, 3) := by decide +kernel
theorem d_TuneSetterModel_sound_185 : decode b_TuneSetterModel_sound 185 = .ok (.iload_n 2, 1) := by decide +kernel
theorem d_TuneSetterModel_sound_186 : decode b_TuneSetterModel_sound 186 = .ok (.iconst 1, 1) := by decide +kernel
theorem d_TuneSetterModel_sound_187 : decode b_TuneSetterModel_sound 187 = .ok (.iadd, 1) := by decide +kernel
theorem d_TuneSetterModel_sound_188 : decode b_TuneSetterModel_sound 188 = .ok (.aload_n 0, 1) := by decide +kernel
theorem d_TuneSetterModel_sound_189 : decode b_TuneSetterModel_sound 189 = .ok (.getfield 250, 3) := by decide +kernel
theorem d_TuneSetterModel_sound_192 : decode b_TuneSetterModel_sound 192 = .ok (.if_icmp .ge 10, 3) := by decide +kernel
theorem d_TuneSetterModel_sound_195 : decode b_TuneSetterModel_sound 195 = .ok (.aload_n 0, 1) := by decide +kernel
theorem d_TuneSetterModel_sound_196 : decode b_TuneSetterModel_sound 196 = .ok (.iload_n 2, 1) := by decide +kernel
theorem d_TuneSetterModel_sound_197 : decode b_TuneSetterModel_sound 197 = .ok (.iload 4, 2) := by decide +kernel
theorem d_TuneSetterModel_sound_199 : decode b_TuneSetterModel_sound 199 = .ok (.invokevirtual 262, 3) := by decide +kernel
theorem d_TuneSetterModel_sound_202 : decode b_TuneSetterModel_sound 202 = .ok (.iinc 4 1, 3) := by decide +kernel
theorem d_TuneSetterModel_sound_205 : decode b_TuneSetterModel_sound 205 = .ok (.goto (-156), 3) := by decide +kernel
theorem d_TuneSetterModel_sound_208 : decode b_TuneSetterModel_sound 208 = .ok (.iload_n 1, 1) := by decide +kernel
theorem d_TuneSetterModel_sound_209 : decode b_TuneSetterModel_sound 209 = .ok (.aload_n 0, 1) := by decide +kernel
theorem d_TuneSetterModel_sound_210 : decode b_TuneSetterModel_sound 210 = .ok (.getfield 38, 3) := by decide +kernel
theorem d_TuneSetterModel_sound_213 : decode b_TuneSetterModel_sound 213 = .ok (.iload_n 3, 1) := by decide +kernel
theorem d_TuneSetterModel_sound_214 : decode b_TuneSetterModel_sound 214 = .ok (.iaload, 1) := by decide +kernel
theorem d_TuneSetterModel_sound_215 : decode b_TuneSetterModel_sound 215 = .ok (.iadd, 1) := by decide +kernel
theorem d_TuneSetterModel_sound_216 : decode b_TuneSetterModel_sound 216 = .ok (.istore_n 1, 1) := by decide +kernel
theorem d_TuneSetterModel_sound_217 : decode b_TuneSetterModel_sound 217 = .ok (.iinc 2 1, 3) := by decide +kernel
theorem d_TuneSetterModel_sound_220 : decode b_TuneSetterModel_sound 220 = .ok (.goto (-189), 3) := by decide +kernel
theorem d_TuneSetterModel_sound_223 : decode b_TuneSetterModel_sound 223 = .ok (.iconst 0, 1) := by decide +kernel
theorem d_TuneSetterModel_sound_224 : decode b_TuneSetterModel_sound 224 = .ok (.ireturn, 1) := by decide +kernel
def w_TuneSetterModel_sound : List Cond := .code y_TuneSetterModel_sound b_TuneSetterModel_sound 5 (some .int) :: WALL
theorem g_TuneSetterModel_sound : GoodIn WALL w_TuneSetterModel_sound := good_of mc_TuneSetterModel_sound
set_option maxHeartbeats 4000000 in
set_option maxRecDepth 100000 in
theorem c_TuneSetterModel_sound (l : Launch) (D : va_G) (cA a : Nat → Nat) (sz : Nat) (I : Nat → Int32) (A : Nat → Nat → Int32) (post : Int32 → (Nat → Int32) → (Nat → Nat → Int32) → Prop) (h : wp_TuneSetterModel_sound I A post) : Met l y_TuneSetterModel_sound w_TuneSetterModel_sound ({ frames := 1, cells := 0, slots := 0, locals := 26 }) (va_Pc [.ref (a 0)] (PreR D cA a I A sz)) (va_Qi (fun r (u : StW) => post r u.1 u.2) (EndR D cA a) (AR a sz)) 0 0 (AR a sz) := by
  refine Met.ofW (cc := b_TuneSetterModel_sound) (maxL := 5) (ret := (some .int)) (by decide) rfl ?_
  intro p e s m args below meth c s₁ B hml hv
  obtain ⟨rfl, hsz, hP, hK, hD0⟩ := hv
  have hx := B.exec
  have hb := B.bytes
  have hr := B.returns
  have hts := atoms_spec (ws := w_TuneSetterModel_sound) B.pre
  have hw := wall_of hts
  have hown : s.vm.findClass R_TuneSetterModel = some m.cls := findClass_of_methodNamed B.named
  have hlocks := B.notSynchronized
  subst hsz
  have hD := hDR (sz := s.heap.size) hD0
  have hA : ∀ q : Nat, s.heap.size ≤ q → AR a s.heap.size q := fun q h => Or.inr h
  have hS : va_S (AR a s.heap.size) s.heap s.heap [] := va_S.rf
  have j151 : ∀ (k31 : Int32 → Int32 → (Nat → Int32) → (Nat → Nat → Int32) → Prop) (hk31 : ∀ (y1 : Int32) (y2 : Int32) (I : Nat → Int32) (A : Nat → Nat → Int32) (H : Heap) (locs : List Loc) (ls : Array Slot), k31 y1 y2 I A → va_P D cls (wR cA a I A) H → va_S (AR a s.heap.size) s.heap H locs → lv_has ls 5 [(0, .ref (a 0)), (1, .int y1), (2, .int y2)] → W p l e (headSpec w_TuneSetterModel_sound ({ frames := 1, cells := 0, slots := 0, locals := 26 })).room s m [.ref (a 0)].toArray below meth c H locs 0 0 (MQ below (va_Qi (fun r (u : StW) => post r u.1 u.2) (EndR D cA a) (AR a s.heap.size)) [.ref (a 0)].toArray s 0 0 (AR a s.heap.size)) (F0 m 31 ls [])), ∀ (k49 : Int32 → Int32 → Int32 → Int32 → (Nat → Int32) → (Nat → Nat → Int32) → Prop) (hk49 : ∀ (y1 : Int32) (y2 : Int32) (y3 : Int32) (y4 : Int32) (I : Nat → Int32) (A : Nat → Nat → Int32) (H : Heap) (locs : List Loc) (ls : Array Slot), k49 y1 y2 y3 y4 I A → va_P D cls (wR cA a I A) H → va_S (AR a s.heap.size) s.heap H locs → lv_has ls 5 [(0, .ref (a 0)), (1, .int y1), (2, .int y2), (3, .int y3), (4, .int y4)] → W p l e (headSpec w_TuneSetterModel_sound ({ frames := 1, cells := 0, slots := 0, locals := 26 })).room s m [.ref (a 0)].toArray below meth c H locs 0 0 (MQ below (va_Qi (fun r (u : StW) => post r u.1 u.2) (EndR D cA a) (AR a s.heap.size)) [.ref (a 0)].toArray s 0 0 (AR a s.heap.size)) (F0 m 49 ls [])), ∀ (y1 : Int32) (y2 : Int32) (y3 : Int32) (y4 : Int32) (I : Nat → Int32) (A : Nat → Nat → Int32) (H : Heap) (locs : List Loc) (ls : Array Slot), wp_TuneSetterModel_sound_151 k31 k49 post y1 y2 y3 y4 I A → va_P D cls (wR cA a I A) H → va_S (AR a s.heap.size) s.heap H locs → lv_has ls 5 [(0, .ref (a 0)), (1, .int y1), (2, .int y2), (3, .int y3), (4, .int y4)] → W p l e (headSpec w_TuneSetterModel_sound ({ frames := 1, cells := 0, slots := 0, locals := 26 })).room s m [.ref (a 0)].toArray below meth c H locs 0 0 (MQ below (va_Qi (fun r (u : StW) => post r u.1 u.2) (EndR D cA a) (AR a s.heap.size)) [.ref (a 0)].toArray s 0 0 (AR a s.heap.size)) (F0 m 151 ls []) := by
    intro k31 hk31 k49 hk49
    intro y1 y2 y3 y4 I A H locs ls h hP hS hl
    unfold wp_TuneSetterModel_sound_151 at h
    refine lv_aload_n hx hb d_TuneSetterModel_sound_151 rfl (lv_at hl 0 rfl) ?_
    refine gR_TuneSetterModel_length hx hb hw hown hK hP (hw _ m_TuneSetterModel_63) d_TuneSetterModel_sound_152 ?_
    refine lv_aload_n hx hb d_TuneSetterModel_sound_155 rfl (lv_at hl 0 rfl) ?_
    refine gR_TuneSetterModel_head hx hb hw hown hK hP (hw _ m_TuneSetterModel_69) d_TuneSetterModel_sound_156 ?_
    refine lv_iconst (v := 4) hx hb d_TuneSetterModel_sound_159 ic_4 ?_
    refine lv_iload_n hx hb d_TuneSetterModel_sound_160 rfl (lv_at hl 2 rfl) ?_
    refine lv_imul hx hb d_TuneSetterModel_sound_161 ?_
    refine lv_iload hx hb d_TuneSetterModel_sound_162 (lv_at hl 4 rfl) ?_
    refine lv_iadd hx hb d_TuneSetterModel_sound_164 ?_
    obtain ⟨hin, h⟩ := h
    refine lR16 hx hb hK hP hin d_TuneSetterModel_sound_165 ?_
    refine lv_dup2_11 hx hb d_TuneSetterModel_sound_166 rfl rfl ?_
    obtain ⟨hin, h⟩ := h
    refine lR14 hx hb hK hP hin d_TuneSetterModel_sound_167 ?_
    refine lv_aload_n hx hb d_TuneSetterModel_sound_168 rfl (lv_at hl 0 rfl) ?_
    refine gR_TuneSetterModel_ticks hx hb hw hown hK hP (hw _ m_TuneSetterModel_38) d_TuneSetterModel_sound_169 ?_
    refine lv_iload_n hx hb d_TuneSetterModel_sound_172 rfl (lv_at hl 3 rfl) ?_
    obtain ⟨hin, h⟩ := h
    refine lR6 hx hb hK hP hin d_TuneSetterModel_sound_173 ?_
    refine lv_iadd hx hb d_TuneSetterModel_sound_174 ?_
    obtain ⟨hin, h⟩ := h
    refine sR14 hx hb hK hD hS hP hin d_TuneSetterModel_sound_175 (fun H locs hP hS => ?_)
    refine lv_aload_n hx hb d_TuneSetterModel_sound_176 rfl (lv_at hl 0 rfl) ?_
    refine gR_TuneSetterModel_tie hx hb hw hown hK hP (hw _ m_TuneSetterModel_41) d_TuneSetterModel_sound_177 ?_
    refine lv_iload_n hx hb d_TuneSetterModel_sound_180 rfl (lv_at hl 3 rfl) ?_
    obtain ⟨hin, h⟩ := h
    refine lR7 hx hb hK hP hin d_TuneSetterModel_sound_181 ?_
    refine lv_if_eq (tgt := 202) hx hb d_TuneSetterModel_sound_182 rfl (fun q => ?_) (fun q => ?_)
    · have h := h.1 q
      obtain ⟨v202, ev202⟩ : ∃ z : Int32, z = y4 + 1 := ⟨_, rfl⟩
      have h := h v202 ev202
      refine lv_iinc (k := 4) (v := v202) (lv' := [(4, .int v202), (0, .ref (a 0)), (1, .int y1), (2, .int y2), (3, .int y3)]) hx hb d_TuneSetterModel_sound_202 hl rfl (by rw [ev202, ic_1]) (by decide) rfl (fun ls hl => ?_)
      refine lv_goto (tgt := 49) hx hb d_TuneSetterModel_sound_205 rfl ?_
      exact hk49 y1 y2 y3 v202 I (upd2 A 14 ((A 16 ((((4 : Int32) * y2) + y4).toNatClampNeg)).toNatClampNeg) ((A 14 ((A 16 ((((4 : Int32) * y2) + y4).toNatClampNeg)).toNatClampNeg)) + (A 6 (y3.toNatClampNeg)))) _ _ _ h hP hS (lv_sub hl [1, 2, 3, 4, 0] rfl)
    · have h := h.2 q
      refine lv_iload_n hx hb d_TuneSetterModel_sound_185 rfl (lv_at hl 2 rfl) ?_
      refine lv_iconst (v := 1) hx hb d_TuneSetterModel_sound_186 ic_1 ?_
      refine lv_iadd hx hb d_TuneSetterModel_sound_187 ?_
      refine lv_aload_n hx hb d_TuneSetterModel_sound_188 rfl (lv_at hl 0 rfl) ?_
      refine gR_TuneSetterModel_played hx hb hw hown hK hP (hw _ m_TuneSetterModel_250) d_TuneSetterModel_sound_189 ?_
      refine lv_icmp_ge (tgt := 202) hx hb d_TuneSetterModel_sound_192 rfl (fun q => ?_) (fun q => ?_)
      · have h := h.1 q
        obtain ⟨v202, ev202⟩ : ∃ z : Int32, z = y4 + 1 := ⟨_, rfl⟩
        have h := h v202 ev202
        refine lv_iinc (k := 4) (v := v202) (lv' := [(4, .int v202), (0, .ref (a 0)), (1, .int y1), (2, .int y2), (3, .int y3)]) hx hb d_TuneSetterModel_sound_202 hl rfl (by rw [ev202, ic_1]) (by decide) rfl (fun ls hl => ?_)
        refine lv_goto (tgt := 49) hx hb d_TuneSetterModel_sound_205 rfl ?_
        exact hk49 y1 y2 y3 v202 I (upd2 A 14 ((A 16 ((((4 : Int32) * y2) + y4).toNatClampNeg)).toNatClampNeg) ((A 14 ((A 16 ((((4 : Int32) * y2) + y4).toNatClampNeg)).toNatClampNeg)) + (A 6 (y3.toNatClampNeg)))) _ _ _ h hP hS (lv_sub hl [1, 2, 3, 4, 0] rfl)
      · have h := h.2 q
        refine lv_aload_n hx hb d_TuneSetterModel_sound_195 rfl (lv_at hl 0 rfl) ?_
        refine lv_iload_n hx hb d_TuneSetterModel_sound_196 rfl (lv_at hl 2 rfl) ?_
        refine lv_iload hx hb d_TuneSetterModel_sound_197 (lv_at hl 4 rfl) ?_
        refine k_TuneSetterModel_goOn y2 y4 (rest := []) ⟨hx, hb, hml, hown, hw⟩ hK hD hA hS hP hl.1 (hw _ m_TuneSetterModel_262) (Nat.le_of_ble_eq_true rfl) ⟨Nat.le_of_ble_eq_true rfl, Nat.le_of_ble_eq_true rfl⟩ ⟨Nat.zero_le _, Nat.zero_le _⟩ d_TuneSetterModel_sound_199 h (fun I199 A199 H locs h hP hS => ?_)
        obtain ⟨v202, ev202⟩ : ∃ z : Int32, z = y4 + 1 := ⟨_, rfl⟩
        have h := h v202 ev202
        refine lv_iinc (k := 4) (v := v202) (lv' := [(4, .int v202), (0, .ref (a 0)), (1, .int y1), (2, .int y2), (3, .int y3)]) hx hb d_TuneSetterModel_sound_202 hl rfl (by rw [ev202, ic_1]) (by decide) rfl (fun ls hl => ?_)
        refine lv_goto (tgt := 49) hx hb d_TuneSetterModel_sound_205 rfl ?_
        exact hk49 y1 y2 y3 v202 I199 A199 _ _ _ h hP hS (lv_sub hl [1, 2, 3, 4, 0] rfl)
  have j49 : ∀ (k31 : Int32 → Int32 → (Nat → Int32) → (Nat → Nat → Int32) → Prop) (hk31 : ∀ (y1 : Int32) (y2 : Int32) (I : Nat → Int32) (A : Nat → Nat → Int32) (H : Heap) (locs : List Loc) (ls : Array Slot), k31 y1 y2 I A → va_P D cls (wR cA a I A) H → va_S (AR a s.heap.size) s.heap H locs → lv_has ls 5 [(0, .ref (a 0)), (1, .int y1), (2, .int y2)] → W p l e (headSpec w_TuneSetterModel_sound ({ frames := 1, cells := 0, slots := 0, locals := 26 })).room s m [.ref (a 0)].toArray below meth c H locs 0 0 (MQ below (va_Qi (fun r (u : StW) => post r u.1 u.2) (EndR D cA a) (AR a s.heap.size)) [.ref (a 0)].toArray s 0 0 (AR a s.heap.size)) (F0 m 31 ls [])), ∀ n : Nat, ∀ (y1 : Int32) (y2 : Int32) (y3 : Int32) (y4 : Int32) (I : Nat → Int32) (A : Nat → Nat → Int32) (H : Heap) (locs : List Loc) (ls : Array Slot), wp_TuneSetterModel_sound_49 k31 post n y1 y2 y3 y4 I A → va_P D cls (wR cA a I A) H → va_S (AR a s.heap.size) s.heap H locs → lv_has ls 5 [(0, .ref (a 0)), (1, .int y1), (2, .int y2), (3, .int y3), (4, .int y4)] → W p l e (headSpec w_TuneSetterModel_sound ({ frames := 1, cells := 0, slots := 0, locals := 26 })).room s m [.ref (a 0)].toArray below meth c H locs 0 0 (MQ below (va_Qi (fun r (u : StW) => post r u.1 u.2) (EndR D cA a) (AR a s.heap.size)) [.ref (a 0)].toArray s 0 0 (AR a s.heap.size)) (F0 m 49 ls []) := by
    intro k31 hk31
    intro n
    induction n with
    | zero =>
      intro y1 y2 y3 y4 I A H locs ls h hP hS hl
      exact False.elim h
    | succ n ih =>
      intro y1 y2 y3 y4 I A H locs ls h hP hS hl
      unfold wp_TuneSetterModel_sound_49 at h
      refine lv_iload hx hb d_TuneSetterModel_sound_49 (lv_at hl 4 rfl) ?_
      refine lv_aload_n hx hb d_TuneSetterModel_sound_51 rfl (lv_at hl 0 rfl) ?_
      refine gR_TuneSetterModel_many hx hb hw hown hK hP (hw _ m_TuneSetterModel_48) d_TuneSetterModel_sound_52 ?_
      refine lv_iload_n hx hb d_TuneSetterModel_sound_55 rfl (lv_at hl 3 rfl) ?_
      obtain ⟨hin, h⟩ := h
      refine lR9 hx hb hK hP hin d_TuneSetterModel_sound_56 ?_
      refine lv_icmp_ge (tgt := 208) hx hb d_TuneSetterModel_sound_57 rfl (fun q => ?_) (fun q => ?_)
      · have h := h.1 q
        refine lv_iload_n hx hb d_TuneSetterModel_sound_208 rfl (lv_at hl 1 rfl) ?_
        refine lv_aload_n hx hb d_TuneSetterModel_sound_209 rfl (lv_at hl 0 rfl) ?_
        refine gR_TuneSetterModel_ticks hx hb hw hown hK hP (hw _ m_TuneSetterModel_38) d_TuneSetterModel_sound_210 ?_
        refine lv_iload_n hx hb d_TuneSetterModel_sound_213 rfl (lv_at hl 3 rfl) ?_
        obtain ⟨hin, h⟩ := h
        refine lR6 hx hb hK hP hin d_TuneSetterModel_sound_214 ?_
        refine lv_iadd hx hb d_TuneSetterModel_sound_215 ?_
        refine lv_topi (fun v216 ev216 => ?_)
        have h := h v216 ev216
        refine lv_istore_n (lv' := [(1, .int v216), (0, .ref (a 0)), (2, .int y2), (3, .int y3), (4, .int y4)]) hx hb d_TuneSetterModel_sound_216 rfl hl (by decide) rfl (fun ls hl => ?_)
        obtain ⟨v217, ev217⟩ : ∃ z : Int32, z = y2 + 1 := ⟨_, rfl⟩
        have h := h v217 ev217
        refine lv_iinc (k := 2) (v := v217) (lv' := [(2, .int v217), (1, .int v216), (0, .ref (a 0)), (3, .int y3), (4, .int y4)]) hx hb d_TuneSetterModel_sound_217 hl rfl (by rw [ev217, ic_1]) (by decide) rfl (fun ls hl => ?_)
        refine lv_goto (tgt := 31) hx hb d_TuneSetterModel_sound_220 rfl ?_
        exact hk31 v216 v217 I A _ _ _ h hP hS (lv_sub hl [2, 1, 0] rfl)
      · have h := h.2 q
        refine lv_aload_n hx hb d_TuneSetterModel_sound_60 rfl (lv_at hl 0 rfl) ?_
        refine gR_TuneSetterModel_head hx hb hw hown hK hP (hw _ m_TuneSetterModel_69) d_TuneSetterModel_sound_61 ?_
        refine lv_iconst (v := 4) hx hb d_TuneSetterModel_sound_64 ic_4 ?_
        refine lv_iload_n hx hb d_TuneSetterModel_sound_65 rfl (lv_at hl 2 rfl) ?_
        refine lv_imul hx hb d_TuneSetterModel_sound_66 ?_
        refine lv_iload hx hb d_TuneSetterModel_sound_67 (lv_at hl 4 rfl) ?_
        refine lv_iadd hx hb d_TuneSetterModel_sound_69 ?_
        obtain ⟨hin, h⟩ := h
        refine lR16 hx hb hK hP hin d_TuneSetterModel_sound_70 ?_
        refine lv_if_ge (tgt := 151) hx hb d_TuneSetterModel_sound_71 rfl (fun q => ?_) (fun q => ?_)
        · have h := h.1 q
          exact (j151 _ hk31 _ ih) y1 y2 y3 y4 I A _ _ _ h hP hS (lv_sub hl [0, 1, 2, 3, 4] rfl)
        · have h := h.2 q
          refine lv_aload_n hx hb d_TuneSetterModel_sound_74 rfl (lv_at hl 0 rfl) ?_
          refine gR_TuneSetterModel_notes hx hb hw hown hK hP (hw _ m_TuneSetterModel_97) d_TuneSetterModel_sound_75 ?_
          refine lv_bipush (v := 64) hx hb d_TuneSetterModel_sound_78 bp_64 ?_
          refine lv_icmp_ne (tgt := 86) hx hb d_TuneSetterModel_sound_80 rfl (fun q => ?_) (fun q => ?_)
          · have h := h.2 q
            refine lv_aload_n hx hb d_TuneSetterModel_sound_86 rfl (lv_at hl 0 rfl) ?_
            refine gR_TuneSetterModel_head hx hb hw hown hK hP (hw _ m_TuneSetterModel_69) d_TuneSetterModel_sound_87 ?_
            refine lv_iconst (v := 4) hx hb d_TuneSetterModel_sound_90 ic_4 ?_
            refine lv_iload_n hx hb d_TuneSetterModel_sound_91 rfl (lv_at hl 2 rfl) ?_
            refine lv_imul hx hb d_TuneSetterModel_sound_92 ?_
            refine lv_iload hx hb d_TuneSetterModel_sound_93 (lv_at hl 4 rfl) ?_
            refine lv_iadd hx hb d_TuneSetterModel_sound_95 ?_
            refine lv_aload_n hx hb d_TuneSetterModel_sound_96 rfl (lv_at hl 0 rfl) ?_
            refine gR_TuneSetterModel_notes hx hb hw hown hK hP (hw _ m_TuneSetterModel_97) d_TuneSetterModel_sound_97 ?_
            obtain ⟨hin, h⟩ := h
            refine sR16 hx hb hK hD hS hP hin d_TuneSetterModel_sound_100 (fun H locs hP hS => ?_)
            refine lv_aload_n hx hb d_TuneSetterModel_sound_101 rfl (lv_at hl 0 rfl) ?_
            refine gR_TuneSetterModel_onset hx hb hw hown hK hP (hw _ m_TuneSetterModel_60) d_TuneSetterModel_sound_102 ?_
            refine lv_aload_n hx hb d_TuneSetterModel_sound_105 rfl (lv_at hl 0 rfl) ?_
            refine gR_TuneSetterModel_notes hx hb hw hown hK hP (hw _ m_TuneSetterModel_97) d_TuneSetterModel_sound_106 ?_
            refine lv_iload_n hx hb d_TuneSetterModel_sound_109 rfl (lv_at hl 1 rfl) ?_
            obtain ⟨hin, h⟩ := h
            refine sR13 hx hb hK hD hS hP hin d_TuneSetterModel_sound_110 (fun H locs hP hS => ?_)
            refine lv_aload_n hx hb d_TuneSetterModel_sound_111 rfl (lv_at hl 0 rfl) ?_
            refine gR_TuneSetterModel_length hx hb hw hown hK hP (hw _ m_TuneSetterModel_63) d_TuneSetterModel_sound_112 ?_
            refine lv_aload_n hx hb d_TuneSetterModel_sound_115 rfl (lv_at hl 0 rfl) ?_
            refine gR_TuneSetterModel_notes hx hb hw hown hK hP (hw _ m_TuneSetterModel_97) d_TuneSetterModel_sound_116 ?_
            refine lv_iconst (v := 0) hx hb d_TuneSetterModel_sound_119 ic_0 ?_
            obtain ⟨hin, h⟩ := h
            refine sR14 hx hb hK hD hS hP hin d_TuneSetterModel_sound_120 (fun H locs hP hS => ?_)
            refine lv_aload_n hx hb d_TuneSetterModel_sound_121 rfl (lv_at hl 0 rfl) ?_
            refine gR_TuneSetterModel_tone hx hb hw hown hK hP (hw _ m_TuneSetterModel_66) d_TuneSetterModel_sound_122 ?_
            refine lv_aload_n hx hb d_TuneSetterModel_sound_125 rfl (lv_at hl 0 rfl) ?_
            refine gR_TuneSetterModel_notes hx hb hw hown hK hP (hw _ m_TuneSetterModel_97) d_TuneSetterModel_sound_126 ?_
            refine lv_aload_n hx hb d_TuneSetterModel_sound_129 rfl (lv_at hl 0 rfl) ?_
            refine gR_TuneSetterModel_pitch hx hb hw hown hK hP (hw _ m_TuneSetterModel_51) d_TuneSetterModel_sound_130 ?_
            refine lv_iconst (v := 4) hx hb d_TuneSetterModel_sound_133 ic_4 ?_
            refine lv_iload_n hx hb d_TuneSetterModel_sound_134 rfl (lv_at hl 3 rfl) ?_
            refine lv_imul hx hb d_TuneSetterModel_sound_135 ?_
            refine lv_iload hx hb d_TuneSetterModel_sound_136 (lv_at hl 4 rfl) ?_
            refine lv_iadd hx hb d_TuneSetterModel_sound_138 ?_
            obtain ⟨hin, h⟩ := h
            refine lR10 hx hb hK hP hin d_TuneSetterModel_sound_139 ?_
            obtain ⟨hin, h⟩ := h
            refine sR15 hx hb hK hD hS hP hin d_TuneSetterModel_sound_140 (fun H locs hP hS => ?_)
            refine lv_aload_n hx hb d_TuneSetterModel_sound_141 rfl (lv_at hl 0 rfl) ?_
            refine lv_dup hx hb d_TuneSetterModel_sound_142 rfl ?_
            refine gR_TuneSetterModel_notes hx hb hw hown hK hP (hw _ m_TuneSetterModel_97) d_TuneSetterModel_sound_143 ?_
            refine lv_iconst (v := 1) hx hb d_TuneSetterModel_sound_146 ic_1 ?_
            refine lv_iadd hx hb d_TuneSetterModel_sound_147 ?_
            refine pR_TuneSetterModel_notes hx hb hw hown hK hD hS hP (hw _ m_TuneSetterModel_97) d_TuneSetterModel_sound_148 (fun H locs hP hS => ?_)
            exact (j151 _ hk31 _ ih) y1 y2 y3 y4 (upd I 25 ((I 25) + 1)) (upd2 (upd2 (upd2 (upd2 A 16 ((((4 : Int32) * y2) + y4).toNatClampNeg) (I 25)) 13 ((I 25).toNatClampNeg) y1) 14 ((I 25).toNatClampNeg) 0) 15 ((I 25).toNatClampNeg) (A 10 ((((4 : Int32) * y3) + y4).toNatClampNeg))) _ _ _ h hP hS (lv_sub hl [0, 1, 2, 3, 4] rfl)
          · have h := h.1 q
            refine lv_bipush (v := (-7)) hx hb d_TuneSetterModel_sound_83 bp_m7 ?_
            exact W.iret hx hb hr (fun t ht hW => ⟨⟨_, (I, A), rfl, h, endR_of ht hP⟩, hS.F ht⟩) hS.2.2 d_TuneSetterModel_sound_85
  have j31 : ∀ n : Nat, ∀ (y1 : Int32) (y2 : Int32) (I : Nat → Int32) (A : Nat → Nat → Int32) (H : Heap) (locs : List Loc) (ls : Array Slot), wp_TuneSetterModel_sound_31 post n y1 y2 I A → va_P D cls (wR cA a I A) H → va_S (AR a s.heap.size) s.heap H locs → lv_has ls 5 [(0, .ref (a 0)), (1, .int y1), (2, .int y2)] → W p l e (headSpec w_TuneSetterModel_sound ({ frames := 1, cells := 0, slots := 0, locals := 26 })).room s m [.ref (a 0)].toArray below meth c H locs 0 0 (MQ below (va_Qi (fun r (u : StW) => post r u.1 u.2) (EndR D cA a) (AR a s.heap.size)) [.ref (a 0)].toArray s 0 0 (AR a s.heap.size)) (F0 m 31 ls []) := by
    intro n
    induction n with
    | zero =>
      intro y1 y2 I A H locs ls h hP hS hl
      exact False.elim h
    | succ n ih =>
      intro y1 y2 I A H locs ls h hP hS hl
      unfold wp_TuneSetterModel_sound_31 at h
      refine lv_iload_n hx hb d_TuneSetterModel_sound_31 rfl (lv_at hl 2 rfl) ?_
      refine lv_aload_n hx hb d_TuneSetterModel_sound_32 rfl (lv_at hl 0 rfl) ?_
      refine gR_TuneSetterModel_played hx hb hw hown hK hP (hw _ m_TuneSetterModel_250) d_TuneSetterModel_sound_33 ?_
      refine lv_icmp_ge (tgt := 223) hx hb d_TuneSetterModel_sound_36 rfl (fun q => ?_) (fun q => ?_)
      · have h := h.1 q
        refine lv_iconst (v := 0) hx hb d_TuneSetterModel_sound_223 ic_0 ?_
        exact W.iret hx hb hr (fun t ht hW => ⟨⟨_, (I, A), rfl, h, endR_of ht hP⟩, hS.F ht⟩) hS.2.2 d_TuneSetterModel_sound_224
      · have h := h.2 q
        refine lv_aload_n hx hb d_TuneSetterModel_sound_39 rfl (lv_at hl 0 rfl) ?_
        refine gR_TuneSetterModel_play hx hb hw hown hK hP (hw _ m_TuneSetterModel_57) d_TuneSetterModel_sound_40 ?_
        refine lv_iload_n hx hb d_TuneSetterModel_sound_43 rfl (lv_at hl 2 rfl) ?_
        obtain ⟨hin, h⟩ := h
        refine lR12 hx hb hK hP hin d_TuneSetterModel_sound_44 ?_
        refine lv_topi (fun v45 ev45 => ?_)
        have h := h v45 ev45
        refine lv_istore_n (lv' := [(3, .int v45), (0, .ref (a 0)), (1, .int y1), (2, .int y2)]) hx hb d_TuneSetterModel_sound_45 rfl hl (by decide) rfl (fun ls hl => ?_)
        refine lv_iconst (v := 0) hx hb d_TuneSetterModel_sound_46 ic_0 ?_
        refine lv_istore (lv' := [(4, .int 0), (3, .int v45), (0, .ref (a 0)), (1, .int y1), (2, .int y2)]) hx hb d_TuneSetterModel_sound_47 hl (by decide) rfl (fun ls hl => ?_)
        obtain ⟨n49, h⟩ := h
        exact (j49 _ ih) n49 y1 y2 v45 0 I A _ _ _ h hP hS (lv_sub hl [2, 3, 4, 1, 0] rfl)
  have j9 : ∀ n : Nat, ∀ (y1 : Int32) (y2 : Int32) (I : Nat → Int32) (A : Nat → Nat → Int32) (H : Heap) (locs : List Loc) (ls : Array Slot), wp_TuneSetterModel_sound_9 post n y1 y2 I A → va_P D cls (wR cA a I A) H → va_S (AR a s.heap.size) s.heap H locs → lv_has ls 5 [(0, .ref (a 0)), (1, .int y1), (2, .int y2)] → W p l e (headSpec w_TuneSetterModel_sound ({ frames := 1, cells := 0, slots := 0, locals := 26 })).room s m [.ref (a 0)].toArray below meth c H locs 0 0 (MQ below (va_Qi (fun r (u : StW) => post r u.1 u.2) (EndR D cA a) (AR a s.heap.size)) [.ref (a 0)].toArray s 0 0 (AR a s.heap.size)) (F0 m 9 ls []) := by
    intro n
    induction n with
    | zero =>
      intro y1 y2 I A H locs ls h hP hS hl
      exact False.elim h
    | succ n ih =>
      intro y1 y2 I A H locs ls h hP hS hl
      unfold wp_TuneSetterModel_sound_9 at h
      refine lv_iload_n hx hb d_TuneSetterModel_sound_9 rfl (lv_at hl 2 rfl) ?_
      refine lv_sipush (v := 384) hx hb d_TuneSetterModel_sound_10 sp_384 ?_
      refine lv_icmp_ge (tgt := 29) hx hb d_TuneSetterModel_sound_13 rfl (fun q => ?_) (fun q => ?_)
      · have h := h.1 q
        refine lv_iconst (v := 0) hx hb d_TuneSetterModel_sound_29 ic_0 ?_
        refine lv_istore_n (lv' := [(2, .int 0), (0, .ref (a 0)), (1, .int y1)]) hx hb d_TuneSetterModel_sound_30 rfl hl (by decide) rfl (fun ls hl => ?_)
        obtain ⟨n31, h⟩ := h
        exact j31 n31 y1 0 I A _ _ _ h hP hS (lv_sub hl [1, 2, 0] rfl)
      · have h := h.2 q
        refine lv_aload_n hx hb d_TuneSetterModel_sound_16 rfl (lv_at hl 0 rfl) ?_
        refine gR_TuneSetterModel_head hx hb hw hown hK hP (hw _ m_TuneSetterModel_69) d_TuneSetterModel_sound_17 ?_
        refine lv_iload_n hx hb d_TuneSetterModel_sound_20 rfl (lv_at hl 2 rfl) ?_
        refine lv_iconst (v := (-1)) hx hb d_TuneSetterModel_sound_21 ic_m1 ?_
        obtain ⟨hin, h⟩ := h
        refine sR16 hx hb hK hD hS hP hin d_TuneSetterModel_sound_22 (fun H locs hP hS => ?_)
        obtain ⟨v23, ev23⟩ : ∃ z : Int32, z = y2 + 1 := ⟨_, rfl⟩
        have h := h v23 ev23
        refine lv_iinc (k := 2) (v := v23) (lv' := [(2, .int v23), (0, .ref (a 0)), (1, .int y1)]) hx hb d_TuneSetterModel_sound_23 hl rfl (by rw [ev23, ic_1]) (by decide) rfl (fun ls hl => ?_)
        refine lv_goto (tgt := 9) hx hb d_TuneSetterModel_sound_26 rfl ?_
        exact ih y1 v23 I (upd2 A 16 (y2.toNatClampNeg) (-1)) _ _ _ h hP hS (lv_sub hl [1, 2, 0] rfl)
  have hl := lv_entry ([.ref (a 0)]) (n := 5) (Nat.le_of_ble_eq_true rfl)
  rw [lg_entry_eq]
  generalize (lg_sl ([.ref (a 0)]) ++ List.replicate (5 - (lg_sl ([.ref (a 0)])).length) Slot.unset).toArray = ls at hl ⊢
  have hl : lv_has ls 5 [(0, .ref (a 0))] := hl
  unfold wp_TuneSetterModel_sound at h
  refine lv_aload_n hx hb d_TuneSetterModel_sound_0 rfl (lv_at hl 0 rfl) ?_
  refine lv_iconst (v := 0) hx hb d_TuneSetterModel_sound_1 ic_0 ?_
  refine pR_TuneSetterModel_notes hx hb hw hown hK hD hS hP (hw _ m_TuneSetterModel_97) d_TuneSetterModel_sound_2 (fun H locs hP hS => ?_)
  refine lv_iconst (v := 0) hx hb d_TuneSetterModel_sound_5 ic_0 ?_
  refine lv_istore_n (lv' := [(1, .int 0), (0, .ref (a 0))]) hx hb d_TuneSetterModel_sound_6 rfl hl (by decide) rfl (fun ls hl => ?_)
  refine lv_iconst (v := 0) hx hb d_TuneSetterModel_sound_7 ic_0 ?_
  refine lv_istore_n (lv' := [(2, .int 0), (1, .int 0), (0, .ref (a 0))]) hx hb d_TuneSetterModel_sound_8 rfl hl (by decide) rfl (fun ls hl => ?_)
  obtain ⟨n9, h⟩ := h
  exact j9 n9 0 0 (upd I 25 0) A _ _ _ h hP hS (lv_sub hl [2, 1, 0] rfl)
theorem k_TuneSetterModel_sound {p : Program} {l : Launch} {e : Env} {R : Room} {s : State} {m : MethodId} {args : Array Value} {below : List Frame} {meth : Method} {c : Code} {H : Heap} {locs : List Loc} {cells slots : Nat} {Q : State → Prop} {cc : ByteArray} {pc nL idx : Nat} {own : String} {ls : Array Slot} {D : va_G} {cA a : Nat → Nat} {AA : Nat → Prop} {I : Nat → Int32} {A : Nat → Nat → Int32} {post : Int32 → (Nat → Int32) → (Nat → Nat → Int32) → Prop} {rest : List Value} (S : CallFix p m c cc nL s args WALL own) (hK : KR D cA a AA s) (hD : ∀ I A, va_D AA (wR cA a I A)) (hA : ∀ q : Nat, s.heap.size ≤ q → AA q) (hS : va_S AA s.heap H locs) (hP : va_P D cls (wR cA a I A) H) (hl1 : ls.size = nL) (hlink : (Cond.methodLink own idx y_TuneSetterModel_sound).before args s = true) (hst : (rest.map fun v => v.category).sum ≤ 8) (hR : ({ frames := 1, cells := 0, slots := 0, locals := 26 } : Room).frames + 1 ≤ R.frames ∧ 8 + (5 + 11) + ({ frames := 1, cells := 0, slots := 0, locals := 26 } : Room).locals ≤ R.locals) (hcs : cells ≤ R.cells ∧ slots ≤ R.slots) (hdg : decode cc pc = .ok (.invokevirtual idx, 3)) (h : wp_TuneSetterModel_sound I A post) (kk : ∀ (r : Int32) (I1 : Nat → Int32) (A1 : Nat → Nat → Int32) (H1 : Heap) (locs1 : List Loc), post r I1 A1 → va_P D cls (wR cA a I1 A1) H1 → va_S AA s.heap H1 locs1 → W p l e R s m args below meth c H1 locs1 cells slots Q (F0 m (pc + 3) ls (.int r :: rest))) : W p l e R s m args below meth c H locs cells slots Q (F0 m pc ls (.ref (a 0) :: rest)) :=
  va_calli (va_runV (As := []) (rest := rest) S (c_TuneSetterModel_sound l D cA a H.size I A post h) ⟨callB_of 0 S.2.2.2.2 g_TuneSetterModel_sound rfl rfl rfl (S.2.2.2.2 _ mi_TuneSetterModel) hlink ⟨by decide, by decide, by decide +kernel⟩ hR, S.2.2.2.2 _ mn_TuneSetterModel_sound, S.2.2.2.2 _ ms_TuneSetterModel_sound⟩ (preRV hK hD hA hS hP 0 rfl rfl) rfl rfl hl1 rfl (lv_room hst) hdg hcs) hS (fun q _ z => AR_le hD hA hS q z) (fun q z => AR_le hD hA hS q z) (fun r u t H1 locs1 ht _ hp hB _ _ hS1 => kk r u.1 u.2 H1 locs1 hp (of_endR ht hB) hS1)
def wp_TuneSetterModel_holds_2 (post : Int32 → (Nat → Int32) → (Nat → Nat → Int32) → Prop) : Nat → Int32 → (Nat → Int32) → (Nat → Nat → Int32) → Prop
  | 0, _, _, _ => False
  | n + 1, y2, I, A => (vp_in y2 8 ∧ (((A 3 (y2.toNatClampNeg)) = 0 → ((y2 ≤ 0 → (vp_in y2 8 ∧ post (A 3 (y2.toNatClampNeg)) I A)) ∧ (¬ y2 ≤ 0 → (vp_in y2 9 ∧ (((A 5 (y2.toNatClampNeg)) = 0 → (∀ v24 : Int32, v24 = y2 + (-1) → wp_TuneSetterModel_holds_2 post n v24 I A)) ∧ (¬ (A 5 (y2.toNatClampNeg)) = 0 → (vp_in y2 8 ∧ post (A 3 (y2.toNatClampNeg)) I A))))))) ∧ (¬ (A 3 (y2.toNatClampNeg)) = 0 → (vp_in y2 8 ∧ post (A 3 (y2.toNatClampNeg)) I A))))
def wp_TuneSetterModel_holds (x1 : Int32) (I : Nat → Int32) (A : Nat → Nat → Int32) (post : Int32 → (Nat → Int32) → (Nat → Nat → Int32) → Prop) : Prop := (∃ n2, wp_TuneSetterModel_holds_2 post n2 x1 I A)
theorem d_TuneSetterModel_holds_0 : decode b_TuneSetterModel_holds 0 = .ok (.iload_n 1, 1) := by decide +kernel
theorem d_TuneSetterModel_holds_1 : decode b_TuneSetterModel_holds 1 = .ok (.istore_n 2, 1) := by decide +kernel
theorem d_TuneSetterModel_holds_2 : decode b_TuneSetterModel_holds 2 = .ok (.aload_n 0, 1) := by decide +kernel
theorem d_TuneSetterModel_holds_3 : decode b_TuneSetterModel_holds 3 = .ok (.getfield 29, 3) := by decide +kernel
theorem d_TuneSetterModel_holds_6 : decode b_TuneSetterModel_holds 6 = .ok (.iload_n 2, 1) := by decide +kernel
theorem d_TuneSetterModel_holds_7 : decode b_TuneSetterModel_holds 7 = .ok (.iaload, 1) := by decide +kernel
theorem d_TuneSetterModel_holds_8 : decode b_TuneSetterModel_holds 8 = .ok (.ifCond .ne 22, 3) := by decide +kernel
theorem d_TuneSetterModel_holds_11 : decode b_TuneSetterModel_holds 11 = .ok (.iload_n 2, 1) := by decide +kernel
theorem d_TuneSetterModel_holds_12 : decode b_TuneSetterModel_holds 12 = .ok (.ifCond .le 18, 3) := by decide +kernel
theorem d_TuneSetterModel_holds_15 : decode b_TuneSetterModel_holds 15 = .ok (.aload_n 0, 1) := by decide +kernel
theorem d_TuneSetterModel_holds_16 : decode b_TuneSetterModel_holds 16 = .ok (.getfield 35, 3) := by decide +kernel
theorem d_TuneSetterModel_holds_19 : decode b_TuneSetterModel_holds 19 = .ok (.iload_n 2, 1) := by decide +kernel
theorem d_TuneSetterModel_holds_20 : decode b_TuneSetterModel_holds 20 = .ok (.iaload, 1) := by decide +kernel
theorem d_TuneSetterModel_holds_21 : decode b_TuneSetterModel_holds 21 = .ok (.ifCond .ne 9, 3) := by decide +kernel
theorem d_TuneSetterModel_holds_24 : decode b_TuneSetterModel_holds 24 = .ok (.iinc 2 (-1), 3) := by decide +kernel
theorem d_TuneSetterModel_holds_27 : decode b_TuneSetterModel_holds 27 = .ok (.goto (-25), 3) := by decide +kernel
theorem d_TuneSetterModel_holds_30 : decode b_TuneSetterModel_holds 30 = .ok (.aload_n 0, 1) := by decide +kernel
theorem d_TuneSetterModel_holds_31 : decode b_TuneSetterModel_holds 31 = .ok (.getfield 29, 3) := by decide +kernel
theorem d_TuneSetterModel_holds_34 : decode b_TuneSetterModel_holds 34 = .ok (.iload_n 2, 1) := by decide +kernel
theorem d_TuneSetterModel_holds_35 : decode b_TuneSetterModel_holds 35 = .ok (.iaload, 1) := by decide +kernel
theorem d_TuneSetterModel_holds_36 : decode b_TuneSetterModel_holds 36 = .ok (.ireturn, 1) := by decide +kernel
def w_TuneSetterModel_holds : List Cond := .code y_TuneSetterModel_holds b_TuneSetterModel_holds 3 (some .int) :: WALL
theorem g_TuneSetterModel_holds : GoodIn WALL w_TuneSetterModel_holds := good_of mc_TuneSetterModel_holds
set_option maxHeartbeats 4000000 in
set_option maxRecDepth 100000 in
theorem c_TuneSetterModel_holds (l : Launch) (D : va_G) (cA a : Nat → Nat) (sz : Nat) (x1 : Int32) (I : Nat → Int32) (A : Nat → Nat → Int32) (post : Int32 → (Nat → Int32) → (Nat → Nat → Int32) → Prop) (h : wp_TuneSetterModel_holds x1 I A post) : Met l y_TuneSetterModel_holds w_TuneSetterModel_holds ({ frames := 0, cells := 0, slots := 0, locals := 0 }) (va_Pc [.ref (a 0), .int x1] (PreR D cA a I A sz)) (va_Qi (fun r (u : StW) => post r u.1 u.2) (EndR D cA a) (AR a sz)) 0 0 (AR a sz) := by
  refine Met.ofW (cc := b_TuneSetterModel_holds) (maxL := 3) (ret := (some .int)) (by decide) rfl ?_
  intro p e s m args below meth c s₁ B hml hv
  obtain ⟨rfl, hsz, hP, hK, hD0⟩ := hv
  have hx := B.exec
  have hb := B.bytes
  have hr := B.returns
  have hts := atoms_spec (ws := w_TuneSetterModel_holds) B.pre
  have hw := wall_of hts
  have hown : s.vm.findClass R_TuneSetterModel = some m.cls := findClass_of_methodNamed B.named
  have hlocks := B.notSynchronized
  subst hsz
  have hD := hDR (sz := s.heap.size) hD0
  have hA : ∀ q : Nat, s.heap.size ≤ q → AR a s.heap.size q := fun q h => Or.inr h
  have hS : va_S (AR a s.heap.size) s.heap s.heap [] := va_S.rf
  have j2 : ∀ n : Nat, ∀ (y2 : Int32) (I : Nat → Int32) (A : Nat → Nat → Int32) (H : Heap) (locs : List Loc) (ls : Array Slot), wp_TuneSetterModel_holds_2 post n y2 I A → va_P D cls (wR cA a I A) H → va_S (AR a s.heap.size) s.heap H locs → lv_has ls 3 [(0, .ref (a 0)), (2, .int y2)] → W p l e (headSpec w_TuneSetterModel_holds ({ frames := 0, cells := 0, slots := 0, locals := 0 })).room s m [.ref (a 0), .int x1].toArray below meth c H locs 0 0 (MQ below (va_Qi (fun r (u : StW) => post r u.1 u.2) (EndR D cA a) (AR a s.heap.size)) [.ref (a 0), .int x1].toArray s 0 0 (AR a s.heap.size)) (F0 m 2 ls []) := by
    intro n
    induction n with
    | zero =>
      intro y2 I A H locs ls h hP hS hl
      exact False.elim h
    | succ n ih =>
      intro y2 I A H locs ls h hP hS hl
      unfold wp_TuneSetterModel_holds_2 at h
      refine lv_aload_n hx hb d_TuneSetterModel_holds_2 rfl (lv_at hl 0 rfl) ?_
      refine gR_TuneSetterModel_ending hx hb hw hown hK hP (hw _ m_TuneSetterModel_29) d_TuneSetterModel_holds_3 ?_
      refine lv_iload_n hx hb d_TuneSetterModel_holds_6 rfl (lv_at hl 1 rfl) ?_
      obtain ⟨hin, h⟩ := h
      refine lR3 hx hb hK hP hin d_TuneSetterModel_holds_7 ?_
      refine lv_if_ne (tgt := 30) hx hb d_TuneSetterModel_holds_8 rfl (fun q => ?_) (fun q => ?_)
      · have h := h.2 q
        refine lv_aload_n hx hb d_TuneSetterModel_holds_30 rfl (lv_at hl 0 rfl) ?_
        refine gR_TuneSetterModel_ending hx hb hw hown hK hP (hw _ m_TuneSetterModel_29) d_TuneSetterModel_holds_31 ?_
        refine lv_iload_n hx hb d_TuneSetterModel_holds_34 rfl (lv_at hl 1 rfl) ?_
        obtain ⟨hin, h⟩ := h
        refine lR3 hx hb hK hP hin d_TuneSetterModel_holds_35 ?_
        exact W.iret hx hb hr (fun t ht hW => ⟨⟨_, (I, A), rfl, h, endR_of ht hP⟩, hS.F ht⟩) hS.2.2 d_TuneSetterModel_holds_36
      · have h := h.1 q
        refine lv_iload_n hx hb d_TuneSetterModel_holds_11 rfl (lv_at hl 1 rfl) ?_
        refine lv_if_le (tgt := 30) hx hb d_TuneSetterModel_holds_12 rfl (fun q => ?_) (fun q => ?_)
        · have h := h.1 q
          refine lv_aload_n hx hb d_TuneSetterModel_holds_30 rfl (lv_at hl 0 rfl) ?_
          refine gR_TuneSetterModel_ending hx hb hw hown hK hP (hw _ m_TuneSetterModel_29) d_TuneSetterModel_holds_31 ?_
          refine lv_iload_n hx hb d_TuneSetterModel_holds_34 rfl (lv_at hl 1 rfl) ?_
          obtain ⟨hin, h⟩ := h
          refine lR3 hx hb hK hP hin d_TuneSetterModel_holds_35 ?_
          exact W.iret hx hb hr (fun t ht hW => ⟨⟨_, (I, A), rfl, h, endR_of ht hP⟩, hS.F ht⟩) hS.2.2 d_TuneSetterModel_holds_36
        · have h := h.2 q
          refine lv_aload_n hx hb d_TuneSetterModel_holds_15 rfl (lv_at hl 0 rfl) ?_
          refine gR_TuneSetterModel_line hx hb hw hown hK hP (hw _ m_TuneSetterModel_35) d_TuneSetterModel_holds_16 ?_
          refine lv_iload_n hx hb d_TuneSetterModel_holds_19 rfl (lv_at hl 1 rfl) ?_
          obtain ⟨hin, h⟩ := h
          refine lR5 hx hb hK hP hin d_TuneSetterModel_holds_20 ?_
          refine lv_if_ne (tgt := 30) hx hb d_TuneSetterModel_holds_21 rfl (fun q => ?_) (fun q => ?_)
          · have h := h.2 q
            refine lv_aload_n hx hb d_TuneSetterModel_holds_30 rfl (lv_at hl 0 rfl) ?_
            refine gR_TuneSetterModel_ending hx hb hw hown hK hP (hw _ m_TuneSetterModel_29) d_TuneSetterModel_holds_31 ?_
            refine lv_iload_n hx hb d_TuneSetterModel_holds_34 rfl (lv_at hl 1 rfl) ?_
            obtain ⟨hin, h⟩ := h
            refine lR3 hx hb hK hP hin d_TuneSetterModel_holds_35 ?_
            exact W.iret hx hb hr (fun t ht hW => ⟨⟨_, (I, A), rfl, h, endR_of ht hP⟩, hS.F ht⟩) hS.2.2 d_TuneSetterModel_holds_36
          · have h := h.1 q
            obtain ⟨v24, ev24⟩ : ∃ z : Int32, z = y2 + (-1) := ⟨_, rfl⟩
            have h := h v24 ev24
            refine lv_iinc (k := 1) (v := v24) (lv' := [(2, .int v24), (0, .ref (a 0))]) hx hb d_TuneSetterModel_holds_24 hl rfl (by rw [ev24, ic_m1]) (by decide) rfl (fun ls hl => ?_)
            refine lv_goto (tgt := 2) hx hb d_TuneSetterModel_holds_27 rfl ?_
            exact ih v24 I A _ _ _ h hP hS (lv_sub hl [1, 0] rfl)
  have hl := lv_entry ([.ref (a 0), .int x1]) (n := 3) (Nat.le_of_ble_eq_true rfl)
  rw [lg_entry_eq]
  generalize (lg_sl ([.ref (a 0), .int x1]) ++ List.replicate (3 - (lg_sl ([.ref (a 0), .int x1])).length) Slot.unset).toArray = ls at hl ⊢
  have hl : lv_has ls 3 [(0, .ref (a 0)), (1, .int x1)] := hl
  unfold wp_TuneSetterModel_holds at h
  refine lv_iload_n hx hb d_TuneSetterModel_holds_0 rfl (lv_at hl 1 rfl) ?_
  refine lv_istore_n (lv' := [(2, .int x1), (0, .ref (a 0)), (1, .int x1)]) hx hb d_TuneSetterModel_holds_1 rfl hl (by decide) rfl (fun ls hl => ?_)
  obtain ⟨n2, h⟩ := h
  exact j2 n2 x1 I A _ _ _ h hP hS (lv_sub hl [1, 0] rfl)
theorem k_TuneSetterModel_holds {p : Program} {l : Launch} {e : Env} {R : Room} {s : State} {m : MethodId} {args : Array Value} {below : List Frame} {meth : Method} {c : Code} {H : Heap} {locs : List Loc} {cells slots : Nat} {Q : State → Prop} {cc : ByteArray} {pc nL idx : Nat} {own : String} {ls : Array Slot} {D : va_G} {cA a : Nat → Nat} {AA : Nat → Prop} {I : Nat → Int32} {A : Nat → Nat → Int32} {post : Int32 → (Nat → Int32) → (Nat → Nat → Int32) → Prop} (x1 : Int32) {rest : List Value} (S : CallFix p m c cc nL s args WALL own) (hK : KR D cA a AA s) (hD : ∀ I A, va_D AA (wR cA a I A)) (hA : ∀ q : Nat, s.heap.size ≤ q → AA q) (hS : va_S AA s.heap H locs) (hP : va_P D cls (wR cA a I A) H) (hl1 : ls.size = nL) (hlink : (Cond.methodLink own idx y_TuneSetterModel_holds).before args s = true) (hst : (rest.map fun v => v.category).sum ≤ 8) (hR : ({ frames := 0, cells := 0, slots := 0, locals := 0 } : Room).frames + 1 ≤ R.frames ∧ 8 + (3 + 11) + ({ frames := 0, cells := 0, slots := 0, locals := 0 } : Room).locals ≤ R.locals) (hcs : cells ≤ R.cells ∧ slots ≤ R.slots) (hdg : decode cc pc = .ok (.invokevirtual idx, 3)) (h : wp_TuneSetterModel_holds x1 I A post) (kk : ∀ (r : Int32) (I1 : Nat → Int32) (A1 : Nat → Nat → Int32) (H1 : Heap) (locs1 : List Loc), post r I1 A1 → va_P D cls (wR cA a I1 A1) H1 → va_S AA s.heap H1 locs1 → W p l e R s m args below meth c H1 locs1 cells slots Q (F0 m (pc + 3) ls (.int r :: rest))) : W p l e R s m args below meth c H locs cells slots Q (F0 m pc ls (.int x1 :: .ref (a 0) :: rest)) :=
  va_calli (va_runV (As := [.int x1]) (rest := rest) S (c_TuneSetterModel_holds l D cA a H.size x1 I A post h) ⟨callB_of 1 S.2.2.2.2 g_TuneSetterModel_holds rfl rfl rfl (S.2.2.2.2 _ mi_TuneSetterModel) hlink ⟨by decide, by decide, by decide +kernel⟩ hR, S.2.2.2.2 _ mn_TuneSetterModel_holds, S.2.2.2.2 _ ms_TuneSetterModel_holds⟩ (preRV hK hD hA hS hP 0 rfl rfl) rfl rfl hl1 rfl (lv_room hst) hdg hcs) hS (fun q _ z => AR_le hD hA hS q z) (fun q z => AR_le hD hA hS q z) (fun r u t H1 locs1 ht _ hp hB _ _ hS1 => kk r u.1 u.2 H1 locs1 hp (of_endR ht hB) hS1)
def wp_TuneSetterModel_playBar_33 (post : (Nat → Int32) → (Nat → Nat → Int32) → Prop) : Nat → Int32 → Int32 → (Nat → Int32) → (Nat → Nat → Int32) → Prop
  | 0, _, _, _, _ => False
  | n + 1, y2, y3, I, A => ((y2 ≤ y3 → post I A) ∧ (¬ y2 ≤ y3 → (vp_in (I 24) 96 ∧ (∀ v58 : Int32, v58 = y3 + 1 → wp_TuneSetterModel_playBar_33 post n y2 v58 (upd I 24 ((I 24) + 1)) (upd2 A 12 ((I 24).toNatClampNeg) y3)))))
def wp_TuneSetterModel_playBar (x1 : Int32) (I : Nat → Int32) (A : Nat → Nat → Int32) (post : (Nat → Int32) → (Nat → Nat → Int32) → Prop) : Prop := (((I 5) ≤ (x1 + 1) → (∀ v25 : Int32, v25 = (I 8) → (vp_in x1 9 ∧ (∀ v32 : Int32, v32 = (A 2 (x1.toNatClampNeg)) → (∃ n33, wp_TuneSetterModel_playBar_33 post n33 v25 v32 I A))))) ∧ (¬ (I 5) ≤ (x1 + 1) → (vp_in (x1 + 1) 9 ∧ (∀ v25 : Int32, v25 = (A 2 ((x1 + 1).toNatClampNeg)) → (vp_in x1 9 ∧ (∀ v32 : Int32, v32 = (A 2 (x1.toNatClampNeg)) → (∃ n33, wp_TuneSetterModel_playBar_33 post n33 v25 v32 I A)))))))
theorem d_TuneSetterModel_playBar_0 : decode b_TuneSetterModel_playBar 0 = .ok (.iload_n 1, 1) := by decide +kernel
theorem d_TuneSetterModel_playBar_1 : decode b_TuneSetterModel_playBar 1 = .ok (.iconst 1, 1) := by decide +kernel
theorem d_TuneSetterModel_playBar_2 : decode b_TuneSetterModel_playBar 2 = .ok (.iadd, 1) := by decide +kernel
theorem d_TuneSetterModel_playBar_3 : decode b_TuneSetterModel_playBar 3 = .ok (.aload_n 0, 1) := by decide +kernel
theorem d_TuneSetterModel_playBar_4 : decode b_TuneSetterModel_playBar 4 = .ok (.getfield 87, 3) := by decide +kernel
theorem d_TuneSetterModel_playBar_7 : decode b_TuneSetterModel_playBar 7 = .ok (.if_icmp .ge 14, 3) := by decide +kernel
theorem d_TuneSetterModel_playBar_10 : decode b_TuneSetterModel_playBar 10 = .ok (.aload_n 0, 1) := by decide +kernel
theorem d_TuneSetterModel_playBar_11 : decode b_TuneSetterModel_playBar 11 = .ok (.getfield 26, 3) := by decide +kernel
theorem d_TuneSetterModel_playBar_14 : decode b_TuneSetterModel_playBar 14 = .ok (.iload_n 1, 1) := by decide +kernel
theorem d_TuneSetterModel_playBar_15 : decode b_TuneSetterModel_playBar 15 = .ok (.iconst 1, 1) := by decide +kernel
theorem d_TuneSetterModel_playBar_16 : decode b_TuneSetterModel_playBar 16 = .ok (.iadd, 1) := by decide +kernel
theorem d_TuneSetterModel_playBar_17 : decode b_TuneSetterModel_playBar 17 = .ok (.iaload, 1) := by decide +kernel
theorem d_TuneSetterModel_playBar_18 : decode b_TuneSetterModel_playBar 18 = .ok (.goto 7, 3) := by decide +kernel
theorem d_TuneSetterModel_playBar_21 : decode b_TuneSetterModel_playBar 21 = .ok (.aload_n 0, 1) := by decide +kernel
theorem d_TuneSetterModel_playBar_22 : decode b_TuneSetterModel_playBar 22 = .ok (.getfield 90, 3) := by decide +kernel
theorem d_TuneSetterModel_playBar_25 : decode b_TuneSetterModel_playBar 25 = .ok (.istore_n 2, 1) := by decide +kernel
theorem d_TuneSetterModel_playBar_26 : decode b_TuneSetterModel_playBar 26 = .ok (.aload_n 0, 1) := by decide +kernel
theorem d_TuneSetterModel_playBar_27 : decode b_TuneSetterModel_playBar 27 = .ok (.getfield 26, 3) := by decide +kernel
theorem d_TuneSetterModel_playBar_30 : decode b_TuneSetterModel_playBar 30 = .ok (.iload_n 1, 1) := by decide +kernel
theorem d_TuneSetterModel_playBar_31 : decode b_TuneSetterModel_playBar 31 = .ok (.iaload, 1) := by decide +kernel
theorem d_TuneSetterModel_playBar_32 : decode b_TuneSetterModel_playBar 32 = .ok (.istore_n 3, 1) := by decide +kernel
theorem d_TuneSetterModel_playBar_33 : decode b_TuneSetterModel_playBar 33 = .ok (.iload_n 3, 1) := by decide +kernel
theorem d_TuneSetterModel_playBar_34 : decode b_TuneSetterModel_playBar 34 = .ok (.iload_n 2, 1) := by decide +kernel
theorem d_TuneSetterModel_playBar_35 : decode b_TuneSetterModel_playBar 35 = .ok (.if_icmp .ge 29, 3) := by decide +kernel
theorem d_TuneSetterModel_playBar_38 : decode b_TuneSetterModel_playBar 38 = .ok (.aload_n 0, 1) := by decide +kernel
theorem d_TuneSetterModel_playBar_39 : decode b_TuneSetterModel_playBar 39 = .ok (.getfield 57, 3) := by decide +kernel
theorem d_TuneSetterModel_playBar_42 : decode b_TuneSetterModel_playBar 42 = .ok (.aload_n 0, 1) := by decide +kernel
theorem d_TuneSetterModel_playBar_43 : decode b_TuneSetterModel_playBar 43 = .ok (.getfield 250, 3) := by decide +kernel
theorem d_TuneSetterModel_playBar_46 : decode b_TuneSetterModel_playBar 46 = .ok (.iload_n 3, 1) := by decide +kernel
theorem d_TuneSetterModel_playBar_47 : decode b_TuneSetterModel_playBar 47 = .ok (.iastore, 1) := by decide +kernel
theorem d_TuneSetterModel_playBar_48 : decode b_TuneSetterModel_playBar 48 = .ok (.aload_n 0, 1) := by decide +kernel
theorem d_TuneSetterModel_playBar_49 : decode b_TuneSetterModel_playBar 49 = .ok (.dup, 1) := by decide +kernel
theorem d_TuneSetterModel_playBar_50 : decode b_TuneSetterModel_playBar 50 = .ok (.getfield 250, 3) := by decide +kernel
theorem d_TuneSetterModel_playBar_53 : decode b_TuneSetterModel_playBar 53 = .ok (.iconst 1, 1) := by decide +kernel
theorem d_TuneSetterModel_playBar_54 : decode b_TuneSetterModel_playBar 54 = .ok (.iadd, 1) := by decide +kernel
theorem d_TuneSetterModel_playBar_55 : decode b_TuneSetterModel_playBar 55 = .ok (.putfield 250, 3) := by decide +kernel
theorem d_TuneSetterModel_playBar_58 : decode b_TuneSetterModel_playBar 58 = .ok (.iinc 3 1, 3) := by decide +kernel
theorem d_TuneSetterModel_playBar_61 : decode b_TuneSetterModel_playBar 61 = .ok (.goto (-28), 3) := by decide +kernel
theorem d_TuneSetterModel_playBar_64 : decode b_TuneSetterModel_playBar 64 = .ok (.return_, 1) := by decide +kernel
def w_TuneSetterModel_playBar : List Cond := .code y_TuneSetterModel_playBar b_TuneSetterModel_playBar 4 none :: WALL
theorem g_TuneSetterModel_playBar : GoodIn WALL w_TuneSetterModel_playBar := good_of mc_TuneSetterModel_playBar
set_option maxHeartbeats 4000000 in
set_option maxRecDepth 100000 in
theorem c_TuneSetterModel_playBar (l : Launch) (D : va_G) (cA a : Nat → Nat) (sz : Nat) (x1 : Int32) (I : Nat → Int32) (A : Nat → Nat → Int32) (post : (Nat → Int32) → (Nat → Nat → Int32) → Prop) (h : wp_TuneSetterModel_playBar x1 I A post) : Met l y_TuneSetterModel_playBar w_TuneSetterModel_playBar ({ frames := 0, cells := 0, slots := 0, locals := 0 }) (va_Pc [.ref (a 0), .int x1] (PreR D cA a I A sz)) (va_Qv (fun (u : StW) => post u.1 u.2) (EndR D cA a) (AR a sz)) 0 0 (AR a sz) := by
  refine Met.ofW (cc := b_TuneSetterModel_playBar) (maxL := 4) (ret := none) (by decide) rfl ?_
  intro p e s m args below meth c s₁ B hml hv
  obtain ⟨rfl, hsz, hP, hK, hD0⟩ := hv
  have hx := B.exec
  have hb := B.bytes
  have hr := B.returns
  have hts := atoms_spec (ws := w_TuneSetterModel_playBar) B.pre
  have hw := wall_of hts
  have hown : s.vm.findClass R_TuneSetterModel = some m.cls := findClass_of_methodNamed B.named
  have hlocks := B.notSynchronized
  subst hsz
  have hD := hDR (sz := s.heap.size) hD0
  have hA : ∀ q : Nat, s.heap.size ≤ q → AR a s.heap.size q := fun q h => Or.inr h
  have hS : va_S (AR a s.heap.size) s.heap s.heap [] := va_S.rf
  have j33 : ∀ n : Nat, ∀ (y2 : Int32) (y3 : Int32) (I : Nat → Int32) (A : Nat → Nat → Int32) (H : Heap) (locs : List Loc) (ls : Array Slot), wp_TuneSetterModel_playBar_33 post n y2 y3 I A → va_P D cls (wR cA a I A) H → va_S (AR a s.heap.size) s.heap H locs → lv_has ls 4 [(0, .ref (a 0)), (2, .int y2), (3, .int y3)] → W p l e (headSpec w_TuneSetterModel_playBar ({ frames := 0, cells := 0, slots := 0, locals := 0 })).room s m [.ref (a 0), .int x1].toArray below meth c H locs 0 0 (MQ below (va_Qv (fun (u : StW) => post u.1 u.2) (EndR D cA a) (AR a s.heap.size)) [.ref (a 0), .int x1].toArray s 0 0 (AR a s.heap.size)) (F0 m 33 ls []) := by
    intro n
    induction n with
    | zero =>
      intro y2 y3 I A H locs ls h hP hS hl
      exact False.elim h
    | succ n ih =>
      intro y2 y3 I A H locs ls h hP hS hl
      unfold wp_TuneSetterModel_playBar_33 at h
      refine lv_iload_n hx hb d_TuneSetterModel_playBar_33 rfl (lv_at hl 2 rfl) ?_
      refine lv_iload_n hx hb d_TuneSetterModel_playBar_34 rfl (lv_at hl 1 rfl) ?_
      refine lv_icmp_ge (tgt := 64) hx hb d_TuneSetterModel_playBar_35 rfl (fun q => ?_) (fun q => ?_)
      · have h := h.1 q
        exact W.vret hx hb hr (fun t ht hW => ⟨⟨(I, A), rfl, h, endR_of ht hP⟩, hS.F ht⟩) hS.2.2 d_TuneSetterModel_playBar_64
      · have h := h.2 q
        refine lv_aload_n hx hb d_TuneSetterModel_playBar_38 rfl (lv_at hl 0 rfl) ?_
        refine gR_TuneSetterModel_play hx hb hw hown hK hP (hw _ m_TuneSetterModel_57) d_TuneSetterModel_playBar_39 ?_
        refine lv_aload_n hx hb d_TuneSetterModel_playBar_42 rfl (lv_at hl 0 rfl) ?_
        refine gR_TuneSetterModel_played hx hb hw hown hK hP (hw _ m_TuneSetterModel_250) d_TuneSetterModel_playBar_43 ?_
        refine lv_iload_n hx hb d_TuneSetterModel_playBar_46 rfl (lv_at hl 2 rfl) ?_
        obtain ⟨hin, h⟩ := h
        refine sR12 hx hb hK hD hS hP hin d_TuneSetterModel_playBar_47 (fun H locs hP hS => ?_)
        refine lv_aload_n hx hb d_TuneSetterModel_playBar_48 rfl (lv_at hl 0 rfl) ?_
        refine lv_dup hx hb d_TuneSetterModel_playBar_49 rfl ?_
        refine gR_TuneSetterModel_played hx hb hw hown hK hP (hw _ m_TuneSetterModel_250) d_TuneSetterModel_playBar_50 ?_
        refine lv_iconst (v := 1) hx hb d_TuneSetterModel_playBar_53 ic_1 ?_
        refine lv_iadd hx hb d_TuneSetterModel_playBar_54 ?_
        refine pR_TuneSetterModel_played hx hb hw hown hK hD hS hP (hw _ m_TuneSetterModel_250) d_TuneSetterModel_playBar_55 (fun H locs hP hS => ?_)
        obtain ⟨v58, ev58⟩ : ∃ z : Int32, z = y3 + 1 := ⟨_, rfl⟩
        have h := h v58 ev58
        refine lv_iinc (k := 2) (v := v58) (lv' := [(3, .int v58), (0, .ref (a 0)), (2, .int y2)]) hx hb d_TuneSetterModel_playBar_58 hl rfl (by rw [ev58, ic_1]) (by decide) rfl (fun ls hl => ?_)
        refine lv_goto (tgt := 33) hx hb d_TuneSetterModel_playBar_61 rfl ?_
        exact ih y2 v58 (upd I 24 ((I 24) + 1)) (upd2 A 12 ((I 24).toNatClampNeg) y3) _ _ _ h hP hS (lv_sub hl [1, 2, 0] rfl)
  have hl := lv_entry ([.ref (a 0), .int x1]) (n := 4) (Nat.le_of_ble_eq_true rfl)
  rw [lg_entry_eq]
  generalize (lg_sl ([.ref (a 0), .int x1]) ++ List.replicate (4 - (lg_sl ([.ref (a 0), .int x1])).length) Slot.unset).toArray = ls at hl ⊢
  have hl : lv_has ls 4 [(0, .ref (a 0)), (1, .int x1)] := hl
  unfold wp_TuneSetterModel_playBar at h
  refine lv_iload_n hx hb d_TuneSetterModel_playBar_0 rfl (lv_at hl 1 rfl) ?_
  refine lv_iconst (v := 1) hx hb d_TuneSetterModel_playBar_1 ic_1 ?_
  refine lv_iadd hx hb d_TuneSetterModel_playBar_2 ?_
  refine lv_aload_n hx hb d_TuneSetterModel_playBar_3 rfl (lv_at hl 0 rfl) ?_
  refine gR_TuneSetterModel_bars hx hb hw hown hK hP (hw _ m_TuneSetterModel_87) d_TuneSetterModel_playBar_4 ?_
  refine lv_icmp_ge (tgt := 21) hx hb d_TuneSetterModel_playBar_7 rfl (fun q => ?_) (fun q => ?_)
  · have h := h.1 q
    refine lv_aload_n hx hb d_TuneSetterModel_playBar_21 rfl (lv_at hl 0 rfl) ?_
    refine gR_TuneSetterModel_items hx hb hw hown hK hP (hw _ m_TuneSetterModel_90) d_TuneSetterModel_playBar_22 ?_
    refine lv_topi (fun v25 ev25 => ?_)
    have h := h v25 ev25
    refine lv_istore_n (lv' := [(2, .int v25), (0, .ref (a 0)), (1, .int x1)]) hx hb d_TuneSetterModel_playBar_25 rfl hl (by decide) rfl (fun ls hl => ?_)
    refine lv_aload_n hx hb d_TuneSetterModel_playBar_26 rfl (lv_at hl 1 rfl) ?_
    refine gR_TuneSetterModel_firstItem hx hb hw hown hK hP (hw _ m_TuneSetterModel_26) d_TuneSetterModel_playBar_27 ?_
    refine lv_iload_n hx hb d_TuneSetterModel_playBar_30 rfl (lv_at hl 2 rfl) ?_
    obtain ⟨hin, h⟩ := h
    refine lR2 hx hb hK hP hin d_TuneSetterModel_playBar_31 ?_
    refine lv_topi (fun v32 ev32 => ?_)
    have h := h v32 ev32
    refine lv_istore_n (lv' := [(3, .int v32), (2, .int v25), (0, .ref (a 0)), (1, .int x1)]) hx hb d_TuneSetterModel_playBar_32 rfl hl (by decide) rfl (fun ls hl => ?_)
    obtain ⟨n33, h⟩ := h
    exact j33 n33 v25 v32 I A _ _ _ h hP hS (lv_sub hl [2, 1, 0] rfl)
  · have h := h.2 q
    refine lv_aload_n hx hb d_TuneSetterModel_playBar_10 rfl (lv_at hl 0 rfl) ?_
    refine gR_TuneSetterModel_firstItem hx hb hw hown hK hP (hw _ m_TuneSetterModel_26) d_TuneSetterModel_playBar_11 ?_
    refine lv_iload_n hx hb d_TuneSetterModel_playBar_14 rfl (lv_at hl 1 rfl) ?_
    refine lv_iconst (v := 1) hx hb d_TuneSetterModel_playBar_15 ic_1 ?_
    refine lv_iadd hx hb d_TuneSetterModel_playBar_16 ?_
    obtain ⟨hin, h⟩ := h
    refine lR2 hx hb hK hP hin d_TuneSetterModel_playBar_17 ?_
    refine lv_goto (tgt := 25) hx hb d_TuneSetterModel_playBar_18 rfl ?_
    refine lv_topi (fun v25 ev25 => ?_)
    have h := h v25 ev25
    refine lv_istore_n (lv' := [(2, .int v25), (0, .ref (a 0)), (1, .int x1)]) hx hb d_TuneSetterModel_playBar_25 rfl hl (by decide) rfl (fun ls hl => ?_)
    refine lv_aload_n hx hb d_TuneSetterModel_playBar_26 rfl (lv_at hl 1 rfl) ?_
    refine gR_TuneSetterModel_firstItem hx hb hw hown hK hP (hw _ m_TuneSetterModel_26) d_TuneSetterModel_playBar_27 ?_
    refine lv_iload_n hx hb d_TuneSetterModel_playBar_30 rfl (lv_at hl 2 rfl) ?_
    obtain ⟨hin, h⟩ := h
    refine lR2 hx hb hK hP hin d_TuneSetterModel_playBar_31 ?_
    refine lv_topi (fun v32 ev32 => ?_)
    have h := h v32 ev32
    refine lv_istore_n (lv' := [(3, .int v32), (2, .int v25), (0, .ref (a 0)), (1, .int x1)]) hx hb d_TuneSetterModel_playBar_32 rfl hl (by decide) rfl (fun ls hl => ?_)
    obtain ⟨n33, h⟩ := h
    exact j33 n33 v25 v32 I A _ _ _ h hP hS (lv_sub hl [2, 1, 0] rfl)
theorem k_TuneSetterModel_playBar {p : Program} {l : Launch} {e : Env} {R : Room} {s : State} {m : MethodId} {args : Array Value} {below : List Frame} {meth : Method} {c : Code} {H : Heap} {locs : List Loc} {cells slots : Nat} {Q : State → Prop} {cc : ByteArray} {pc nL idx : Nat} {own : String} {ls : Array Slot} {D : va_G} {cA a : Nat → Nat} {AA : Nat → Prop} {I : Nat → Int32} {A : Nat → Nat → Int32} {post : (Nat → Int32) → (Nat → Nat → Int32) → Prop} (x1 : Int32) {rest : List Value} (S : CallFix p m c cc nL s args WALL own) (hK : KR D cA a AA s) (hD : ∀ I A, va_D AA (wR cA a I A)) (hA : ∀ q : Nat, s.heap.size ≤ q → AA q) (hS : va_S AA s.heap H locs) (hP : va_P D cls (wR cA a I A) H) (hl1 : ls.size = nL) (hlink : (Cond.methodLink own idx y_TuneSetterModel_playBar).before args s = true) (hst : (rest.map fun v => v.category).sum ≤ 8) (hR : ({ frames := 0, cells := 0, slots := 0, locals := 0 } : Room).frames + 1 ≤ R.frames ∧ 8 + (4 + 11) + ({ frames := 0, cells := 0, slots := 0, locals := 0 } : Room).locals ≤ R.locals) (hcs : cells ≤ R.cells ∧ slots ≤ R.slots) (hdg : decode cc pc = .ok (.invokevirtual idx, 3)) (h : wp_TuneSetterModel_playBar x1 I A post) (kk : ∀ (I1 : Nat → Int32) (A1 : Nat → Nat → Int32) (H1 : Heap) (locs1 : List Loc), post I1 A1 → va_P D cls (wR cA a I1 A1) H1 → va_S AA s.heap H1 locs1 → W p l e R s m args below meth c H1 locs1 cells slots Q (F0 m (pc + 3) ls rest)) : W p l e R s m args below meth c H locs cells slots Q (F0 m pc ls (.int x1 :: .ref (a 0) :: rest)) :=
  va_callv (va_runV (As := [.int x1]) (rest := rest) S (c_TuneSetterModel_playBar l D cA a H.size x1 I A post h) ⟨callB_of 1 S.2.2.2.2 g_TuneSetterModel_playBar rfl rfl rfl (S.2.2.2.2 _ mi_TuneSetterModel) hlink ⟨by decide, by decide, by decide +kernel⟩ hR, S.2.2.2.2 _ mn_TuneSetterModel_playBar, S.2.2.2.2 _ ms_TuneSetterModel_playBar⟩ (preRV hK hD hA hS hP 0 rfl rfl) rfl rfl hl1 rfl (lv_room hst) hdg hcs) hS (fun q _ z => AR_le hD hA hS q z) (fun q z => AR_le hD hA hS q z) (fun u t H1 locs1 ht _ hp hB _ _ hS1 => kk u.1 u.2 H1 locs1 hp (of_endR ht hB) hS1)
def wp_TuneSetterModel_perform_121 (k11 : Int32 → Int32 → Int32 → (Nat → Int32) → (Nat → Nat → Int32) → Prop) (post : Int32 → (Nat → Int32) → (Nat → Nat → Int32) → Prop) (y1 : Int32) (y2 : Int32) (y3 : Int32) (y4 : Int32) (I : Nat → Int32) (A : Nat → Nat → Int32) : Prop := (∀ v121 : Int32, v121 = y1 + 1 → ((y4 = 0 → ((y4 = 0 → k11 v121 y2 y3 I A) ∧ (¬ y4 = 0 → k11 v121 y2 1 I A))) ∧ (¬ y4 = 0 → ((y4 = 0 → k11 v121 v121 y3 I A) ∧ (¬ y4 = 0 → k11 v121 v121 1 I A)))))
def wp_TuneSetterModel_perform_99 (k11 : Int32 → Int32 → Int32 → (Nat → Int32) → (Nat → Nat → Int32) → Prop) (post : Int32 → (Nat → Int32) → (Nat → Nat → Int32) → Prop) (y1 : Int32) (y2 : Int32) (y3 : Int32) (y4 : Int32) (I : Nat → Int32) (A : Nat → Nat → Int32) : Prop := (wp_TuneSetterModel_playBar y1 I A (fun I101 A101 => ((y4 = 0 → wp_TuneSetterModel_perform_121 k11 post y1 y2 y3 y4 I101 A101) ∧ (¬ y4 = 0 → ((y3 = 1 → k11 y2 y2 2 I101 A101) ∧ (¬ y3 = 1 → wp_TuneSetterModel_perform_121 k11 post y1 y2 y3 y4 I101 A101))))))
def wp_TuneSetterModel_perform_77 (k11 : Int32 → Int32 → Int32 → (Nat → Int32) → (Nat → Nat → Int32) → Prop) (post : Int32 → (Nat → Int32) → (Nat → Nat → Int32) → Prop) (y1 : Int32) (y2 : Int32) (y3 : Int32) (s0 : Int32) (I : Nat → Int32) (A : Nat → Nat → Int32) : Prop := (wp_TuneSetterModel_holds y1 I A (fun r81 I81 A81 => ((r81 = 1 → ((y3 = 2 → (∀ v93 : Int32, v93 = y1 + 1 → k11 v93 y2 y3 I81 A81)) ∧ (¬ y3 = 2 → wp_TuneSetterModel_perform_99 k11 post y1 y2 y3 s0 I81 A81))) ∧ (¬ r81 = 1 → wp_TuneSetterModel_perform_99 k11 post y1 y2 y3 s0 I81 A81))))
def wp_TuneSetterModel_perform_48 (k11 : Int32 → Int32 → Int32 → (Nat → Int32) → (Nat → Nat → Int32) → Prop) (post : Int32 → (Nat → Int32) → (Nat → Nat → Int32) → Prop) (y1 : Int32) (y2 : Int32) (y3 : Int32) (I : Nat → Int32) (A : Nat → Nat → Int32) : Prop := (vp_in (y1 + 1) 9 ∧ (((A 5 ((y1 + 1).toNatClampNeg)) = 3 → wp_TuneSetterModel_perform_77 k11 post y1 y2 y3 1 I A) ∧ (¬ (A 5 ((y1 + 1).toNatClampNeg)) = 3 → (vp_in (y1 + 1) 9 ∧ (((A 5 ((y1 + 1).toNatClampNeg)) = 4 → wp_TuneSetterModel_perform_77 k11 post y1 y2 y3 1 I A) ∧ (¬ (A 5 ((y1 + 1).toNatClampNeg)) = 4 → wp_TuneSetterModel_perform_77 k11 post y1 y2 y3 0 I A))))))
def wp_TuneSetterModel_perform_11 (post : Int32 → (Nat → Int32) → (Nat → Nat → Int32) → Prop) : Nat → Int32 → Int32 → Int32 → (Nat → Int32) → (Nat → Nat → Int32) → Prop
  | 0, _, _, _, _, _ => False
  | n + 1, y1, y2, y3, I, A => (((I 5) ≤ y1 → (wp_TuneSetterModel_sound I A (fun r150 I150 A150 => post r150 I150 A150))) ∧ (¬ (I 5) ≤ y1 → (vp_in y1 9 ∧ (((A 5 (y1.toNatClampNeg)) = 2 → ((y1 = y2 → wp_TuneSetterModel_perform_48 (fun y1 y2 y3 I A => wp_TuneSetterModel_perform_11 post n y1 y2 y3 I A) post y1 y2 y3 I A) ∧ (¬ y1 = y2 → wp_TuneSetterModel_perform_48 (fun y1 y2 y3 I A => wp_TuneSetterModel_perform_11 post n y1 y2 y3 I A) post y1 y1 1 I A))) ∧ (¬ (A 5 (y1.toNatClampNeg)) = 2 → (vp_in y1 9 ∧ (((A 5 (y1.toNatClampNeg)) = 4 → ((y1 = y2 → wp_TuneSetterModel_perform_48 (fun y1 y2 y3 I A => wp_TuneSetterModel_perform_11 post n y1 y2 y3 I A) post y1 y2 y3 I A) ∧ (¬ y1 = y2 → wp_TuneSetterModel_perform_48 (fun y1 y2 y3 I A => wp_TuneSetterModel_perform_11 post n y1 y2 y3 I A) post y1 y1 1 I A))) ∧ (¬ (A 5 (y1.toNatClampNeg)) = 4 → wp_TuneSetterModel_perform_48 (fun y1 y2 y3 I A => wp_TuneSetterModel_perform_11 post n y1 y2 y3 I A) post y1 y2 y3 I A))))))))
def wp_TuneSetterModel_perform (I : Nat → Int32) (A : Nat → Nat → Int32) (post : Int32 → (Nat → Int32) → (Nat → Nat → Int32) → Prop) : Prop := (∃ n11, wp_TuneSetterModel_perform_11 post n11 0 0 1 (upd I 24 0) A)
theorem d_TuneSetterModel_perform_0 : decode b_TuneSetterModel_perform 0 = .ok (.aload_n 0, 1) := by decide +kernel
theorem d_TuneSetterModel_perform_1 : decode b_TuneSetterModel_perform 1 = .ok (.iconst 0, 1) := by decide +kernel
theorem d_TuneSetterModel_perform_2 : decode b_TuneSetterModel_perform 2 = .ok (.putfield 250, 3) := by decide +kernel
theorem d_TuneSetterModel_perform_5 : decode b_TuneSetterModel_perform 5 = .ok (.iconst 0, 1) := by decide +kernel
theorem d_TuneSetterModel_perform_6 : decode b_TuneSetterModel_perform 6 = .ok (.istore_n 1, 1) := by decide +kernel
theorem d_TuneSetterModel_perform_7 : decode b_TuneSetterModel_perform 7 = .ok (.iconst 0, 1) := by decide +kernel
theorem d_TuneSetterModel_perform_8 : decode b_TuneSetterModel_perform 8 = .ok (.istore_n 2, 1) := by decide +kernel
theorem d_TuneSetterModel_perform_9 : decode b_TuneSetterModel_perform 9 = .ok (.iconst 1, 1) := by decide +kernel
theorem d_TuneSetterModel_perform_10 : decode b_TuneSetterModel_perform 10 = .ok (.istore_n 3, 1) := by decide +kernel
theorem d_TuneSetterModel_perform_11 : decode b_TuneSetterModel_perform 11 = .ok (.iload_n 1, 1) := by decide +kernel
theorem d_TuneSetterModel_perform_12 : decode b_TuneSetterModel_perform 12 = .ok (.aload_n 0, 1) := by decide +kernel
theorem d_TuneSetterModel_perform_13 : decode b_TuneSetterModel_perform 13 = .ok (.getfield 87, 3) := by decide +kernel
theorem d_TuneSetterModel_perform_16 : decode b_TuneSetterModel_perform 16 = .ok (.if_icmp .ge 133, 3) := by decide +kernel
theorem d_TuneSetterModel_perform_19 : decode b_TuneSetterModel_perform 19 = .ok (.aload_n 0, 1) := by decide +kernel
theorem d_TuneSetterModel_perform_20 : decode b_TuneSetterModel_perform 20 = .ok (.getfield 35, 3) := by decide +kernel
theorem d_TuneSetterModel_perform_23 : decode b_TuneSetterModel_perform 23 = .ok (.iload_n 1, 1) := by decide +kernel
theorem d_TuneSetterModel_perform_24 : decode b_TuneSetterModel_perform 24 = .ok (.iaload, 1) := by decide +kernel
theorem d_TuneSetterModel_perform_25 : decode b_TuneSetterModel_perform 25 = .ok (.iconst 2, 1) := by decide +kernel
theorem d_TuneSetterModel_perform_26 : decode b_TuneSetterModel_perform 26 = .ok (.if_icmp .eq 13, 3) := by decide +kernel
theorem d_TuneSetterModel_perform_29 : decode b_TuneSetterModel_perform 29 = .ok (.aload_n 0, 1) := by decide +kernel
theorem d_TuneSetterModel_perform_30 : decode b_TuneSetterModel_perform 30 = .ok (.getfield 35, 3) := by decide +kernel
theorem d_TuneSetterModel_perform_33 : decode b_TuneSetterModel_perform 33 = .ok (.iload_n 1, 1) := by decide +kernel
theorem d_TuneSetterModel_perform_34 : decode b_TuneSetterModel_perform 34 = .ok (.iaload, 1) := by decide +kernel
theorem d_TuneSetterModel_perform_35 : decode b_TuneSetterModel_perform 35 = .ok (.iconst 4, 1) := by decide +kernel
theorem d_TuneSetterModel_perform_36 : decode b_TuneSetterModel_perform 36 = .ok (.if_icmp .ne 12, 3) := by decide +kernel
theorem d_TuneSetterModel_perform_39 : decode b_TuneSetterModel_perform 39 = .ok (.iload_n 1, 1) := by decide +kernel
theorem d_TuneSetterModel_perform_40 : decode b_TuneSetterModel_perform 40 = .ok (.iload_n 2, 1) := by decide +kernel
theorem d_TuneSetterModel_perform_41 : decode b_TuneSetterModel_perform 41 = .ok (.if_icmp .eq 7, 3) := by decide +kernel
theorem d_TuneSetterModel_perform_44 : decode b_TuneSetterModel_perform 44 = .ok (.iload_n 1, 1) := by decide +kernel
theorem d_TuneSetterModel_perform_45 : decode b_TuneSetterModel_perform 45 = .ok (.istore_n 2, 1) := by decide +kernel
theorem d_TuneSetterModel_perform_46 : decode b_TuneSetterModel_perform 46 = .ok (.iconst 1, 1) := by decide +kernel
theorem d_TuneSetterModel_perform_47 : decode b_TuneSetterModel_perform 47 = .ok (.istore_n 3, 1) := by decide +kernel
theorem d_TuneSetterModel_perform_48 : decode b_TuneSetterModel_perform 48 = .ok (.aload_n 0, 1) := by decide +kernel
theorem d_TuneSetterModel_perform_49 : decode b_TuneSetterModel_perform 49 = .ok (.getfield 35, 3) := by decide +kernel
theorem d_TuneSetterModel_perform_52 : decode b_TuneSetterModel_perform 52 = .ok (.iload_n 1, 1) := by decide +kernel
theorem d_TuneSetterModel_perform_53 : decode b_TuneSetterModel_perform 53 = .ok (.iconst 1, 1) := by decide +kernel
theorem d_TuneSetterModel_perform_54 : decode b_TuneSetterModel_perform 54 = .ok (.iadd, 1) := by decide +kernel
theorem d_TuneSetterModel_perform_55 : decode b_TuneSetterModel_perform 55 = .ok (.iaload, 1) := by decide +kernel
theorem d_TuneSetterModel_perform_56 : decode b_TuneSetterModel_perform 56 = .ok (.iconst 3, 1) := by decide +kernel
theorem d_TuneSetterModel_perform_57 : decode b_TuneSetterModel_perform 57 = .ok (.if_icmp .eq 15, 3) := by decide +kernel
theorem d_TuneSetterModel_perform_60 : decode b_TuneSetterModel_perform 60 = .ok (.aload_n 0, 1) := by decide +kernel
theorem d_TuneSetterModel_perform_61 : decode b_TuneSetterModel_perform 61 = .ok (.getfield 35, 3) := by decide +kernel
theorem d_TuneSetterModel_perform_64 : decode b_TuneSetterModel_perform 64 = .ok (.iload_n 1, 1) := by decide +kernel
theorem d_TuneSetterModel_perform_65 : decode b_TuneSetterModel_perform 65 = .ok (.iconst 1, 1) := by decide +kernel
theorem d_TuneSetterModel_perform_66 : decode b_TuneSetterModel_perform 66 = .ok (.iadd, 1) := by decide +kernel
theorem d_TuneSetterModel_perform_67 : decode b_TuneSetterModel_perform 67 = .ok (.iaload, 1) := by decide +kernel
theorem d_TuneSetterModel_perform_68 : decode b_TuneSetterModel_perform 68 = .ok (.iconst 4, 1) := by decide +kernel
theorem d_TuneSetterModel_perform_69 : decode b_TuneSetterModel_perform 69 = .ok (.if_icmp .ne 7, 3) := by decide +kernel
theorem d_TuneSetterModel_perform_72 : decode b_TuneSetterModel_perform 72 = .ok (.iconst 1, 1) := by decide +kernel
theorem d_TuneSetterModel_perform_73 : decode b_TuneSetterModel_perform 73 = .ok (.goto 4, 3) := by decide +kernel
theorem d_TuneSetterModel_perform_76 : decode b_TuneSetterModel_perform 76 = .ok (.iconst 0, 1) := by decide +kernel
theorem d_TuneSetterModel_perform_77 : decode b_TuneSetterModel_perform 77 = .ok (.istore 4, 2) := by decide +kernel
theorem d_TuneSetterModel_perform_79 : decode b_TuneSetterModel_perform 79 = .ok (.aload_n 0, 1) := by decide +kernel
theorem d_TuneSetterModel_perform_80 : decode b_TuneSetterModel_perform 80 = .ok (.iload_n 1, 1) := by decide +kernel
theorem d_TuneSetterModel_perform_81 : decode b_TuneSetterModel_perform 81 = .ok (.invokevirtual 253, 3) := by decide +kernel
theorem d_TuneSetterModel_perform_84 : decode b_TuneSetterModel_perform 84 = .ok (.iconst 1, 1) := by decide +kernel
theorem d_TuneSetterModel_perform_85 : decode b_TuneSetterModel_perform 85 = .ok (.if_icmp .ne 14, 3) := by decide +kernel
theorem d_TuneSetterModel_perform_88 : decode b_TuneSetterModel_perform 88 = .ok (.iload_n 3, 1) := by decide +kernel
theorem d_TuneSetterModel_perform_89 : decode b_TuneSetterModel_perform 89 = .ok (.iconst 2, 1) := by decide +kernel
theorem d_TuneSetterModel_perform_90 : decode b_TuneSetterModel_perform 90 = .ok (.if_icmp .ne 9, 3) := by decide +kernel
theorem d_TuneSetterModel_perform_93 : decode b_TuneSetterModel_perform 93 = .ok (.iinc 1 1, 3) := by decide +kernel
theorem d_TuneSetterModel_perform_96 : decode b_TuneSetterModel_perform 96 = .ok (.goto 50, 3) := by decide +kernel
theorem d_TuneSetterModel_perform_99 : decode b_TuneSetterModel_perform 99 = .ok (.aload_n 0, 1) := by decide +kernel
theorem d_TuneSetterModel_perform_100 : decode b_TuneSetterModel_perform 100 = .ok (.iload_n 1, 1) := by decide +kernel
theorem d_TuneSetterModel_perform_101 : decode b_TuneSetterModel_perform 101 = .ok (.invokevirtual 256, 3) := by decide +kernel
theorem d_TuneSetterModel_perform_104 : decode b_TuneSetterModel_perform 104 = .ok (.iload 4, 2) := by decide +kernel
theorem d_TuneSetterModel_perform_106 : decode b_TuneSetterModel_perform 106 = .ok (.ifCond .eq 15, 3) := by decide +kernel
theorem d_TuneSetterModel_perform_109 : decode b_TuneSetterModel_perform 109 = .ok (.iload_n 3, 1) := by decide +kernel
theorem d_TuneSetterModel_perform_110 : decode b_TuneSetterModel_perform 110 = .ok (.iconst 1, 1) := by decide +kernel
theorem d_TuneSetterModel_perform_111 : decode b_TuneSetterModel_perform 111 = .ok (.if_icmp .ne 10, 3) := by decide +kernel
theorem d_TuneSetterModel_perform_114 : decode b_TuneSetterModel_perform 114 = .ok (.iconst 2, 1) := by decide +kernel
theorem d_TuneSetterModel_perform_115 : decode b_TuneSetterModel_perform 115 = .ok (.istore_n 3, 1) := by decide +kernel
theorem d_TuneSetterModel_perform_116 : decode b_TuneSetterModel_perform 116 = .ok (.iload_n 2, 1) := by decide +kernel
theorem d_TuneSetterModel_perform_117 : decode b_TuneSetterModel_perform 117 = .ok (.istore_n 1, 1) := by decide +kernel
theorem d_TuneSetterModel_perform_118 : decode b_TuneSetterModel_perform 118 = .ok (.goto 28, 3) := by decide +kernel
theorem d_TuneSetterModel_perform_121 : decode b_TuneSetterModel_perform 121 = .ok (.iinc 1 1, 3) := by decide +kernel
theorem d_TuneSetterModel_perform_124 : decode b_TuneSetterModel_perform 124 = .ok (.iload 4, 2) := by decide +kernel
theorem d_TuneSetterModel_perform_126 : decode b_TuneSetterModel_perform 126 = .ok (.ifCond .eq 7, 3) := by decide +kernel
theorem d_TuneSetterModel_perform_129 : decode b_TuneSetterModel_perform 129 = .ok (.iload_n 1, 1) := by decide +kernel
theorem d_TuneSetterModel_perform_130 : decode b_TuneSetterModel_perform 130 = .ok (.goto 4, 3) := by decide +kernel
theorem d_TuneSetterModel_perform_133 : decode b_TuneSetterModel_perform 133 = .ok (.iload_n 2, 1) := by decide +kernel
theorem d_TuneSetterModel_perform_134 : decode b_TuneSetterModel_perform 134 = .ok (.istore_n 2, 1) := by decide +kernel
theorem d_TuneSetterModel_perform_135 : decode b_TuneSetterModel_perform 135 = .ok (.iload 4, 2) := by decide +kernel
theorem d_TuneSetterModel_perform_137 : decode b_TuneSetterModel_perform 137 = .ok (.ifCond .eq 7, 3) := by decide +kernel
theorem d_TuneSetterModel_perform_140 : decode b_TuneSetterModel_perform 140 = .ok (.iconst 1, 1) := by decide +kernel
theorem d_TuneSetterModel_perform_141 : decode b_TuneSetterModel_perform 141 = .ok (.goto 4, 3) := by decide +kernel
theorem d_TuneSetterModel_perform_144 : decode b_TuneSetterModel_perform 144 = .ok (.iload_n 3, 1) := by decide +kernel
theorem d_TuneSetterModel_perform_145 : decode b_TuneSetterModel_perform 145 = .ok (.istore_n 3, 1) := by decide +kernel
theorem d_TuneSetterModel_perform_146 : decode b_TuneSetterModel_perform 146 = .ok (.goto (-135), 3) := by decide +kernel
theorem d_TuneSetterModel_perform_149 : decode b_TuneSetterModel_perform 149 = .ok (.aload_n 0, 1) := by decide +kernel
theorem d_TuneSetterModel_perform_150 : decode b_TuneSetterModel_perform 150 = .ok (.invokevirtual 259, 3) := by decide +kernel
theorem d_TuneSetterModel_perform_153 : decode b_TuneSetterModel_perform 153 = .ok (.ireturn, 1) := by decide +kernel
def w_TuneSetterModel_perform : List Cond := .code y_TuneSetterModel_perform b_TuneSetterModel_perform 5 (some .int) :: WALL
theorem g_TuneSetterModel_perform : GoodIn WALL w_TuneSetterModel_perform := good_of mc_TuneSetterModel_perform
set_option maxHeartbeats 4000000 in
set_option maxRecDepth 100000 in
theorem c_TuneSetterModel_perform (l : Launch) (D : va_G) (cA a : Nat → Nat) (sz : Nat) (I : Nat → Int32) (A : Nat → Nat → Int32) (post : Int32 → (Nat → Int32) → (Nat → Nat → Int32) → Prop) (h : wp_TuneSetterModel_perform I A post) : Met l y_TuneSetterModel_perform w_TuneSetterModel_perform ({ frames := 2, cells := 0, slots := 0, locals := 50 }) (va_Pc [.ref (a 0)] (PreR D cA a I A sz)) (va_Qi (fun r (u : StW) => post r u.1 u.2) (EndR D cA a) (AR a sz)) 0 0 (AR a sz) := by
  refine Met.ofW (cc := b_TuneSetterModel_perform) (maxL := 5) (ret := (some .int)) (by decide) rfl ?_
  intro p e s m args below meth c s₁ B hml hv
  obtain ⟨rfl, hsz, hP, hK, hD0⟩ := hv
  have hx := B.exec
  have hb := B.bytes
  have hr := B.returns
  have hts := atoms_spec (ws := w_TuneSetterModel_perform) B.pre
  have hw := wall_of hts
  have hown : s.vm.findClass R_TuneSetterModel = some m.cls := findClass_of_methodNamed B.named
  have hlocks := B.notSynchronized
  subst hsz
  have hD := hDR (sz := s.heap.size) hD0
  have hA : ∀ q : Nat, s.heap.size ≤ q → AR a s.heap.size q := fun q h => Or.inr h
  have hS : va_S (AR a s.heap.size) s.heap s.heap [] := va_S.rf
  have j121 : ∀ (k11 : Int32 → Int32 → Int32 → (Nat → Int32) → (Nat → Nat → Int32) → Prop) (hk11 : ∀ (y1 : Int32) (y2 : Int32) (y3 : Int32) (I : Nat → Int32) (A : Nat → Nat → Int32) (H : Heap) (locs : List Loc) (ls : Array Slot), k11 y1 y2 y3 I A → va_P D cls (wR cA a I A) H → va_S (AR a s.heap.size) s.heap H locs → lv_has ls 5 [(0, .ref (a 0)), (1, .int y1), (2, .int y2), (3, .int y3)] → W p l e (headSpec w_TuneSetterModel_perform ({ frames := 2, cells := 0, slots := 0, locals := 50 })).room s m [.ref (a 0)].toArray below meth c H locs 0 0 (MQ below (va_Qi (fun r (u : StW) => post r u.1 u.2) (EndR D cA a) (AR a s.heap.size)) [.ref (a 0)].toArray s 0 0 (AR a s.heap.size)) (F0 m 11 ls [])), ∀ (y1 : Int32) (y2 : Int32) (y3 : Int32) (y4 : Int32) (I : Nat → Int32) (A : Nat → Nat → Int32) (H : Heap) (locs : List Loc) (ls : Array Slot), wp_TuneSetterModel_perform_121 k11 post y1 y2 y3 y4 I A → va_P D cls (wR cA a I A) H → va_S (AR a s.heap.size) s.heap H locs → lv_has ls 5 [(0, .ref (a 0)), (1, .int y1), (2, .int y2), (3, .int y3), (4, .int y4)] → W p l e (headSpec w_TuneSetterModel_perform ({ frames := 2, cells := 0, slots := 0, locals := 50 })).room s m [.ref (a 0)].toArray below meth c H locs 0 0 (MQ below (va_Qi (fun r (u : StW) => post r u.1 u.2) (EndR D cA a) (AR a s.heap.size)) [.ref (a 0)].toArray s 0 0 (AR a s.heap.size)) (F0 m 121 ls []) := by
    intro k11 hk11
    intro y1 y2 y3 y4 I A H locs ls h hP hS hl
    unfold wp_TuneSetterModel_perform_121 at h
    obtain ⟨v121, ev121⟩ : ∃ z : Int32, z = y1 + 1 := ⟨_, rfl⟩
    have h := h v121 ev121
    refine lv_iinc (k := 1) (v := v121) (lv' := [(1, .int v121), (0, .ref (a 0)), (2, .int y2), (3, .int y3), (4, .int y4)]) hx hb d_TuneSetterModel_perform_121 hl rfl (by rw [ev121, ic_1]) (by decide) rfl (fun ls hl => ?_)
    refine lv_iload hx hb d_TuneSetterModel_perform_124 (lv_at hl 4 rfl) ?_
    refine lv_if_eq (tgt := 133) hx hb d_TuneSetterModel_perform_126 rfl (fun q => ?_) (fun q => ?_)
    · have h := h.1 q
      refine lv_iload_n hx hb d_TuneSetterModel_perform_133 rfl (lv_at hl 2 rfl) ?_
      refine lv_istore_n (lv' := [(2, .int y2), (1, .int v121), (0, .ref (a 0)), (3, .int y3), (4, .int y4)]) hx hb d_TuneSetterModel_perform_134 rfl hl (by decide) rfl (fun ls hl => ?_)
      refine lv_iload hx hb d_TuneSetterModel_perform_135 (lv_at hl 4 rfl) ?_
      refine lv_if_eq (tgt := 144) hx hb d_TuneSetterModel_perform_137 rfl (fun q => ?_) (fun q => ?_)
      · have h := h.1 q
        refine lv_iload_n hx hb d_TuneSetterModel_perform_144 rfl (lv_at hl 3 rfl) ?_
        refine lv_istore_n (lv' := [(3, .int y3), (2, .int y2), (1, .int v121), (0, .ref (a 0)), (4, .int y4)]) hx hb d_TuneSetterModel_perform_145 rfl hl (by decide) rfl (fun ls hl => ?_)
        refine lv_goto (tgt := 11) hx hb d_TuneSetterModel_perform_146 rfl ?_
        exact hk11 v121 y2 y3 I A _ _ _ h hP hS (lv_sub hl [3, 2, 1, 0] rfl)
      · have h := h.2 q
        refine lv_iconst (v := 1) hx hb d_TuneSetterModel_perform_140 ic_1 ?_
        refine lv_goto (tgt := 145) hx hb d_TuneSetterModel_perform_141 rfl ?_
        refine lv_istore_n (lv' := [(3, .int 1), (2, .int y2), (1, .int v121), (0, .ref (a 0)), (4, .int y4)]) hx hb d_TuneSetterModel_perform_145 rfl hl (by decide) rfl (fun ls hl => ?_)
        refine lv_goto (tgt := 11) hx hb d_TuneSetterModel_perform_146 rfl ?_
        exact hk11 v121 y2 1 I A _ _ _ h hP hS (lv_sub hl [3, 2, 1, 0] rfl)
    · have h := h.2 q
      refine lv_iload_n hx hb d_TuneSetterModel_perform_129 rfl (lv_at hl 0 rfl) ?_
      refine lv_goto (tgt := 134) hx hb d_TuneSetterModel_perform_130 rfl ?_
      refine lv_istore_n (lv' := [(2, .int v121), (1, .int v121), (0, .ref (a 0)), (3, .int y3), (4, .int y4)]) hx hb d_TuneSetterModel_perform_134 rfl hl (by decide) rfl (fun ls hl => ?_)
      refine lv_iload hx hb d_TuneSetterModel_perform_135 (lv_at hl 4 rfl) ?_
      refine lv_if_eq (tgt := 144) hx hb d_TuneSetterModel_perform_137 rfl (fun q => ?_) (fun q => ?_)
      · have h := h.1 q
        refine lv_iload_n hx hb d_TuneSetterModel_perform_144 rfl (lv_at hl 3 rfl) ?_
        refine lv_istore_n (lv' := [(3, .int y3), (2, .int v121), (1, .int v121), (0, .ref (a 0)), (4, .int y4)]) hx hb d_TuneSetterModel_perform_145 rfl hl (by decide) rfl (fun ls hl => ?_)
        refine lv_goto (tgt := 11) hx hb d_TuneSetterModel_perform_146 rfl ?_
        exact hk11 v121 v121 y3 I A _ _ _ h hP hS (lv_sub hl [3, 2, 1, 0] rfl)
      · have h := h.2 q
        refine lv_iconst (v := 1) hx hb d_TuneSetterModel_perform_140 ic_1 ?_
        refine lv_goto (tgt := 145) hx hb d_TuneSetterModel_perform_141 rfl ?_
        refine lv_istore_n (lv' := [(3, .int 1), (2, .int v121), (1, .int v121), (0, .ref (a 0)), (4, .int y4)]) hx hb d_TuneSetterModel_perform_145 rfl hl (by decide) rfl (fun ls hl => ?_)
        refine lv_goto (tgt := 11) hx hb d_TuneSetterModel_perform_146 rfl ?_
        exact hk11 v121 v121 1 I A _ _ _ h hP hS (lv_sub hl [3, 2, 1, 0] rfl)
  have j99 : ∀ (k11 : Int32 → Int32 → Int32 → (Nat → Int32) → (Nat → Nat → Int32) → Prop) (hk11 : ∀ (y1 : Int32) (y2 : Int32) (y3 : Int32) (I : Nat → Int32) (A : Nat → Nat → Int32) (H : Heap) (locs : List Loc) (ls : Array Slot), k11 y1 y2 y3 I A → va_P D cls (wR cA a I A) H → va_S (AR a s.heap.size) s.heap H locs → lv_has ls 5 [(0, .ref (a 0)), (1, .int y1), (2, .int y2), (3, .int y3)] → W p l e (headSpec w_TuneSetterModel_perform ({ frames := 2, cells := 0, slots := 0, locals := 50 })).room s m [.ref (a 0)].toArray below meth c H locs 0 0 (MQ below (va_Qi (fun r (u : StW) => post r u.1 u.2) (EndR D cA a) (AR a s.heap.size)) [.ref (a 0)].toArray s 0 0 (AR a s.heap.size)) (F0 m 11 ls [])), ∀ (y1 : Int32) (y2 : Int32) (y3 : Int32) (y4 : Int32) (I : Nat → Int32) (A : Nat → Nat → Int32) (H : Heap) (locs : List Loc) (ls : Array Slot), wp_TuneSetterModel_perform_99 k11 post y1 y2 y3 y4 I A → va_P D cls (wR cA a I A) H → va_S (AR a s.heap.size) s.heap H locs → lv_has ls 5 [(0, .ref (a 0)), (1, .int y1), (2, .int y2), (3, .int y3), (4, .int y4)] → W p l e (headSpec w_TuneSetterModel_perform ({ frames := 2, cells := 0, slots := 0, locals := 50 })).room s m [.ref (a 0)].toArray below meth c H locs 0 0 (MQ below (va_Qi (fun r (u : StW) => post r u.1 u.2) (EndR D cA a) (AR a s.heap.size)) [.ref (a 0)].toArray s 0 0 (AR a s.heap.size)) (F0 m 99 ls []) := by
    intro k11 hk11
    intro y1 y2 y3 y4 I A H locs ls h hP hS hl
    unfold wp_TuneSetterModel_perform_99 at h
    refine lv_aload_n hx hb d_TuneSetterModel_perform_99 rfl (lv_at hl 0 rfl) ?_
    refine lv_iload_n hx hb d_TuneSetterModel_perform_100 rfl (lv_at hl 1 rfl) ?_
    refine k_TuneSetterModel_playBar y1 (rest := []) ⟨hx, hb, hml, hown, hw⟩ hK hD hA hS hP hl.1 (hw _ m_TuneSetterModel_256) (Nat.le_of_ble_eq_true rfl) ⟨Nat.le_of_ble_eq_true rfl, Nat.le_of_ble_eq_true rfl⟩ ⟨Nat.zero_le _, Nat.zero_le _⟩ d_TuneSetterModel_perform_101 h (fun I101 A101 H locs h hP hS => ?_)
    refine lv_iload hx hb d_TuneSetterModel_perform_104 (lv_at hl 4 rfl) ?_
    refine lv_if_eq (tgt := 121) hx hb d_TuneSetterModel_perform_106 rfl (fun q => ?_) (fun q => ?_)
    · have h := h.1 q
      exact (j121 _ hk11) y1 y2 y3 y4 I101 A101 _ _ _ h hP hS (lv_sub hl [0, 1, 2, 3, 4] rfl)
    · have h := h.2 q
      refine lv_iload_n hx hb d_TuneSetterModel_perform_109 rfl (lv_at hl 3 rfl) ?_
      refine lv_iconst (v := 1) hx hb d_TuneSetterModel_perform_110 ic_1 ?_
      refine lv_icmp_ne (tgt := 121) hx hb d_TuneSetterModel_perform_111 rfl (fun q => ?_) (fun q => ?_)
      · have h := h.2 q
        exact (j121 _ hk11) y1 y2 y3 y4 I101 A101 _ _ _ h hP hS (lv_sub hl [0, 1, 2, 3, 4] rfl)
      · have h := h.1 q
        refine lv_iconst (v := 2) hx hb d_TuneSetterModel_perform_114 ic_2 ?_
        refine lv_istore_n (lv' := [(3, .int 2), (0, .ref (a 0)), (1, .int y1), (2, .int y2), (4, .int y4)]) hx hb d_TuneSetterModel_perform_115 rfl hl (by decide) rfl (fun ls hl => ?_)
        refine lv_iload_n hx hb d_TuneSetterModel_perform_116 rfl (lv_at hl 3 rfl) ?_
        refine lv_istore_n (lv' := [(1, .int y2), (3, .int 2), (0, .ref (a 0)), (2, .int y2), (4, .int y4)]) hx hb d_TuneSetterModel_perform_117 rfl hl (by decide) rfl (fun ls hl => ?_)
        refine lv_goto (tgt := 146) hx hb d_TuneSetterModel_perform_118 rfl ?_
        refine lv_goto (tgt := 11) hx hb d_TuneSetterModel_perform_146 rfl ?_
        exact hk11 y2 y2 2 I101 A101 _ _ _ h hP hS (lv_sub hl [2, 0, 3, 1] rfl)
  have j77 : ∀ (k11 : Int32 → Int32 → Int32 → (Nat → Int32) → (Nat → Nat → Int32) → Prop) (hk11 : ∀ (y1 : Int32) (y2 : Int32) (y3 : Int32) (I : Nat → Int32) (A : Nat → Nat → Int32) (H : Heap) (locs : List Loc) (ls : Array Slot), k11 y1 y2 y3 I A → va_P D cls (wR cA a I A) H → va_S (AR a s.heap.size) s.heap H locs → lv_has ls 5 [(0, .ref (a 0)), (1, .int y1), (2, .int y2), (3, .int y3)] → W p l e (headSpec w_TuneSetterModel_perform ({ frames := 2, cells := 0, slots := 0, locals := 50 })).room s m [.ref (a 0)].toArray below meth c H locs 0 0 (MQ below (va_Qi (fun r (u : StW) => post r u.1 u.2) (EndR D cA a) (AR a s.heap.size)) [.ref (a 0)].toArray s 0 0 (AR a s.heap.size)) (F0 m 11 ls [])), ∀ (y1 : Int32) (y2 : Int32) (y3 : Int32) (s0 : Int32) (I : Nat → Int32) (A : Nat → Nat → Int32) (H : Heap) (locs : List Loc) (ls : Array Slot), wp_TuneSetterModel_perform_77 k11 post y1 y2 y3 s0 I A → va_P D cls (wR cA a I A) H → va_S (AR a s.heap.size) s.heap H locs → lv_has ls 5 [(0, .ref (a 0)), (1, .int y1), (2, .int y2), (3, .int y3)] → W p l e (headSpec w_TuneSetterModel_perform ({ frames := 2, cells := 0, slots := 0, locals := 50 })).room s m [.ref (a 0)].toArray below meth c H locs 0 0 (MQ below (va_Qi (fun r (u : StW) => post r u.1 u.2) (EndR D cA a) (AR a s.heap.size)) [.ref (a 0)].toArray s 0 0 (AR a s.heap.size)) (F0 m 77 ls [.int s0]) := by
    intro k11 hk11
    intro y1 y2 y3 s0 I A H locs ls h hP hS hl
    unfold wp_TuneSetterModel_perform_77 at h
    refine lv_istore (lv' := [(4, .int s0), (0, .ref (a 0)), (1, .int y1), (2, .int y2), (3, .int y3)]) hx hb d_TuneSetterModel_perform_77 hl (by decide) rfl (fun ls hl => ?_)
    refine lv_aload_n hx hb d_TuneSetterModel_perform_79 rfl (lv_at hl 1 rfl) ?_
    refine lv_iload_n hx hb d_TuneSetterModel_perform_80 rfl (lv_at hl 2 rfl) ?_
    refine k_TuneSetterModel_holds y1 (rest := []) ⟨hx, hb, hml, hown, hw⟩ hK hD hA hS hP hl.1 (hw _ m_TuneSetterModel_253) (Nat.le_of_ble_eq_true rfl) ⟨Nat.le_of_ble_eq_true rfl, Nat.le_of_ble_eq_true rfl⟩ ⟨Nat.zero_le _, Nat.zero_le _⟩ d_TuneSetterModel_perform_81 h (fun r81 I81 A81 H locs h hP hS => ?_)
    refine lv_iconst (v := 1) hx hb d_TuneSetterModel_perform_84 ic_1 ?_
    refine lv_icmp_ne (tgt := 99) hx hb d_TuneSetterModel_perform_85 rfl (fun q => ?_) (fun q => ?_)
    · have h := h.2 q
      exact (j99 _ hk11) y1 y2 y3 s0 I81 A81 _ _ _ h hP hS (lv_sub hl [1, 2, 3, 4, 0] rfl)
    · have h := h.1 q
      refine lv_iload_n hx hb d_TuneSetterModel_perform_88 rfl (lv_at hl 4 rfl) ?_
      refine lv_iconst (v := 2) hx hb d_TuneSetterModel_perform_89 ic_2 ?_
      refine lv_icmp_ne (tgt := 99) hx hb d_TuneSetterModel_perform_90 rfl (fun q => ?_) (fun q => ?_)
      · have h := h.2 q
        exact (j99 _ hk11) y1 y2 y3 s0 I81 A81 _ _ _ h hP hS (lv_sub hl [1, 2, 3, 4, 0] rfl)
      · have h := h.1 q
        obtain ⟨v93, ev93⟩ : ∃ z : Int32, z = y1 + 1 := ⟨_, rfl⟩
        have h := h v93 ev93
        refine lv_iinc (k := 2) (v := v93) (lv' := [(1, .int v93), (4, .int s0), (0, .ref (a 0)), (2, .int y2), (3, .int y3)]) hx hb d_TuneSetterModel_perform_93 hl rfl (by rw [ev93, ic_1]) (by decide) rfl (fun ls hl => ?_)
        refine lv_goto (tgt := 146) hx hb d_TuneSetterModel_perform_96 rfl ?_
        refine lv_goto (tgt := 11) hx hb d_TuneSetterModel_perform_146 rfl ?_
        exact hk11 v93 y2 y3 I81 A81 _ _ _ h hP hS (lv_sub hl [2, 0, 3, 4] rfl)
  have j48 : ∀ (k11 : Int32 → Int32 → Int32 → (Nat → Int32) → (Nat → Nat → Int32) → Prop) (hk11 : ∀ (y1 : Int32) (y2 : Int32) (y3 : Int32) (I : Nat → Int32) (A : Nat → Nat → Int32) (H : Heap) (locs : List Loc) (ls : Array Slot), k11 y1 y2 y3 I A → va_P D cls (wR cA a I A) H → va_S (AR a s.heap.size) s.heap H locs → lv_has ls 5 [(0, .ref (a 0)), (1, .int y1), (2, .int y2), (3, .int y3)] → W p l e (headSpec w_TuneSetterModel_perform ({ frames := 2, cells := 0, slots := 0, locals := 50 })).room s m [.ref (a 0)].toArray below meth c H locs 0 0 (MQ below (va_Qi (fun r (u : StW) => post r u.1 u.2) (EndR D cA a) (AR a s.heap.size)) [.ref (a 0)].toArray s 0 0 (AR a s.heap.size)) (F0 m 11 ls [])), ∀ (y1 : Int32) (y2 : Int32) (y3 : Int32) (I : Nat → Int32) (A : Nat → Nat → Int32) (H : Heap) (locs : List Loc) (ls : Array Slot), wp_TuneSetterModel_perform_48 k11 post y1 y2 y3 I A → va_P D cls (wR cA a I A) H → va_S (AR a s.heap.size) s.heap H locs → lv_has ls 5 [(0, .ref (a 0)), (1, .int y1), (2, .int y2), (3, .int y3)] → W p l e (headSpec w_TuneSetterModel_perform ({ frames := 2, cells := 0, slots := 0, locals := 50 })).room s m [.ref (a 0)].toArray below meth c H locs 0 0 (MQ below (va_Qi (fun r (u : StW) => post r u.1 u.2) (EndR D cA a) (AR a s.heap.size)) [.ref (a 0)].toArray s 0 0 (AR a s.heap.size)) (F0 m 48 ls []) := by
    intro k11 hk11
    intro y1 y2 y3 I A H locs ls h hP hS hl
    unfold wp_TuneSetterModel_perform_48 at h
    refine lv_aload_n hx hb d_TuneSetterModel_perform_48 rfl (lv_at hl 0 rfl) ?_
    refine gR_TuneSetterModel_line hx hb hw hown hK hP (hw _ m_TuneSetterModel_35) d_TuneSetterModel_perform_49 ?_
    refine lv_iload_n hx hb d_TuneSetterModel_perform_52 rfl (lv_at hl 1 rfl) ?_
    refine lv_iconst (v := 1) hx hb d_TuneSetterModel_perform_53 ic_1 ?_
    refine lv_iadd hx hb d_TuneSetterModel_perform_54 ?_
    obtain ⟨hin, h⟩ := h
    refine lR5 hx hb hK hP hin d_TuneSetterModel_perform_55 ?_
    refine lv_iconst (v := 3) hx hb d_TuneSetterModel_perform_56 ic_3 ?_
    refine lv_icmp_eq (tgt := 72) hx hb d_TuneSetterModel_perform_57 rfl (fun q => ?_) (fun q => ?_)
    · have h := h.1 q
      refine lv_iconst (v := 1) hx hb d_TuneSetterModel_perform_72 ic_1 ?_
      refine lv_goto (tgt := 77) hx hb d_TuneSetterModel_perform_73 rfl ?_
      exact (j77 _ hk11) y1 y2 y3 1 I A _ _ _ h hP hS (lv_sub hl [0, 1, 2, 3] rfl)
    · have h := h.2 q
      refine lv_aload_n hx hb d_TuneSetterModel_perform_60 rfl (lv_at hl 0 rfl) ?_
      refine gR_TuneSetterModel_line hx hb hw hown hK hP (hw _ m_TuneSetterModel_35) d_TuneSetterModel_perform_61 ?_
      refine lv_iload_n hx hb d_TuneSetterModel_perform_64 rfl (lv_at hl 1 rfl) ?_
      refine lv_iconst (v := 1) hx hb d_TuneSetterModel_perform_65 ic_1 ?_
      refine lv_iadd hx hb d_TuneSetterModel_perform_66 ?_
      obtain ⟨hin, h⟩ := h
      refine lR5 hx hb hK hP hin d_TuneSetterModel_perform_67 ?_
      refine lv_iconst (v := 4) hx hb d_TuneSetterModel_perform_68 ic_4 ?_
      refine lv_icmp_ne (tgt := 76) hx hb d_TuneSetterModel_perform_69 rfl (fun q => ?_) (fun q => ?_)
      · have h := h.2 q
        refine lv_iconst (v := 0) hx hb d_TuneSetterModel_perform_76 ic_0 ?_
        exact (j77 _ hk11) y1 y2 y3 0 I A _ _ _ h hP hS (lv_sub hl [0, 1, 2, 3] rfl)
      · have h := h.1 q
        refine lv_iconst (v := 1) hx hb d_TuneSetterModel_perform_72 ic_1 ?_
        refine lv_goto (tgt := 77) hx hb d_TuneSetterModel_perform_73 rfl ?_
        exact (j77 _ hk11) y1 y2 y3 1 I A _ _ _ h hP hS (lv_sub hl [0, 1, 2, 3] rfl)
  have j11 : ∀ n : Nat, ∀ (y1 : Int32) (y2 : Int32) (y3 : Int32) (I : Nat → Int32) (A : Nat → Nat → Int32) (H : Heap) (locs : List Loc) (ls : Array Slot), wp_TuneSetterModel_perform_11 post n y1 y2 y3 I A → va_P D cls (wR cA a I A) H → va_S (AR a s.heap.size) s.heap H locs → lv_has ls 5 [(0, .ref (a 0)), (1, .int y1), (2, .int y2), (3, .int y3)] → W p l e (headSpec w_TuneSetterModel_perform ({ frames := 2, cells := 0, slots := 0, locals := 50 })).room s m [.ref (a 0)].toArray below meth c H locs 0 0 (MQ below (va_Qi (fun r (u : StW) => post r u.1 u.2) (EndR D cA a) (AR a s.heap.size)) [.ref (a 0)].toArray s 0 0 (AR a s.heap.size)) (F0 m 11 ls []) := by
    intro n
    induction n with
    | zero =>
      intro y1 y2 y3 I A H locs ls h hP hS hl
      exact False.elim h
    | succ n ih =>
      intro y1 y2 y3 I A H locs ls h hP hS hl
      unfold wp_TuneSetterModel_perform_11 at h
      refine lv_iload_n hx hb d_TuneSetterModel_perform_11 rfl (lv_at hl 1 rfl) ?_
      refine lv_aload_n hx hb d_TuneSetterModel_perform_12 rfl (lv_at hl 0 rfl) ?_
      refine gR_TuneSetterModel_bars hx hb hw hown hK hP (hw _ m_TuneSetterModel_87) d_TuneSetterModel_perform_13 ?_
      refine lv_icmp_ge (tgt := 149) hx hb d_TuneSetterModel_perform_16 rfl (fun q => ?_) (fun q => ?_)
      · have h := h.1 q
        refine lv_aload_n hx hb d_TuneSetterModel_perform_149 rfl (lv_at hl 0 rfl) ?_
        refine k_TuneSetterModel_sound (rest := []) ⟨hx, hb, hml, hown, hw⟩ hK hD hA hS hP hl.1 (hw _ m_TuneSetterModel_259) (Nat.le_of_ble_eq_true rfl) ⟨Nat.le_of_ble_eq_true rfl, Nat.le_of_ble_eq_true rfl⟩ ⟨Nat.zero_le _, Nat.zero_le _⟩ d_TuneSetterModel_perform_150 h (fun r150 I150 A150 H locs h hP hS => ?_)
        exact W.iret hx hb hr (fun t ht hW => ⟨⟨_, (I150, A150), rfl, h, endR_of ht hP⟩, hS.F ht⟩) hS.2.2 d_TuneSetterModel_perform_153
      · have h := h.2 q
        refine lv_aload_n hx hb d_TuneSetterModel_perform_19 rfl (lv_at hl 0 rfl) ?_
        refine gR_TuneSetterModel_line hx hb hw hown hK hP (hw _ m_TuneSetterModel_35) d_TuneSetterModel_perform_20 ?_
        refine lv_iload_n hx hb d_TuneSetterModel_perform_23 rfl (lv_at hl 1 rfl) ?_
        obtain ⟨hin, h⟩ := h
        refine lR5 hx hb hK hP hin d_TuneSetterModel_perform_24 ?_
        refine lv_iconst (v := 2) hx hb d_TuneSetterModel_perform_25 ic_2 ?_
        refine lv_icmp_eq (tgt := 39) hx hb d_TuneSetterModel_perform_26 rfl (fun q => ?_) (fun q => ?_)
        · have h := h.1 q
          refine lv_iload_n hx hb d_TuneSetterModel_perform_39 rfl (lv_at hl 1 rfl) ?_
          refine lv_iload_n hx hb d_TuneSetterModel_perform_40 rfl (lv_at hl 2 rfl) ?_
          refine lv_icmp_eq (tgt := 48) hx hb d_TuneSetterModel_perform_41 rfl (fun q => ?_) (fun q => ?_)
          · have h := h.1 q
            exact (j48 _ ih) y1 y2 y3 I A _ _ _ h hP hS (lv_sub hl [0, 1, 2, 3] rfl)
          · have h := h.2 q
            refine lv_iload_n hx hb d_TuneSetterModel_perform_44 rfl (lv_at hl 1 rfl) ?_
            refine lv_istore_n (lv' := [(2, .int y1), (0, .ref (a 0)), (1, .int y1), (3, .int y3)]) hx hb d_TuneSetterModel_perform_45 rfl hl (by decide) rfl (fun ls hl => ?_)
            refine lv_iconst (v := 1) hx hb d_TuneSetterModel_perform_46 ic_1 ?_
            refine lv_istore_n (lv' := [(3, .int 1), (2, .int y1), (0, .ref (a 0)), (1, .int y1)]) hx hb d_TuneSetterModel_perform_47 rfl hl (by decide) rfl (fun ls hl => ?_)
            exact (j48 _ ih) y1 y1 1 I A _ _ _ h hP hS (lv_sub hl [2, 3, 1, 0] rfl)
        · have h := h.2 q
          refine lv_aload_n hx hb d_TuneSetterModel_perform_29 rfl (lv_at hl 0 rfl) ?_
          refine gR_TuneSetterModel_line hx hb hw hown hK hP (hw _ m_TuneSetterModel_35) d_TuneSetterModel_perform_30 ?_
          refine lv_iload_n hx hb d_TuneSetterModel_perform_33 rfl (lv_at hl 1 rfl) ?_
          obtain ⟨hin, h⟩ := h
          refine lR5 hx hb hK hP hin d_TuneSetterModel_perform_34 ?_
          refine lv_iconst (v := 4) hx hb d_TuneSetterModel_perform_35 ic_4 ?_
          refine lv_icmp_ne (tgt := 48) hx hb d_TuneSetterModel_perform_36 rfl (fun q => ?_) (fun q => ?_)
          · have h := h.2 q
            exact (j48 _ ih) y1 y2 y3 I A _ _ _ h hP hS (lv_sub hl [0, 1, 2, 3] rfl)
          · have h := h.1 q
            refine lv_iload_n hx hb d_TuneSetterModel_perform_39 rfl (lv_at hl 1 rfl) ?_
            refine lv_iload_n hx hb d_TuneSetterModel_perform_40 rfl (lv_at hl 2 rfl) ?_
            refine lv_icmp_eq (tgt := 48) hx hb d_TuneSetterModel_perform_41 rfl (fun q => ?_) (fun q => ?_)
            · have h := h.1 q
              exact (j48 _ ih) y1 y2 y3 I A _ _ _ h hP hS (lv_sub hl [0, 1, 2, 3] rfl)
            · have h := h.2 q
              refine lv_iload_n hx hb d_TuneSetterModel_perform_44 rfl (lv_at hl 1 rfl) ?_
              refine lv_istore_n (lv' := [(2, .int y1), (0, .ref (a 0)), (1, .int y1), (3, .int y3)]) hx hb d_TuneSetterModel_perform_45 rfl hl (by decide) rfl (fun ls hl => ?_)
              refine lv_iconst (v := 1) hx hb d_TuneSetterModel_perform_46 ic_1 ?_
              refine lv_istore_n (lv' := [(3, .int 1), (2, .int y1), (0, .ref (a 0)), (1, .int y1)]) hx hb d_TuneSetterModel_perform_47 rfl hl (by decide) rfl (fun ls hl => ?_)
              exact (j48 _ ih) y1 y1 1 I A _ _ _ h hP hS (lv_sub hl [2, 3, 1, 0] rfl)
  have hl := lv_entry ([.ref (a 0)]) (n := 5) (Nat.le_of_ble_eq_true rfl)
  rw [lg_entry_eq]
  generalize (lg_sl ([.ref (a 0)]) ++ List.replicate (5 - (lg_sl ([.ref (a 0)])).length) Slot.unset).toArray = ls at hl ⊢
  have hl : lv_has ls 5 [(0, .ref (a 0))] := hl
  unfold wp_TuneSetterModel_perform at h
  refine lv_aload_n hx hb d_TuneSetterModel_perform_0 rfl (lv_at hl 0 rfl) ?_
  refine lv_iconst (v := 0) hx hb d_TuneSetterModel_perform_1 ic_0 ?_
  refine pR_TuneSetterModel_played hx hb hw hown hK hD hS hP (hw _ m_TuneSetterModel_250) d_TuneSetterModel_perform_2 (fun H locs hP hS => ?_)
  refine lv_iconst (v := 0) hx hb d_TuneSetterModel_perform_5 ic_0 ?_
  refine lv_istore_n (lv' := [(1, .int 0), (0, .ref (a 0))]) hx hb d_TuneSetterModel_perform_6 rfl hl (by decide) rfl (fun ls hl => ?_)
  refine lv_iconst (v := 0) hx hb d_TuneSetterModel_perform_7 ic_0 ?_
  refine lv_istore_n (lv' := [(2, .int 0), (1, .int 0), (0, .ref (a 0))]) hx hb d_TuneSetterModel_perform_8 rfl hl (by decide) rfl (fun ls hl => ?_)
  refine lv_iconst (v := 1) hx hb d_TuneSetterModel_perform_9 ic_1 ?_
  refine lv_istore_n (lv' := [(3, .int 1), (2, .int 0), (1, .int 0), (0, .ref (a 0))]) hx hb d_TuneSetterModel_perform_10 rfl hl (by decide) rfl (fun ls hl => ?_)
  obtain ⟨n11, h⟩ := h
  exact j11 n11 0 0 1 (upd I 24 0) A _ _ _ h hP hS (lv_sub hl [3, 2, 1, 0] rfl)
theorem k_TuneSetterModel_perform {p : Program} {l : Launch} {e : Env} {R : Room} {s : State} {m : MethodId} {args : Array Value} {below : List Frame} {meth : Method} {c : Code} {H : Heap} {locs : List Loc} {cells slots : Nat} {Q : State → Prop} {cc : ByteArray} {pc nL idx : Nat} {own : String} {ls : Array Slot} {D : va_G} {cA a : Nat → Nat} {AA : Nat → Prop} {I : Nat → Int32} {A : Nat → Nat → Int32} {post : Int32 → (Nat → Int32) → (Nat → Nat → Int32) → Prop} {rest : List Value} (S : CallFix p m c cc nL s args WALL own) (hK : KR D cA a AA s) (hD : ∀ I A, va_D AA (wR cA a I A)) (hA : ∀ q : Nat, s.heap.size ≤ q → AA q) (hS : va_S AA s.heap H locs) (hP : va_P D cls (wR cA a I A) H) (hl1 : ls.size = nL) (hlink : (Cond.methodLink own idx y_TuneSetterModel_perform).before args s = true) (hst : (rest.map fun v => v.category).sum ≤ 8) (hR : ({ frames := 2, cells := 0, slots := 0, locals := 50 } : Room).frames + 1 ≤ R.frames ∧ 8 + (5 + 11) + ({ frames := 2, cells := 0, slots := 0, locals := 50 } : Room).locals ≤ R.locals) (hcs : cells ≤ R.cells ∧ slots ≤ R.slots) (hdg : decode cc pc = .ok (.invokevirtual idx, 3)) (h : wp_TuneSetterModel_perform I A post) (kk : ∀ (r : Int32) (I1 : Nat → Int32) (A1 : Nat → Nat → Int32) (H1 : Heap) (locs1 : List Loc), post r I1 A1 → va_P D cls (wR cA a I1 A1) H1 → va_S AA s.heap H1 locs1 → W p l e R s m args below meth c H1 locs1 cells slots Q (F0 m (pc + 3) ls (.int r :: rest))) : W p l e R s m args below meth c H locs cells slots Q (F0 m pc ls (.ref (a 0) :: rest)) :=
  va_calli (va_runV (As := []) (rest := rest) S (c_TuneSetterModel_perform l D cA a H.size I A post h) ⟨callB_of 0 S.2.2.2.2 g_TuneSetterModel_perform rfl rfl rfl (S.2.2.2.2 _ mi_TuneSetterModel) hlink ⟨by decide, by decide, by decide +kernel⟩ hR, S.2.2.2.2 _ mn_TuneSetterModel_perform, S.2.2.2.2 _ ms_TuneSetterModel_perform⟩ (preRV hK hD hA hS hP 0 rfl rfl) rfl rfl hl1 rfl (lv_room hst) hdg hcs) hS (fun q _ z => AR_le hD hA hS q z) (fun q z => AR_le hD hA hS q z) (fun r u t H1 locs1 ht _ hp hB _ _ hS1 => kk r u.1 u.2 H1 locs1 hp (of_endR ht hB) hS1)
def wp_TuneSetterModel_goesOnLetter (x1 : Int32) (I : Nat → Int32) (A : Nat → Nat → Int32) (post : Int32 → (Nat → Int32) → (Nat → Nat → Int32) → Prop) : Prop := ((x1 = 39 → ((0 ≤ (I 18) → post 1 I A) ∧ (¬ 0 ≤ (I 18) → ((x1 = 44 → ((0 < (I 18) → post 0 I A) ∧ (¬ 0 < (I 18) → post 1 I A))) ∧ (¬ x1 = 44 → post 0 I A))))) ∧ (¬ x1 = 39 → ((x1 = 44 → ((0 < (I 18) → post 0 I A) ∧ (¬ 0 < (I 18) → post 1 I A))) ∧ (¬ x1 = 44 → post 0 I A))))
theorem d_TuneSetterModel_goesOnLetter_0 : decode b_TuneSetterModel_goesOnLetter 0 = .ok (.iload_n 1, 1) := by decide +kernel
theorem d_TuneSetterModel_goesOnLetter_1 : decode b_TuneSetterModel_goesOnLetter 1 = .ok (.bipush 39, 2) := by decide +kernel
theorem d_TuneSetterModel_goesOnLetter_3 : decode b_TuneSetterModel_goesOnLetter 3 = .ok (.if_icmp .ne 10, 3) := by decide +kernel
theorem d_TuneSetterModel_goesOnLetter_6 : decode b_TuneSetterModel_goesOnLetter 6 = .ok (.aload_n 0, 1) := by decide +kernel
theorem d_TuneSetterModel_goesOnLetter_7 : decode b_TuneSetterModel_goesOnLetter 7 = .ok (.getfield 122, 3) := by decide +kernel
theorem d_TuneSetterModel_goesOnLetter_10 : decode b_TuneSetterModel_goesOnLetter 10 = .ok (.ifCond .ge 16, 3) := by decide +kernel
theorem d_TuneSetterModel_goesOnLetter_13 : decode b_TuneSetterModel_goesOnLetter 13 = .ok (.iload_n 1, 1) := by decide +kernel
theorem d_TuneSetterModel_goesOnLetter_14 : decode b_TuneSetterModel_goesOnLetter 14 = .ok (.bipush 44, 2) := by decide +kernel
theorem d_TuneSetterModel_goesOnLetter_16 : decode b_TuneSetterModel_goesOnLetter 16 = .ok (.if_icmp .ne 14, 3) := by decide +kernel
theorem d_TuneSetterModel_goesOnLetter_19 : decode b_TuneSetterModel_goesOnLetter 19 = .ok (.aload_n 0, 1) := by decide +kernel
theorem d_TuneSetterModel_goesOnLetter_20 : decode b_TuneSetterModel_goesOnLetter 20 = .ok (.getfield 122, 3) := by decide +kernel
theorem d_TuneSetterModel_goesOnLetter_23 : decode b_TuneSetterModel_goesOnLetter 23 = .ok (.ifCond .gt 7, 3) := by decide +kernel
theorem d_TuneSetterModel_goesOnLetter_26 : decode b_TuneSetterModel_goesOnLetter 26 = .ok (.iconst 1, 1) := by decide +kernel
theorem d_TuneSetterModel_goesOnLetter_27 : decode b_TuneSetterModel_goesOnLetter 27 = .ok (.goto 4, 3) := by decide +kernel
theorem d_TuneSetterModel_goesOnLetter_30 : decode b_TuneSetterModel_goesOnLetter 30 = .ok (.iconst 0, 1) := by decide +kernel
theorem d_TuneSetterModel_goesOnLetter_31 : decode b_TuneSetterModel_goesOnLetter 31 = .ok (.ireturn, 1) := by decide +kernel
def w_TuneSetterModel_goesOnLetter : List Cond := .code y_TuneSetterModel_goesOnLetter b_TuneSetterModel_goesOnLetter 2 (some .boolean) :: WALL
theorem g_TuneSetterModel_goesOnLetter : GoodIn WALL w_TuneSetterModel_goesOnLetter := good_of mc_TuneSetterModel_goesOnLetter
set_option maxHeartbeats 4000000 in
set_option maxRecDepth 100000 in
theorem c_TuneSetterModel_goesOnLetter (l : Launch) (D : va_G) (cA a : Nat → Nat) (sz : Nat) (x1 : Int32) (I : Nat → Int32) (A : Nat → Nat → Int32) (post : Int32 → (Nat → Int32) → (Nat → Nat → Int32) → Prop) (h : wp_TuneSetterModel_goesOnLetter x1 I A post) : Met l y_TuneSetterModel_goesOnLetter w_TuneSetterModel_goesOnLetter ({ frames := 0, cells := 0, slots := 0, locals := 0 }) (va_Pc [.ref (a 0), .int x1] (PreR D cA a I A sz)) (va_Qi (fun r (u : StW) => post r u.1 u.2) (EndR D cA a) (AR a sz)) 0 0 (AR a sz) := by
  refine Met.ofW (cc := b_TuneSetterModel_goesOnLetter) (maxL := 2) (ret := (some .boolean)) (by decide) rfl ?_
  intro p e s m args below meth c s₁ B hml hv
  obtain ⟨rfl, hsz, hP, hK, hD0⟩ := hv
  have hx := B.exec
  have hb := B.bytes
  have hr := B.returns
  have hts := atoms_spec (ws := w_TuneSetterModel_goesOnLetter) B.pre
  have hw := wall_of hts
  have hown : s.vm.findClass R_TuneSetterModel = some m.cls := findClass_of_methodNamed B.named
  have hlocks := B.notSynchronized
  subst hsz
  have hD := hDR (sz := s.heap.size) hD0
  have hA : ∀ q : Nat, s.heap.size ≤ q → AR a s.heap.size q := fun q h => Or.inr h
  have hS : va_S (AR a s.heap.size) s.heap s.heap [] := va_S.rf
  have hl := lv_entry ([.ref (a 0), .int x1]) (n := 2) (Nat.le_of_ble_eq_true rfl)
  rw [lg_entry_eq]
  generalize (lg_sl ([.ref (a 0), .int x1]) ++ List.replicate (2 - (lg_sl ([.ref (a 0), .int x1])).length) Slot.unset).toArray = ls at hl ⊢
  have hl : lv_has ls 2 [(0, .ref (a 0)), (1, .int x1)] := hl
  unfold wp_TuneSetterModel_goesOnLetter at h
  refine lv_iload_n hx hb d_TuneSetterModel_goesOnLetter_0 rfl (lv_at hl 1 rfl) ?_
  refine lv_bipush (v := 39) hx hb d_TuneSetterModel_goesOnLetter_1 bp_39 ?_
  refine lv_icmp_ne (tgt := 13) hx hb d_TuneSetterModel_goesOnLetter_3 rfl (fun q => ?_) (fun q => ?_)
  · have h := h.2 q
    refine lv_iload_n hx hb d_TuneSetterModel_goesOnLetter_13 rfl (lv_at hl 1 rfl) ?_
    refine lv_bipush (v := 44) hx hb d_TuneSetterModel_goesOnLetter_14 bp_44 ?_
    refine lv_icmp_ne (tgt := 30) hx hb d_TuneSetterModel_goesOnLetter_16 rfl (fun q => ?_) (fun q => ?_)
    · have h := h.2 q
      refine lv_iconst (v := 0) hx hb d_TuneSetterModel_goesOnLetter_30 ic_0 ?_
      exact W.zret hx hb hr (vz_n vz0) (fun t ht hW => ⟨⟨_, (I, A), rfl, h, endR_of ht hP⟩, hS.F ht⟩) hS.2.2 d_TuneSetterModel_goesOnLetter_31
    · have h := h.1 q
      refine lv_aload_n hx hb d_TuneSetterModel_goesOnLetter_19 rfl (lv_at hl 0 rfl) ?_
      refine gR_TuneSetterModel_marks hx hb hw hown hK hP (hw _ m_TuneSetterModel_122) d_TuneSetterModel_goesOnLetter_20 ?_
      refine lv_if_gt (tgt := 30) hx hb d_TuneSetterModel_goesOnLetter_23 rfl (fun q => ?_) (fun q => ?_)
      · have h := h.1 q
        refine lv_iconst (v := 0) hx hb d_TuneSetterModel_goesOnLetter_30 ic_0 ?_
        exact W.zret hx hb hr (vz_n vz0) (fun t ht hW => ⟨⟨_, (I, A), rfl, h, endR_of ht hP⟩, hS.F ht⟩) hS.2.2 d_TuneSetterModel_goesOnLetter_31
      · have h := h.2 q
        refine lv_iconst (v := 1) hx hb d_TuneSetterModel_goesOnLetter_26 ic_1 ?_
        refine lv_goto (tgt := 31) hx hb d_TuneSetterModel_goesOnLetter_27 rfl ?_
        exact W.zret hx hb hr (vz_n vz1) (fun t ht hW => ⟨⟨_, (I, A), rfl, h, endR_of ht hP⟩, hS.F ht⟩) hS.2.2 d_TuneSetterModel_goesOnLetter_31
  · have h := h.1 q
    refine lv_aload_n hx hb d_TuneSetterModel_goesOnLetter_6 rfl (lv_at hl 0 rfl) ?_
    refine gR_TuneSetterModel_marks hx hb hw hown hK hP (hw _ m_TuneSetterModel_122) d_TuneSetterModel_goesOnLetter_7 ?_
    refine lv_if_ge (tgt := 26) hx hb d_TuneSetterModel_goesOnLetter_10 rfl (fun q => ?_) (fun q => ?_)
    · have h := h.1 q
      refine lv_iconst (v := 1) hx hb d_TuneSetterModel_goesOnLetter_26 ic_1 ?_
      refine lv_goto (tgt := 31) hx hb d_TuneSetterModel_goesOnLetter_27 rfl ?_
      exact W.zret hx hb hr (vz_n vz1) (fun t ht hW => ⟨⟨_, (I, A), rfl, h, endR_of ht hP⟩, hS.F ht⟩) hS.2.2 d_TuneSetterModel_goesOnLetter_31
    · have h := h.2 q
      refine lv_iload_n hx hb d_TuneSetterModel_goesOnLetter_13 rfl (lv_at hl 1 rfl) ?_
      refine lv_bipush (v := 44) hx hb d_TuneSetterModel_goesOnLetter_14 bp_44 ?_
      refine lv_icmp_ne (tgt := 30) hx hb d_TuneSetterModel_goesOnLetter_16 rfl (fun q => ?_) (fun q => ?_)
      · have h := h.2 q
        refine lv_iconst (v := 0) hx hb d_TuneSetterModel_goesOnLetter_30 ic_0 ?_
        exact W.zret hx hb hr (vz_n vz0) (fun t ht hW => ⟨⟨_, (I, A), rfl, h, endR_of ht hP⟩, hS.F ht⟩) hS.2.2 d_TuneSetterModel_goesOnLetter_31
      · have h := h.1 q
        refine lv_aload_n hx hb d_TuneSetterModel_goesOnLetter_19 rfl (lv_at hl 0 rfl) ?_
        refine gR_TuneSetterModel_marks hx hb hw hown hK hP (hw _ m_TuneSetterModel_122) d_TuneSetterModel_goesOnLetter_20 ?_
        refine lv_if_gt (tgt := 30) hx hb d_TuneSetterModel_goesOnLetter_23 rfl (fun q => ?_) (fun q => ?_)
        · have h := h.1 q
          refine lv_iconst (v := 0) hx hb d_TuneSetterModel_goesOnLetter_30 ic_0 ?_
          exact W.zret hx hb hr (vz_n vz0) (fun t ht hW => ⟨⟨_, (I, A), rfl, h, endR_of ht hP⟩, hS.F ht⟩) hS.2.2 d_TuneSetterModel_goesOnLetter_31
        · have h := h.2 q
          refine lv_iconst (v := 1) hx hb d_TuneSetterModel_goesOnLetter_26 ic_1 ?_
          refine lv_goto (tgt := 31) hx hb d_TuneSetterModel_goesOnLetter_27 rfl ?_
          exact W.zret hx hb hr (vz_n vz1) (fun t ht hW => ⟨⟨_, (I, A), rfl, h, endR_of ht hP⟩, hS.F ht⟩) hS.2.2 d_TuneSetterModel_goesOnLetter_31
theorem k_TuneSetterModel_goesOnLetter {p : Program} {l : Launch} {e : Env} {R : Room} {s : State} {m : MethodId} {args : Array Value} {below : List Frame} {meth : Method} {c : Code} {H : Heap} {locs : List Loc} {cells slots : Nat} {Q : State → Prop} {cc : ByteArray} {pc nL idx : Nat} {own : String} {ls : Array Slot} {D : va_G} {cA a : Nat → Nat} {AA : Nat → Prop} {I : Nat → Int32} {A : Nat → Nat → Int32} {post : Int32 → (Nat → Int32) → (Nat → Nat → Int32) → Prop} (x1 : Int32) {rest : List Value} (S : CallFix p m c cc nL s args WALL own) (hK : KR D cA a AA s) (hD : ∀ I A, va_D AA (wR cA a I A)) (hA : ∀ q : Nat, s.heap.size ≤ q → AA q) (hS : va_S AA s.heap H locs) (hP : va_P D cls (wR cA a I A) H) (hl1 : ls.size = nL) (hlink : (Cond.methodLink own idx y_TuneSetterModel_goesOnLetter).before args s = true) (hst : (rest.map fun v => v.category).sum ≤ 8) (hR : ({ frames := 0, cells := 0, slots := 0, locals := 0 } : Room).frames + 1 ≤ R.frames ∧ 8 + (2 + 11) + ({ frames := 0, cells := 0, slots := 0, locals := 0 } : Room).locals ≤ R.locals) (hcs : cells ≤ R.cells ∧ slots ≤ R.slots) (hdg : decode cc pc = .ok (.invokevirtual idx, 3)) (h : wp_TuneSetterModel_goesOnLetter x1 I A post) (kk : ∀ (r : Int32) (I1 : Nat → Int32) (A1 : Nat → Nat → Int32) (H1 : Heap) (locs1 : List Loc), post r I1 A1 → va_P D cls (wR cA a I1 A1) H1 → va_S AA s.heap H1 locs1 → W p l e R s m args below meth c H1 locs1 cells slots Q (F0 m (pc + 3) ls (.int r :: rest))) : W p l e R s m args below meth c H locs cells slots Q (F0 m pc ls (.int x1 :: .ref (a 0) :: rest)) :=
  va_calli (va_runV (As := [.int x1]) (rest := rest) S (c_TuneSetterModel_goesOnLetter l D cA a H.size x1 I A post h) ⟨callB_of 1 S.2.2.2.2 g_TuneSetterModel_goesOnLetter rfl rfl rfl (S.2.2.2.2 _ mi_TuneSetterModel) hlink ⟨by decide, by decide, by decide +kernel⟩ hR, S.2.2.2.2 _ mn_TuneSetterModel_goesOnLetter, S.2.2.2.2 _ ms_TuneSetterModel_goesOnLetter⟩ (preRV hK hD hA hS hP 0 rfl rfl) rfl rfl hl1 rfl (lv_room hst) hdg hcs) hS (fun q _ z => AR_le hD hA hS q z) (fun q z => AR_le hD hA hS q z) (fun r u t H1 locs1 ht _ hp hB _ _ hS1 => kk r u.1 u.2 H1 locs1 hp (of_endR ht hB) hS1)
def wp_TuneSetterModel_openNumber (I : Nat → Int32) (A : Nat → Nat → Int32) (post : (Nat → Int32) → (Nat → Nat → Int32) → Prop) : Prop := post (upd (upd (upd (upd (upd (upd I 19 0) 20 0) 21 0) 22 0) 23 0) 9 11) A
theorem d_TuneSetterModel_openNumber_0 : decode b_TuneSetterModel_openNumber 0 = .ok (.aload_n 0, 1) := by decide +kernel
theorem d_TuneSetterModel_openNumber_1 : decode b_TuneSetterModel_openNumber 1 = .ok (.iconst 0, 1) := by decide +kernel
theorem d_TuneSetterModel_openNumber_2 : decode b_TuneSetterModel_openNumber 2 = .ok (.putfield 232, 3) := by decide +kernel
theorem d_TuneSetterModel_openNumber_5 : decode b_TuneSetterModel_openNumber 5 = .ok (.aload_n 0, 1) := by decide +kernel
theorem d_TuneSetterModel_openNumber_6 : decode b_TuneSetterModel_openNumber 6 = .ok (.iconst 0, 1) := by decide +kernel
theorem d_TuneSetterModel_openNumber_7 : decode b_TuneSetterModel_openNumber 7 = .ok (.putfield 134, 3) := by decide +kernel
theorem d_TuneSetterModel_openNumber_10 : decode b_TuneSetterModel_openNumber 10 = .ok (.aload_n 0, 1) := by decide +kernel
theorem d_TuneSetterModel_openNumber_11 : decode b_TuneSetterModel_openNumber 11 = .ok (.iconst 0, 1) := by decide +kernel
theorem d_TuneSetterModel_openNumber_12 : decode b_TuneSetterModel_openNumber 12 = .ok (.putfield 125, 3) := by decide +kernel
theorem d_TuneSetterModel_openNumber_15 : decode b_TuneSetterModel_openNumber 15 = .ok (.aload_n 0, 1) := by decide +kernel
theorem d_TuneSetterModel_openNumber_16 : decode b_TuneSetterModel_openNumber 16 = .ok (.iconst 0, 1) := by decide +kernel
theorem d_TuneSetterModel_openNumber_17 : decode b_TuneSetterModel_openNumber 17 = .ok (.putfield 235, 3) := by decide +kernel
theorem d_TuneSetterModel_openNumber_20 : decode b_TuneSetterModel_openNumber 20 = .ok (.aload_n 0, 1) := by decide +kernel
theorem d_TuneSetterModel_openNumber_21 : decode b_TuneSetterModel_openNumber 21 = .ok (.iconst 0, 1) := by decide +kernel
theorem d_TuneSetterModel_openNumber_22 : decode b_TuneSetterModel_openNumber 22 = .ok (.putfield 131, 3) := by decide +kernel
theorem d_TuneSetterModel_openNumber_25 : decode b_TuneSetterModel_openNumber 25 = .ok (.aload_n 0, 1) := by decide +kernel
theorem d_TuneSetterModel_openNumber_26 : decode b_TuneSetterModel_openNumber 26 = .ok (.bipush 11, 2) := by decide +kernel
theorem d_TuneSetterModel_openNumber_28 : decode b_TuneSetterModel_openNumber 28 = .ok (.putfield 100, 3) := by decide +kernel
theorem d_TuneSetterModel_openNumber_31 : decode b_TuneSetterModel_openNumber 31 = .ok (.return_, 1) := by decide +kernel
def w_TuneSetterModel_openNumber : List Cond := .code y_TuneSetterModel_openNumber b_TuneSetterModel_openNumber 1 none :: WALL
theorem g_TuneSetterModel_openNumber : GoodIn WALL w_TuneSetterModel_openNumber := good_of mc_TuneSetterModel_openNumber
set_option maxHeartbeats 4000000 in
set_option maxRecDepth 100000 in
theorem c_TuneSetterModel_openNumber (l : Launch) (D : va_G) (cA a : Nat → Nat) (sz : Nat) (I : Nat → Int32) (A : Nat → Nat → Int32) (post : (Nat → Int32) → (Nat → Nat → Int32) → Prop) (h : wp_TuneSetterModel_openNumber I A post) : Met l y_TuneSetterModel_openNumber w_TuneSetterModel_openNumber ({ frames := 0, cells := 0, slots := 0, locals := 0 }) (va_Pc [.ref (a 0)] (PreR D cA a I A sz)) (va_Qv (fun (u : StW) => post u.1 u.2) (EndR D cA a) (AR a sz)) 0 0 (AR a sz) := by
  refine Met.ofW (cc := b_TuneSetterModel_openNumber) (maxL := 1) (ret := none) (by decide) rfl ?_
  intro p e s m args below meth c s₁ B hml hv
  obtain ⟨rfl, hsz, hP, hK, hD0⟩ := hv
  have hx := B.exec
  have hb := B.bytes
  have hr := B.returns
  have hts := atoms_spec (ws := w_TuneSetterModel_openNumber) B.pre
  have hw := wall_of hts
  have hown : s.vm.findClass R_TuneSetterModel = some m.cls := findClass_of_methodNamed B.named
  have hlocks := B.notSynchronized
  subst hsz
  have hD := hDR (sz := s.heap.size) hD0
  have hA : ∀ q : Nat, s.heap.size ≤ q → AR a s.heap.size q := fun q h => Or.inr h
  have hS : va_S (AR a s.heap.size) s.heap s.heap [] := va_S.rf
  have hl := lv_entry ([.ref (a 0)]) (n := 1) (Nat.le_of_ble_eq_true rfl)
  rw [lg_entry_eq]
  generalize (lg_sl ([.ref (a 0)]) ++ List.replicate (1 - (lg_sl ([.ref (a 0)])).length) Slot.unset).toArray = ls at hl ⊢
  have hl : lv_has ls 1 [(0, .ref (a 0))] := hl
  unfold wp_TuneSetterModel_openNumber at h
  refine lv_aload_n hx hb d_TuneSetterModel_openNumber_0 rfl (lv_at hl 0 rfl) ?_
  refine lv_iconst (v := 0) hx hb d_TuneSetterModel_openNumber_1 ic_0 ?_
  refine pR_TuneSetterModel_top hx hb hw hown hK hD hS hP (hw _ m_TuneSetterModel_232) d_TuneSetterModel_openNumber_2 (fun H locs hP hS => ?_)
  refine lv_aload_n hx hb d_TuneSetterModel_openNumber_5 rfl (lv_at hl 0 rfl) ?_
  refine lv_iconst (v := 0) hx hb d_TuneSetterModel_openNumber_6 ic_0 ?_
  refine pR_TuneSetterModel_topDigits hx hb hw hown hK hD hS hP (hw _ m_TuneSetterModel_134) d_TuneSetterModel_openNumber_7 (fun H locs hP hS => ?_)
  refine lv_aload_n hx hb d_TuneSetterModel_openNumber_10 rfl (lv_at hl 0 rfl) ?_
  refine lv_iconst (v := 0) hx hb d_TuneSetterModel_openNumber_11 ic_0 ?_
  refine pR_TuneSetterModel_slash hx hb hw hown hK hD hS hP (hw _ m_TuneSetterModel_125) vz0 d_TuneSetterModel_openNumber_12 (fun H locs hP hS => ?_)
  refine lv_aload_n hx hb d_TuneSetterModel_openNumber_15 rfl (lv_at hl 0 rfl) ?_
  refine lv_iconst (v := 0) hx hb d_TuneSetterModel_openNumber_16 ic_0 ?_
  refine pR_TuneSetterModel_below hx hb hw hown hK hD hS hP (hw _ m_TuneSetterModel_235) d_TuneSetterModel_openNumber_17 (fun H locs hP hS => ?_)
  refine lv_aload_n hx hb d_TuneSetterModel_openNumber_20 rfl (lv_at hl 0 rfl) ?_
  refine lv_iconst (v := 0) hx hb d_TuneSetterModel_openNumber_21 ic_0 ?_
  refine pR_TuneSetterModel_belowDigits hx hb hw hown hK hD hS hP (hw _ m_TuneSetterModel_131) d_TuneSetterModel_openNumber_22 (fun H locs hP hS => ?_)
  refine lv_aload_n hx hb d_TuneSetterModel_openNumber_25 rfl (lv_at hl 0 rfl) ?_
  refine lv_bipush (v := 11) hx hb d_TuneSetterModel_openNumber_26 bp_11 ?_
  refine pR_TuneSetterModel_state hx hb hw hown hK hD hS hP (hw _ m_TuneSetterModel_100) d_TuneSetterModel_openNumber_28 (fun H locs hP hS => ?_)
  exact W.vret hx hb hr (fun t ht hW => ⟨⟨((upd (upd (upd (upd (upd (upd I 19 0) 20 0) 21 0) 22 0) 23 0) 9 11), A), rfl, h, endR_of ht hP⟩, hS.F ht⟩) hS.2.2 d_TuneSetterModel_openNumber_31
theorem k_TuneSetterModel_openNumber {p : Program} {l : Launch} {e : Env} {R : Room} {s : State} {m : MethodId} {args : Array Value} {below : List Frame} {meth : Method} {c : Code} {H : Heap} {locs : List Loc} {cells slots : Nat} {Q : State → Prop} {cc : ByteArray} {pc nL idx : Nat} {own : String} {ls : Array Slot} {D : va_G} {cA a : Nat → Nat} {AA : Nat → Prop} {I : Nat → Int32} {A : Nat → Nat → Int32} {post : (Nat → Int32) → (Nat → Nat → Int32) → Prop} {rest : List Value} (S : CallFix p m c cc nL s args WALL own) (hK : KR D cA a AA s) (hD : ∀ I A, va_D AA (wR cA a I A)) (hA : ∀ q : Nat, s.heap.size ≤ q → AA q) (hS : va_S AA s.heap H locs) (hP : va_P D cls (wR cA a I A) H) (hl1 : ls.size = nL) (hlink : (Cond.methodLink own idx y_TuneSetterModel_openNumber).before args s = true) (hst : (rest.map fun v => v.category).sum ≤ 8) (hR : ({ frames := 0, cells := 0, slots := 0, locals := 0 } : Room).frames + 1 ≤ R.frames ∧ 8 + (1 + 11) + ({ frames := 0, cells := 0, slots := 0, locals := 0 } : Room).locals ≤ R.locals) (hcs : cells ≤ R.cells ∧ slots ≤ R.slots) (hdg : decode cc pc = .ok (.invokevirtual idx, 3)) (h : wp_TuneSetterModel_openNumber I A post) (kk : ∀ (I1 : Nat → Int32) (A1 : Nat → Nat → Int32) (H1 : Heap) (locs1 : List Loc), post I1 A1 → va_P D cls (wR cA a I1 A1) H1 → va_S AA s.heap H1 locs1 → W p l e R s m args below meth c H1 locs1 cells slots Q (F0 m (pc + 3) ls rest)) : W p l e R s m args below meth c H locs cells slots Q (F0 m pc ls (.ref (a 0) :: rest)) :=
  va_callv (va_runV (As := []) (rest := rest) S (c_TuneSetterModel_openNumber l D cA a H.size I A post h) ⟨callB_of 0 S.2.2.2.2 g_TuneSetterModel_openNumber rfl rfl rfl (S.2.2.2.2 _ mi_TuneSetterModel) hlink ⟨by decide, by decide, by decide +kernel⟩ hR, S.2.2.2.2 _ mn_TuneSetterModel_openNumber, S.2.2.2.2 _ ms_TuneSetterModel_openNumber⟩ (preRV hK hD hA hS hP 0 rfl rfl) rfl rfl hl1 rfl (lv_room hst) hdg hcs) hS (fun q _ z => AR_le hD hA hS q z) (fun q z => AR_le hD hA hS q z) (fun u t H1 locs1 ht _ hp hB _ _ hS1 => kk u.1 u.2 H1 locs1 hp (of_endR ht hB) hS1)

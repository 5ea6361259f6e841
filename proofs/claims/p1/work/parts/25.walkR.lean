def wp_TuneSetterModel_widthOf_58 (k36 : Int32 → Int32 → Int32 → (Nat → Int32) → (Nat → Nat → Int32) → Prop) (post : Int32 → (Nat → Int32) → (Nat → Nat → Int32) → Prop) : Nat → Int32 → Int32 → Int32 → Int32 → (Nat → Int32) → (Nat → Nat → Int32) → Prop
  | 0, _, _, _, _, _, _ => False
  | n + 1, y2, y3, y4, y5, I, A => (vp_in y4 48 ∧ (((A 6 (y4.toNatClampNeg)) < y5 → (∀ v82 : Int32, v82 = y4 + 1 → k36 y2 y3 v82 I A)) ∧ (¬ (A 6 (y4.toNatClampNeg)) < y5 → (∀ v70 : Int32, v70 = y2 + 1 → (∀ v77 : Int32, v77 = (2 : Int32) * y5 → wp_TuneSetterModel_widthOf_58 k36 post n v70 y3 y4 v77 I A)))))
def wp_TuneSetterModel_widthOf_36 (post : Int32 → (Nat → Int32) → (Nat → Nat → Int32) → Prop) : Nat → Int32 → Int32 → Int32 → (Nat → Int32) → (Nat → Nat → Int32) → Prop
  | 0, _, _, _, _, _ => False
  | n + 1, y2, y3, y4, I, A => ((y3 ≤ y4 → post y2 I A) ∧ (¬ y3 ≤ y4 → (vp_in y4 48 ∧ (∀ v53 : Int32, v53 = y2 + ((3 : Int32) + (A 8 (y4.toNatClampNeg))) → (∃ n58, wp_TuneSetterModel_widthOf_58 (fun y2 y3 y4 I A => wp_TuneSetterModel_widthOf_36 post n y2 y3 y4 I A) post n58 v53 y3 y4 48 I A)))))
def wp_TuneSetterModel_widthOf (x1 : Int32) (I : Nat → Int32) (A : Nat → Nat → Int32) (post : Int32 → (Nat → Int32) → (Nat → Nat → Int32) → Prop) : Prop := (((I 5) ≤ (x1 + 1) → (∀ v27 : Int32, v27 = (I 8) → (vp_in x1 9 ∧ (∀ v34 : Int32, v34 = (A 2 (x1.toNatClampNeg)) → (∃ n36, wp_TuneSetterModel_widthOf_36 post n36 2 v27 v34 I A))))) ∧ (¬ (I 5) ≤ (x1 + 1) → (vp_in (x1 + 1) 9 ∧ (∀ v27 : Int32, v27 = (A 2 ((x1 + 1).toNatClampNeg)) → (vp_in x1 9 ∧ (∀ v34 : Int32, v34 = (A 2 (x1.toNatClampNeg)) → (∃ n36, wp_TuneSetterModel_widthOf_36 post n36 2 v27 v34 I A)))))))
theorem d_TuneSetterModel_widthOf_0 : decode b_TuneSetterModel_widthOf 0 = .ok (.iconst 2, 1) := by decide +kernel
theorem d_TuneSetterModel_widthOf_1 : decode b_TuneSetterModel_widthOf 1 = .ok (.istore_n 2, 1) := by decide +kernel
theorem d_TuneSetterModel_widthOf_2 : decode b_TuneSetterModel_widthOf 2 = .ok (.iload_n 1, 1) := by decide +kernel
theorem d_TuneSetterModel_widthOf_3 : decode b_TuneSetterModel_widthOf 3 = .ok (.iconst 1, 1) := by decide +kernel
theorem d_TuneSetterModel_widthOf_4 : decode b_TuneSetterModel_widthOf 4 = .ok (.iadd, 1) := by decide +kernel
theorem d_TuneSetterModel_widthOf_5 : decode b_TuneSetterModel_widthOf 5 = .ok (.aload_n 0, 1) := by decide +kernel
theorem d_TuneSetterModel_widthOf_6 : decode b_TuneSetterModel_widthOf 6 = .ok (.getfield 87, 3) := by decide +kernel
theorem d_TuneSetterModel_widthOf_9 : decode b_TuneSetterModel_widthOf 9 = .ok (.if_icmp .ge 14, 3) := by decide +kernel
theorem d_TuneSetterModel_widthOf_12 : decode b_TuneSetterModel_widthOf 12 = .ok (.aload_n 0, 1) := by decide +kernel
theorem d_TuneSetterModel_widthOf_13 : decode b_TuneSetterModel_widthOf 13 = .ok (.getfield 26, 3) := by decide +kernel
theorem d_TuneSetterModel_widthOf_16 : decode b_TuneSetterModel_widthOf 16 = .ok (.iload_n 1, 1) := by decide +kernel
theorem d_TuneSetterModel_widthOf_17 : decode b_TuneSetterModel_widthOf 17 = .ok (.iconst 1, 1) := by decide +kernel
theorem d_TuneSetterModel_widthOf_18 : decode b_TuneSetterModel_widthOf 18 = .ok (.iadd, 1) := by decide +kernel
theorem d_TuneSetterModel_widthOf_19 : decode b_TuneSetterModel_widthOf 19 = .ok (.iaload, 1) := by decide +kernel
theorem d_TuneSetterModel_widthOf_20 : decode b_TuneSetterModel_widthOf 20 = .ok (.goto 7, 3) := by decide +kernel
theorem d_TuneSetterModel_widthOf_23 : decode b_TuneSetterModel_widthOf 23 = .ok (.aload_n 0, 1) := by decide +kernel
theorem d_TuneSetterModel_widthOf_24 : decode b_TuneSetterModel_widthOf 24 = .ok (.getfield 90, 3) := by decide +kernel
theorem d_TuneSetterModel_widthOf_27 : decode b_TuneSetterModel_widthOf 27 = .ok (.istore_n 3, 1) := by decide +kernel
theorem d_TuneSetterModel_widthOf_28 : decode b_TuneSetterModel_widthOf 28 = .ok (.aload_n 0, 1) := by decide +kernel
theorem d_TuneSetterModel_widthOf_29 : decode b_TuneSetterModel_widthOf 29 = .ok (.getfield 26, 3) := by decide +kernel
theorem d_TuneSetterModel_widthOf_32 : decode b_TuneSetterModel_widthOf 32 = .ok (.iload_n 1, 1) := by decide +kernel
theorem d_TuneSetterModel_widthOf_33 : decode b_TuneSetterModel_widthOf 33 = .ok (.iaload, 1) := by decide +kernel
theorem d_TuneSetterModel_widthOf_34 : decode b_TuneSetterModel_widthOf 34 = .ok (.istore 4, 2) := by decide +kernel
theorem d_TuneSetterModel_widthOf_36 : decode b_TuneSetterModel_widthOf 36 = .ok (.iload 4, 2) := by decide +kernel
theorem d_TuneSetterModel_widthOf_38 : decode b_TuneSetterModel_widthOf 38 = .ok (.iload_n 3, 1) := by decide +kernel
theorem d_TuneSetterModel_widthOf_39 : decode b_TuneSetterModel_widthOf 39 = .ok (.if_icmp .ge 49, 3) := by decide +kernel
theorem d_TuneSetterModel_widthOf_42 : decode b_TuneSetterModel_widthOf 42 = .ok (.iload_n 2, 1) := by decide +kernel
theorem d_TuneSetterModel_widthOf_43 : decode b_TuneSetterModel_widthOf 43 = .ok (.iconst 3, 1) := by decide +kernel
theorem d_TuneSetterModel_widthOf_44 : decode b_TuneSetterModel_widthOf 44 = .ok (.aload_n 0, 1) := by decide +kernel
theorem d_TuneSetterModel_widthOf_45 : decode b_TuneSetterModel_widthOf 45 = .ok (.getfield 45, 3) := by decide +kernel
theorem d_TuneSetterModel_widthOf_48 : decode b_TuneSetterModel_widthOf 48 = .ok (.iload 4, 2) := by decide +kernel
theorem d_TuneSetterModel_widthOf_50 : decode b_TuneSetterModel_widthOf 50 = .ok (.iaload, 1) := by decide +kernel
theorem d_TuneSetterModel_widthOf_51 : decode b_TuneSetterModel_widthOf 51 = .ok (.iadd, 1) := by decide +kernel
theorem d_TuneSetterModel_widthOf_52 : decode b_TuneSetterModel_widthOf 52 = .ok (.iadd, 1) := by decide +kernel
theorem d_TuneSetterModel_widthOf_53 : decode b_TuneSetterModel_widthOf 53 = .ok (.istore_n 2, 1) := by decide +kernel
theorem d_TuneSetterModel_widthOf_54 : decode b_TuneSetterModel_widthOf 54 = .ok (.bipush 48, 2) := by decide +kernel
theorem d_TuneSetterModel_widthOf_56 : decode b_TuneSetterModel_widthOf 56 = .ok (.istore 5, 2) := by decide +kernel
theorem d_TuneSetterModel_widthOf_58 : decode b_TuneSetterModel_widthOf 58 = .ok (.iload 5, 2) := by decide +kernel
theorem d_TuneSetterModel_widthOf_60 : decode b_TuneSetterModel_widthOf 60 = .ok (.aload_n 0, 1) := by decide +kernel
theorem d_TuneSetterModel_widthOf_61 : decode b_TuneSetterModel_widthOf 61 = .ok (.getfield 38, 3) := by decide +kernel
theorem d_TuneSetterModel_widthOf_64 : decode b_TuneSetterModel_widthOf 64 = .ok (.iload 4, 2) := by decide +kernel
theorem d_TuneSetterModel_widthOf_66 : decode b_TuneSetterModel_widthOf 66 = .ok (.iaload, 1) := by decide +kernel
theorem d_TuneSetterModel_widthOf_67 : decode b_TuneSetterModel_widthOf 67 = .ok (.if_icmp .gt 15, 3) := by decide +kernel
theorem d_TuneSetterModel_widthOf_70 : decode b_TuneSetterModel_widthOf 70 = .ok (.iinc 2 1, 3) := by decide +kernel
theorem d_TuneSetterModel_widthOf_73 : decode b_TuneSetterModel_widthOf 73 = .ok (.iconst 2, 1) := by decide +kernel
theorem d_TuneSetterModel_widthOf_74 : decode b_TuneSetterModel_widthOf 74 = .ok (.iload 5, 2) := by decide +kernel
theorem d_TuneSetterModel_widthOf_76 : decode b_TuneSetterModel_widthOf 76 = .ok (.imul, 1) := by decide +kernel
theorem d_TuneSetterModel_widthOf_77 : decode b_TuneSetterModel_widthOf 77 = .ok (.istore 5, 2) := by decide +kernel
theorem d_TuneSetterModel_widthOf_79 : decode b_TuneSetterModel_widthOf 79 = .ok (.goto (-21), 3) := by decide +kernel
theorem d_TuneSetterModel_widthOf_82 : decode b_TuneSetterModel_widthOf 82 = .ok (.iinc 4 1, 3) := by decide +kernel
theorem d_TuneSetterModel_widthOf_85 : decode b_TuneSetterModel_widthOf 85 = .ok (.goto (-49), 3) := by decide +kernel
theorem d_TuneSetterModel_widthOf_88 : decode b_TuneSetterModel_widthOf 88 = .ok (.iload_n 2, 1) := by decide +kernel
theorem d_TuneSetterModel_widthOf_89 : decode b_TuneSetterModel_widthOf 89 = .ok (.ireturn, 1) := by decide +kernel
def w_TuneSetterModel_widthOf : List Cond := .code y_TuneSetterModel_widthOf b_TuneSetterModel_widthOf 6 (some .int) :: WALL
theorem g_TuneSetterModel_widthOf : GoodIn WALL w_TuneSetterModel_widthOf := good_of mc_TuneSetterModel_widthOf
set_option maxHeartbeats 4000000 in
set_option maxRecDepth 100000 in
theorem c_TuneSetterModel_widthOf (l : Launch) (D : va_G) (cA a : Nat → Nat) (sz : Nat) (x1 : Int32) (I : Nat → Int32) (A : Nat → Nat → Int32) (post : Int32 → (Nat → Int32) → (Nat → Nat → Int32) → Prop) (h : wp_TuneSetterModel_widthOf x1 I A post) : Met l y_TuneSetterModel_widthOf w_TuneSetterModel_widthOf ({ frames := 0, cells := 0, slots := 0, locals := 0 }) (va_Pc [.ref (a 0), .int x1] (PreR D cA a I A sz)) (va_Qi (fun r (u : StW) => post r u.1 u.2) (EndR D cA a) (AR a sz)) 0 0 (AR a sz) := by
  refine Met.ofW (cc := b_TuneSetterModel_widthOf) (maxL := 6) (ret := (some .int)) (by decide) rfl ?_
  intro p e s m args below meth c s₁ B hml hv
  obtain ⟨rfl, hsz, hP, hK, hD0⟩ := hv
  have hx := B.exec
  have hb := B.bytes
  have hr := B.returns
  have hts := atoms_spec (ws := w_TuneSetterModel_widthOf) B.pre
  have hw := wall_of hts
  have hown : s.vm.findClass R_TuneSetterModel = some m.cls := findClass_of_methodNamed B.named
  have hlocks := B.notSynchronized
  subst hsz
  have hD := hDR (sz := s.heap.size) hD0
  have hA : ∀ q : Nat, s.heap.size ≤ q → AR a s.heap.size q := fun q h => Or.inr h
  have hS : va_S (AR a s.heap.size) s.heap s.heap [] := va_S.rf
  have j58 : ∀ (k36 : Int32 → Int32 → Int32 → (Nat → Int32) → (Nat → Nat → Int32) → Prop) (hk36 : ∀ (y2 : Int32) (y3 : Int32) (y4 : Int32) (I : Nat → Int32) (A : Nat → Nat → Int32) (H : Heap) (locs : List Loc) (ls : Array Slot), k36 y2 y3 y4 I A → va_P D cls (wR cA a I A) H → va_S (AR a s.heap.size) s.heap H locs → lv_has ls 6 [(0, .ref (a 0)), (2, .int y2), (3, .int y3), (4, .int y4)] → W p l e (headSpec w_TuneSetterModel_widthOf ({ frames := 0, cells := 0, slots := 0, locals := 0 })).room s m [.ref (a 0), .int x1].toArray below meth c H locs 0 0 (MQ below (va_Qi (fun r (u : StW) => post r u.1 u.2) (EndR D cA a) (AR a s.heap.size)) [.ref (a 0), .int x1].toArray s 0 0 (AR a s.heap.size)) (F0 m 36 ls [])), ∀ n : Nat, ∀ (y2 : Int32) (y3 : Int32) (y4 : Int32) (y5 : Int32) (I : Nat → Int32) (A : Nat → Nat → Int32) (H : Heap) (locs : List Loc) (ls : Array Slot), wp_TuneSetterModel_widthOf_58 k36 post n y2 y3 y4 y5 I A → va_P D cls (wR cA a I A) H → va_S (AR a s.heap.size) s.heap H locs → lv_has ls 6 [(0, .ref (a 0)), (2, .int y2), (3, .int y3), (4, .int y4), (5, .int y5)] → W p l e (headSpec w_TuneSetterModel_widthOf ({ frames := 0, cells := 0, slots := 0, locals := 0 })).room s m [.ref (a 0), .int x1].toArray below meth c H locs 0 0 (MQ below (va_Qi (fun r (u : StW) => post r u.1 u.2) (EndR D cA a) (AR a s.heap.size)) [.ref (a 0), .int x1].toArray s 0 0 (AR a s.heap.size)) (F0 m 58 ls []) := by
    intro k36 hk36
    intro n
    induction n with
    | zero =>
      intro y2 y3 y4 y5 I A H locs ls h hP hS hl
      exact False.elim h
    | succ n ih =>
      intro y2 y3 y4 y5 I A H locs ls h hP hS hl
      unfold wp_TuneSetterModel_widthOf_58 at h
      refine lv_iload hx hb d_TuneSetterModel_widthOf_58 (lv_at hl 4 rfl) ?_
      refine lv_aload_n hx hb d_TuneSetterModel_widthOf_60 rfl (lv_at hl 0 rfl) ?_
      refine gR_TuneSetterModel_ticks hx hb hw hown hK hP (hw _ m_TuneSetterModel_38) d_TuneSetterModel_widthOf_61 ?_
      refine lv_iload hx hb d_TuneSetterModel_widthOf_64 (lv_at hl 3 rfl) ?_
      obtain ⟨hin, h⟩ := h
      refine lR6 hx hb hK hP hin d_TuneSetterModel_widthOf_66 ?_
      refine lv_icmp_gt (tgt := 82) hx hb d_TuneSetterModel_widthOf_67 rfl (fun q => ?_) (fun q => ?_)
      · have h := h.1 q
        obtain ⟨v82, ev82⟩ : ∃ z : Int32, z = y4 + 1 := ⟨_, rfl⟩
        have h := h v82 ev82
        refine lv_iinc (k := 3) (v := v82) (lv' := [(4, .int v82), (0, .ref (a 0)), (2, .int y2), (3, .int y3), (5, .int y5)]) hx hb d_TuneSetterModel_widthOf_82 hl rfl (by rw [ev82, ic_1]) (by decide) rfl (fun ls hl => ?_)
        refine lv_goto (tgt := 36) hx hb d_TuneSetterModel_widthOf_85 rfl ?_
        exact hk36 y2 y3 v82 I A _ _ _ h hP hS (lv_sub hl [1, 2, 3, 0] rfl)
      · have h := h.2 q
        obtain ⟨v70, ev70⟩ : ∃ z : Int32, z = y2 + 1 := ⟨_, rfl⟩
        have h := h v70 ev70
        refine lv_iinc (k := 1) (v := v70) (lv' := [(2, .int v70), (0, .ref (a 0)), (3, .int y3), (4, .int y4), (5, .int y5)]) hx hb d_TuneSetterModel_widthOf_70 hl rfl (by rw [ev70, ic_1]) (by decide) rfl (fun ls hl => ?_)
        refine lv_iconst (v := 2) hx hb d_TuneSetterModel_widthOf_73 ic_2 ?_
        refine lv_iload hx hb d_TuneSetterModel_widthOf_74 (lv_at hl 4 rfl) ?_
        refine lv_imul hx hb d_TuneSetterModel_widthOf_76 ?_
        refine lv_topi (fun v77 ev77 => ?_)
        have h := h v77 ev77
        refine lv_istore (lv' := [(5, .int v77), (2, .int v70), (0, .ref (a 0)), (3, .int y3), (4, .int y4)]) hx hb d_TuneSetterModel_widthOf_77 hl (by decide) rfl (fun ls hl => ?_)
        refine lv_goto (tgt := 58) hx hb d_TuneSetterModel_widthOf_79 rfl ?_
        exact ih v70 y3 y4 v77 I A _ _ _ h hP hS (lv_sub hl [2, 1, 3, 4, 0] rfl)
  have j36 : ∀ n : Nat, ∀ (y2 : Int32) (y3 : Int32) (y4 : Int32) (I : Nat → Int32) (A : Nat → Nat → Int32) (H : Heap) (locs : List Loc) (ls : Array Slot), wp_TuneSetterModel_widthOf_36 post n y2 y3 y4 I A → va_P D cls (wR cA a I A) H → va_S (AR a s.heap.size) s.heap H locs → lv_has ls 6 [(0, .ref (a 0)), (2, .int y2), (3, .int y3), (4, .int y4)] → W p l e (headSpec w_TuneSetterModel_widthOf ({ frames := 0, cells := 0, slots := 0, locals := 0 })).room s m [.ref (a 0), .int x1].toArray below meth c H locs 0 0 (MQ below (va_Qi (fun r (u : StW) => post r u.1 u.2) (EndR D cA a) (AR a s.heap.size)) [.ref (a 0), .int x1].toArray s 0 0 (AR a s.heap.size)) (F0 m 36 ls []) := by
    intro n
    induction n with
    | zero =>
      intro y2 y3 y4 I A H locs ls h hP hS hl
      exact False.elim h
    | succ n ih =>
      intro y2 y3 y4 I A H locs ls h hP hS hl
      unfold wp_TuneSetterModel_widthOf_36 at h
      refine lv_iload hx hb d_TuneSetterModel_widthOf_36 (lv_at hl 3 rfl) ?_
      refine lv_iload_n hx hb d_TuneSetterModel_widthOf_38 rfl (lv_at hl 2 rfl) ?_
      refine lv_icmp_ge (tgt := 88) hx hb d_TuneSetterModel_widthOf_39 rfl (fun q => ?_) (fun q => ?_)
      · have h := h.1 q
        refine lv_iload_n hx hb d_TuneSetterModel_widthOf_88 rfl (lv_at hl 1 rfl) ?_
        exact W.iret hx hb hr (fun t ht hW => ⟨⟨_, (I, A), rfl, h, endR_of ht hP⟩, hS.F ht⟩) hS.2.2 d_TuneSetterModel_widthOf_89
      · have h := h.2 q
        refine lv_iload_n hx hb d_TuneSetterModel_widthOf_42 rfl (lv_at hl 1 rfl) ?_
        refine lv_iconst (v := 3) hx hb d_TuneSetterModel_widthOf_43 ic_3 ?_
        refine lv_aload_n hx hb d_TuneSetterModel_widthOf_44 rfl (lv_at hl 0 rfl) ?_
        refine gR_TuneSetterModel_signs hx hb hw hown hK hP (hw _ m_TuneSetterModel_45) d_TuneSetterModel_widthOf_45 ?_
        refine lv_iload hx hb d_TuneSetterModel_widthOf_48 (lv_at hl 3 rfl) ?_
        obtain ⟨hin, h⟩ := h
        refine lR8 hx hb hK hP hin d_TuneSetterModel_widthOf_50 ?_
        refine lv_iadd hx hb d_TuneSetterModel_widthOf_51 ?_
        refine lv_iadd hx hb d_TuneSetterModel_widthOf_52 ?_
        refine lv_topi (fun v53 ev53 => ?_)
        have h := h v53 ev53
        refine lv_istore_n (lv' := [(2, .int v53), (0, .ref (a 0)), (3, .int y3), (4, .int y4)]) hx hb d_TuneSetterModel_widthOf_53 rfl hl (by decide) rfl (fun ls hl => ?_)
        refine lv_bipush (v := 48) hx hb d_TuneSetterModel_widthOf_54 bp_48 ?_
        refine lv_istore (lv' := [(5, .int 48), (2, .int v53), (0, .ref (a 0)), (3, .int y3), (4, .int y4)]) hx hb d_TuneSetterModel_widthOf_56 hl (by decide) rfl (fun ls hl => ?_)
        obtain ⟨n58, h⟩ := h
        exact (j58 _ ih) n58 v53 y3 y4 48 I A _ _ _ h hP hS (lv_sub hl [2, 1, 3, 4, 0] rfl)
  have hl := lv_entry ([.ref (a 0), .int x1]) (n := 6) (Nat.le_of_ble_eq_true rfl)
  rw [lg_entry_eq]
  generalize (lg_sl ([.ref (a 0), .int x1]) ++ List.replicate (6 - (lg_sl ([.ref (a 0), .int x1])).length) Slot.unset).toArray = ls at hl ⊢
  have hl : lv_has ls 6 [(0, .ref (a 0)), (1, .int x1)] := hl
  unfold wp_TuneSetterModel_widthOf at h
  refine lv_iconst (v := 2) hx hb d_TuneSetterModel_widthOf_0 ic_2 ?_
  refine lv_istore_n (lv' := [(2, .int 2), (0, .ref (a 0)), (1, .int x1)]) hx hb d_TuneSetterModel_widthOf_1 rfl hl (by decide) rfl (fun ls hl => ?_)
  refine lv_iload_n hx hb d_TuneSetterModel_widthOf_2 rfl (lv_at hl 2 rfl) ?_
  refine lv_iconst (v := 1) hx hb d_TuneSetterModel_widthOf_3 ic_1 ?_
  refine lv_iadd hx hb d_TuneSetterModel_widthOf_4 ?_
  refine lv_aload_n hx hb d_TuneSetterModel_widthOf_5 rfl (lv_at hl 1 rfl) ?_
  refine gR_TuneSetterModel_bars hx hb hw hown hK hP (hw _ m_TuneSetterModel_87) d_TuneSetterModel_widthOf_6 ?_
  refine lv_icmp_ge (tgt := 23) hx hb d_TuneSetterModel_widthOf_9 rfl (fun q => ?_) (fun q => ?_)
  · have h := h.1 q
    refine lv_aload_n hx hb d_TuneSetterModel_widthOf_23 rfl (lv_at hl 1 rfl) ?_
    refine gR_TuneSetterModel_items hx hb hw hown hK hP (hw _ m_TuneSetterModel_90) d_TuneSetterModel_widthOf_24 ?_
    refine lv_topi (fun v27 ev27 => ?_)
    have h := h v27 ev27
    refine lv_istore_n (lv' := [(3, .int v27), (2, .int 2), (0, .ref (a 0)), (1, .int x1)]) hx hb d_TuneSetterModel_widthOf_27 rfl hl (by decide) rfl (fun ls hl => ?_)
    refine lv_aload_n hx hb d_TuneSetterModel_widthOf_28 rfl (lv_at hl 2 rfl) ?_
    refine gR_TuneSetterModel_firstItem hx hb hw hown hK hP (hw _ m_TuneSetterModel_26) d_TuneSetterModel_widthOf_29 ?_
    refine lv_iload_n hx hb d_TuneSetterModel_widthOf_32 rfl (lv_at hl 3 rfl) ?_
    obtain ⟨hin, h⟩ := h
    refine lR2 hx hb hK hP hin d_TuneSetterModel_widthOf_33 ?_
    refine lv_topi (fun v34 ev34 => ?_)
    have h := h v34 ev34
    refine lv_istore (lv' := [(4, .int v34), (3, .int v27), (2, .int 2), (0, .ref (a 0)), (1, .int x1)]) hx hb d_TuneSetterModel_widthOf_34 hl (by decide) rfl (fun ls hl => ?_)
    obtain ⟨n36, h⟩ := h
    exact j36 n36 2 v27 v34 I A _ _ _ h hP hS (lv_sub hl [3, 2, 1, 0] rfl)
  · have h := h.2 q
    refine lv_aload_n hx hb d_TuneSetterModel_widthOf_12 rfl (lv_at hl 1 rfl) ?_
    refine gR_TuneSetterModel_firstItem hx hb hw hown hK hP (hw _ m_TuneSetterModel_26) d_TuneSetterModel_widthOf_13 ?_
    refine lv_iload_n hx hb d_TuneSetterModel_widthOf_16 rfl (lv_at hl 2 rfl) ?_
    refine lv_iconst (v := 1) hx hb d_TuneSetterModel_widthOf_17 ic_1 ?_
    refine lv_iadd hx hb d_TuneSetterModel_widthOf_18 ?_
    obtain ⟨hin, h⟩ := h
    refine lR2 hx hb hK hP hin d_TuneSetterModel_widthOf_19 ?_
    refine lv_goto (tgt := 27) hx hb d_TuneSetterModel_widthOf_20 rfl ?_
    refine lv_topi (fun v27 ev27 => ?_)
    have h := h v27 ev27
    refine lv_istore_n (lv' := [(3, .int v27), (2, .int 2), (0, .ref (a 0)), (1, .int x1)]) hx hb d_TuneSetterModel_widthOf_27 rfl hl (by decide) rfl (fun ls hl => ?_)
    refine lv_aload_n hx hb d_TuneSetterModel_widthOf_28 rfl (lv_at hl 2 rfl) ?_
    refine gR_TuneSetterModel_firstItem hx hb hw hown hK hP (hw _ m_TuneSetterModel_26) d_TuneSetterModel_widthOf_29 ?_
    refine lv_iload_n hx hb d_TuneSetterModel_widthOf_32 rfl (lv_at hl 3 rfl) ?_
    obtain ⟨hin, h⟩ := h
    refine lR2 hx hb hK hP hin d_TuneSetterModel_widthOf_33 ?_
    refine lv_topi (fun v34 ev34 => ?_)
    have h := h v34 ev34
    refine lv_istore (lv' := [(4, .int v34), (3, .int v27), (2, .int 2), (0, .ref (a 0)), (1, .int x1)]) hx hb d_TuneSetterModel_widthOf_34 hl (by decide) rfl (fun ls hl => ?_)
    obtain ⟨n36, h⟩ := h
    exact j36 n36 2 v27 v34 I A _ _ _ h hP hS (lv_sub hl [3, 2, 1, 0] rfl)
theorem k_TuneSetterModel_widthOf {p : Program} {l : Launch} {e : Env} {R : Room} {s : State} {m : MethodId} {args : Array Value} {below : List Frame} {meth : Method} {c : Code} {H : Heap} {locs : List Loc} {cells slots : Nat} {Q : State → Prop} {cc : ByteArray} {pc nL idx : Nat} {own : String} {ls : Array Slot} {D : va_G} {cA a : Nat → Nat} {AA : Nat → Prop} {I : Nat → Int32} {A : Nat → Nat → Int32} {post : Int32 → (Nat → Int32) → (Nat → Nat → Int32) → Prop} (x1 : Int32) {rest : List Value} (S : CallFix p m c cc nL s args WALL own) (hK : KR D cA a AA s) (hD : ∀ I A, va_D AA (wR cA a I A)) (hA : ∀ q : Nat, s.heap.size ≤ q → AA q) (hS : va_S AA s.heap H locs) (hP : va_P D cls (wR cA a I A) H) (hl1 : ls.size = nL) (hlink : (Cond.methodLink own idx y_TuneSetterModel_widthOf).before args s = true) (hst : (rest.map fun v => v.category).sum ≤ 8) (hR : ({ frames := 0, cells := 0, slots := 0, locals := 0 } : Room).frames + 1 ≤ R.frames ∧ 8 + (6 + 11) + ({ frames := 0, cells := 0, slots := 0, locals := 0 } : Room).locals ≤ R.locals) (hcs : cells ≤ R.cells ∧ slots ≤ R.slots) (hdg : decode cc pc = .ok (.invokevirtual idx, 3)) (h : wp_TuneSetterModel_widthOf x1 I A post) (kk : ∀ (r : Int32) (I1 : Nat → Int32) (A1 : Nat → Nat → Int32) (H1 : Heap) (locs1 : List Loc), post r I1 A1 → va_P D cls (wR cA a I1 A1) H1 → va_S AA s.heap H1 locs1 → W p l e R s m args below meth c H1 locs1 cells slots Q (F0 m (pc + 3) ls (.int r :: rest))) : W p l e R s m args below meth c H locs cells slots Q (F0 m pc ls (.int x1 :: .ref (a 0) :: rest)) :=
  va_calli (va_runV (As := [.int x1]) (rest := rest) S (c_TuneSetterModel_widthOf l D cA a H.size x1 I A post h) ⟨callB_of 1 S.2.2.2.2 g_TuneSetterModel_widthOf rfl rfl rfl (S.2.2.2.2 _ mi_TuneSetterModel) hlink ⟨by decide, by decide, by decide +kernel⟩ hR, S.2.2.2.2 _ mn_TuneSetterModel_widthOf, S.2.2.2.2 _ ms_TuneSetterModel_widthOf⟩ (preRV hK hD hA hS hP 0 rfl rfl) rfl rfl hl1 rfl (lv_room hst) hdg hcs) hS (fun q _ z => AR_le hD hA hS q z) (fun q z => AR_le hD hA hS q z) (fun r u t H1 locs1 ht _ hp hB _ _ hS1 => kk r u.1 u.2 H1 locs1 hp (of_endR ht hB) hS1)
def wp_TuneSetterModel_width (x1 : Int32) (I : Nat → Int32) (A : Nat → Nat → Int32) (post : Int32 → (Nat → Int32) → (Nat → Nat → Int32) → Prop) : Prop := (((I 6) = 0 → post (-1) I A) ∧ (¬ (I 6) = 0 → ((x1 < 0 → post (-1) I A) ∧ (¬ x1 < 0 → (((I 5) ≤ x1 → post (-1) I A) ∧ (¬ (I 5) ≤ x1 → (wp_TuneSetterModel_widthOf x1 I A (fun r21 I21 A21 => post r21 I21 A21))))))))
theorem d_TuneSetterModel_width_0 : decode b_TuneSetterModel_width 0 = .ok (.aload_n 0, 1) := by decide +kernel
theorem d_TuneSetterModel_width_1 : decode b_TuneSetterModel_width 1 = .ok (.getfield 93, 3) := by decide +kernel
theorem d_TuneSetterModel_width_4 : decode b_TuneSetterModel_width 4 = .ok (.ifCond .eq 23, 3) := by decide +kernel
theorem d_TuneSetterModel_width_7 : decode b_TuneSetterModel_width 7 = .ok (.iload_n 1, 1) := by decide +kernel
theorem d_TuneSetterModel_width_8 : decode b_TuneSetterModel_width 8 = .ok (.ifCond .lt 19, 3) := by decide +kernel
theorem d_TuneSetterModel_width_11 : decode b_TuneSetterModel_width 11 = .ok (.iload_n 1, 1) := by decide +kernel
theorem d_TuneSetterModel_width_12 : decode b_TuneSetterModel_width 12 = .ok (.aload_n 0, 1) := by decide +kernel
theorem d_TuneSetterModel_width_13 : decode b_TuneSetterModel_width 13 = .ok (.getfield 87, 3) := by decide +kernel
theorem d_TuneSetterModel_width_16 : decode b_TuneSetterModel_width 16 = .ok (.if_icmp .ge 11, 3) := by decide +kernel
theorem d_TuneSetterModel_width_19 : decode b_TuneSetterModel_width 19 = .ok (.aload_n 0, 1) := by decide +kernel
theorem d_TuneSetterModel_width_20 : decode b_TuneSetterModel_width 20 = .ok (.iload_n 1, 1) := by decide +kernel
theorem d_TuneSetterModel_width_21 : decode b_TuneSetterModel_width 21 = .ok (.invokevirtual 266, 3) := by decide +kernel
theorem d_TuneSetterModel_width_24 : decode b_TuneSetterModel_width 24 = .ok (.goto 4, 3) := by decide +kernel
theorem d_TuneSetterModel_width_27 : decode b_TuneSetterModel_width 27 = .ok (.iconst (-1), 1) := by decide +kernel
theorem d_TuneSetterModel_width_28 : decode b_TuneSetterModel_width 28 = .ok (.ireturn, 1) := by decide +kernel
def w_TuneSetterModel_width : List Cond := .code y_TuneSetterModel_width b_TuneSetterModel_width 2 (some .int) :: WALL
theorem g_TuneSetterModel_width : GoodIn WALL w_TuneSetterModel_width := good_of mc_TuneSetterModel_width
set_option maxHeartbeats 4000000 in
set_option maxRecDepth 100000 in
theorem c_TuneSetterModel_width (l : Launch) (D : va_G) (cA a : Nat → Nat) (sz : Nat) (x1 : Int32) (I : Nat → Int32) (A : Nat → Nat → Int32) (post : Int32 → (Nat → Int32) → (Nat → Nat → Int32) → Prop) (h : wp_TuneSetterModel_width x1 I A post) : Met l y_TuneSetterModel_width w_TuneSetterModel_width ({ frames := 1, cells := 0, slots := 0, locals := 25 }) (va_Pc [.ref (a 0), .int x1] (PreR D cA a I A sz)) (va_Qi (fun r (u : StW) => post r u.1 u.2) (EndR D cA a) (AR a sz)) 0 0 (AR a sz) := by
  refine Met.ofW (cc := b_TuneSetterModel_width) (maxL := 2) (ret := (some .int)) (by decide) rfl ?_
  intro p e s m args below meth c s₁ B hml hv
  obtain ⟨rfl, hsz, hP, hK, hD0⟩ := hv
  have hx := B.exec
  have hb := B.bytes
  have hr := B.returns
  have hts := atoms_spec (ws := w_TuneSetterModel_width) B.pre
  have hw := wall_of hts
  have hown : s.vm.findClass R_TuneSetterModel = some m.cls := findClass_of_methodNamed B.named
  have hlocks := B.notSynchronized
  subst hsz
  have hD := hDR (sz := s.heap.size) hD0
  have hA : ∀ q : Nat, s.heap.size ≤ q → AR a s.heap.size q := fun q h => Or.inr h
  have hS : va_S (AR a s.heap.size) s.heap s.heap [] := va_S.rf
  have hl := lv_entry ([.ref (a 0), .int x1]) (n := 2) (Nat.le_of_ble_eq_true rfl)
  rw [lg_entry_eq]
  generalize (lg_sl ([.ref (a 0), .int x1]) ++ List.replicate (2 - (lg_sl ([.ref (a 0), .int x1])).length) Slot.unset).toArray = ls at hl ⊢
  have hl : lv_has ls 2 [(0, .ref (a 0)), (1, .int x1)] := hl
  unfold wp_TuneSetterModel_width at h
  refine lv_aload_n hx hb d_TuneSetterModel_width_0 rfl (lv_at hl 0 rfl) ?_
  refine gR_TuneSetterModel_tune hx hb hw hown hK hP (hw _ m_TuneSetterModel_93) d_TuneSetterModel_width_1 ?_
  refine lv_if_eq (tgt := 27) hx hb d_TuneSetterModel_width_4 rfl (fun q => ?_) (fun q => ?_)
  · have h := h.1 q
    refine lv_iconst (v := (-1)) hx hb d_TuneSetterModel_width_27 ic_m1 ?_
    exact W.iret hx hb hr (fun t ht hW => ⟨⟨_, (I, A), rfl, h, endR_of ht hP⟩, hS.F ht⟩) hS.2.2 d_TuneSetterModel_width_28
  · have h := h.2 q
    refine lv_iload_n hx hb d_TuneSetterModel_width_7 rfl (lv_at hl 1 rfl) ?_
    refine lv_if_lt (tgt := 27) hx hb d_TuneSetterModel_width_8 rfl (fun q => ?_) (fun q => ?_)
    · have h := h.1 q
      refine lv_iconst (v := (-1)) hx hb d_TuneSetterModel_width_27 ic_m1 ?_
      exact W.iret hx hb hr (fun t ht hW => ⟨⟨_, (I, A), rfl, h, endR_of ht hP⟩, hS.F ht⟩) hS.2.2 d_TuneSetterModel_width_28
    · have h := h.2 q
      refine lv_iload_n hx hb d_TuneSetterModel_width_11 rfl (lv_at hl 1 rfl) ?_
      refine lv_aload_n hx hb d_TuneSetterModel_width_12 rfl (lv_at hl 0 rfl) ?_
      refine gR_TuneSetterModel_bars hx hb hw hown hK hP (hw _ m_TuneSetterModel_87) d_TuneSetterModel_width_13 ?_
      refine lv_icmp_ge (tgt := 27) hx hb d_TuneSetterModel_width_16 rfl (fun q => ?_) (fun q => ?_)
      · have h := h.1 q
        refine lv_iconst (v := (-1)) hx hb d_TuneSetterModel_width_27 ic_m1 ?_
        exact W.iret hx hb hr (fun t ht hW => ⟨⟨_, (I, A), rfl, h, endR_of ht hP⟩, hS.F ht⟩) hS.2.2 d_TuneSetterModel_width_28
      · have h := h.2 q
        refine lv_aload_n hx hb d_TuneSetterModel_width_19 rfl (lv_at hl 0 rfl) ?_
        refine lv_iload_n hx hb d_TuneSetterModel_width_20 rfl (lv_at hl 1 rfl) ?_
        refine k_TuneSetterModel_widthOf x1 (rest := []) ⟨hx, hb, hml, hown, hw⟩ hK hD hA hS hP hl.1 (hw _ m_TuneSetterModel_266) (Nat.le_of_ble_eq_true rfl) ⟨Nat.le_of_ble_eq_true rfl, Nat.le_of_ble_eq_true rfl⟩ ⟨Nat.zero_le _, Nat.zero_le _⟩ d_TuneSetterModel_width_21 h (fun r21 I21 A21 H locs h hP hS => ?_)
        refine lv_goto (tgt := 28) hx hb d_TuneSetterModel_width_24 rfl ?_
        exact W.iret hx hb hr (fun t ht hW => ⟨⟨_, (I21, A21), rfl, h, endR_of ht hP⟩, hS.F ht⟩) hS.2.2 d_TuneSetterModel_width_28
theorem k_TuneSetterModel_width {p : Program} {l : Launch} {e : Env} {R : Room} {s : State} {m : MethodId} {args : Array Value} {below : List Frame} {meth : Method} {c : Code} {H : Heap} {locs : List Loc} {cells slots : Nat} {Q : State → Prop} {cc : ByteArray} {pc nL idx : Nat} {own : String} {ls : Array Slot} {D : va_G} {cA a : Nat → Nat} {AA : Nat → Prop} {I : Nat → Int32} {A : Nat → Nat → Int32} {post : Int32 → (Nat → Int32) → (Nat → Nat → Int32) → Prop} (x1 : Int32) {rest : List Value} (S : CallFix p m c cc nL s args WALL own) (hK : KR D cA a AA s) (hD : ∀ I A, va_D AA (wR cA a I A)) (hA : ∀ q : Nat, s.heap.size ≤ q → AA q) (hS : va_S AA s.heap H locs) (hP : va_P D cls (wR cA a I A) H) (hl1 : ls.size = nL) (hlink : (Cond.methodLink own idx y_TuneSetterModel_width).before args s = true) (hst : (rest.map fun v => v.category).sum ≤ 8) (hR : ({ frames := 1, cells := 0, slots := 0, locals := 25 } : Room).frames + 1 ≤ R.frames ∧ 8 + (2 + 11) + ({ frames := 1, cells := 0, slots := 0, locals := 25 } : Room).locals ≤ R.locals) (hcs : cells ≤ R.cells ∧ slots ≤ R.slots) (hdg : decode cc pc = .ok (.invokevirtual idx, 3)) (h : wp_TuneSetterModel_width x1 I A post) (kk : ∀ (r : Int32) (I1 : Nat → Int32) (A1 : Nat → Nat → Int32) (H1 : Heap) (locs1 : List Loc), post r I1 A1 → va_P D cls (wR cA a I1 A1) H1 → va_S AA s.heap H1 locs1 → W p l e R s m args below meth c H1 locs1 cells slots Q (F0 m (pc + 3) ls (.int r :: rest))) : W p l e R s m args below meth c H locs cells slots Q (F0 m pc ls (.int x1 :: .ref (a 0) :: rest)) :=
  va_calli (va_runV (As := [.int x1]) (rest := rest) S (c_TuneSetterModel_width l D cA a H.size x1 I A post h) ⟨callB_of 1 S.2.2.2.2 g_TuneSetterModel_width rfl rfl rfl (S.2.2.2.2 _ mi_TuneSetterModel) hlink ⟨by decide, by decide, by decide +kernel⟩ hR, S.2.2.2.2 _ mn_TuneSetterModel_width, S.2.2.2.2 _ ms_TuneSetterModel_width⟩ (preRV hK hD hA hS hP 0 rfl rfl) rfl rfl hl1 rfl (lv_room hst) hdg hcs) hS (fun q _ z => AR_le hD hA hS q z) (fun q z => AR_le hD hA hS q z) (fun r u t H1 locs1 ht _ hp hB _ _ hS1 => kk r u.1 u.2 H1 locs1 hp (of_endR ht hB) hS1)
def wp_TuneSetterModel_emit (x1 : Int32) (I : Nat → Int32) (A : Nat → Nat → Int32) (post : (Nat → Int32) → (Nat → Nat → Int32) → Prop) : Prop := (vp_in (I 26) 900 ∧ post (upd I 26 ((I 26) + 1)) (upd2 A 17 ((I 26).toNatClampNeg) (x1 &&& 255)))
theorem d_TuneSetterModel_emit_0 : decode b_TuneSetterModel_emit 0 = .ok (.aload_n 0, 1) := by decide +kernel
theorem d_TuneSetterModel_emit_1 : decode b_TuneSetterModel_emit 1 = .ok (.getfield 72, 3) := by decide +kernel
theorem d_TuneSetterModel_emit_4 : decode b_TuneSetterModel_emit 4 = .ok (.aload_n 0, 1) := by decide +kernel
theorem d_TuneSetterModel_emit_5 : decode b_TuneSetterModel_emit 5 = .ok (.getfield 269, 3) := by decide +kernel
theorem d_TuneSetterModel_emit_8 : decode b_TuneSetterModel_emit 8 = .ok (.iload_n 1, 1) := by decide +kernel
theorem d_TuneSetterModel_emit_9 : decode b_TuneSetterModel_emit 9 = .ok (.sipush 255, 3) := by decide +kernel
theorem d_TuneSetterModel_emit_12 : decode b_TuneSetterModel_emit 12 = .ok (.iand, 1) := by decide +kernel
theorem d_TuneSetterModel_emit_13 : decode b_TuneSetterModel_emit 13 = .ok (.iastore, 1) := by decide +kernel
theorem d_TuneSetterModel_emit_14 : decode b_TuneSetterModel_emit 14 = .ok (.aload_n 0, 1) := by decide +kernel
theorem d_TuneSetterModel_emit_15 : decode b_TuneSetterModel_emit 15 = .ok (.dup, 1) := by decide +kernel
theorem d_TuneSetterModel_emit_16 : decode b_TuneSetterModel_emit 16 = .ok (.getfield 269, 3) := by decide +kernel
theorem d_TuneSetterModel_emit_19 : decode b_TuneSetterModel_emit 19 = .ok (.iconst 1, 1) := by decide +kernel
theorem d_TuneSetterModel_emit_20 : decode b_TuneSetterModel_emit 20 = .ok (.iadd, 1) := by decide +kernel
theorem d_TuneSetterModel_emit_21 : decode b_TuneSetterModel_emit 21 = .ok (.putfield 269, 3) := by decide +kernel
theorem d_TuneSetterModel_emit_24 : decode b_TuneSetterModel_emit 24 = .ok (.return_, 1) := by decide +kernel
def w_TuneSetterModel_emit : List Cond := .code y_TuneSetterModel_emit b_TuneSetterModel_emit 2 none :: WALL
theorem g_TuneSetterModel_emit : GoodIn WALL w_TuneSetterModel_emit := good_of mc_TuneSetterModel_emit
set_option maxHeartbeats 4000000 in
set_option maxRecDepth 100000 in
theorem c_TuneSetterModel_emit (l : Launch) (D : va_G) (cA a : Nat → Nat) (sz : Nat) (x1 : Int32) (I : Nat → Int32) (A : Nat → Nat → Int32) (post : (Nat → Int32) → (Nat → Nat → Int32) → Prop) (h : wp_TuneSetterModel_emit x1 I A post) : Met l y_TuneSetterModel_emit w_TuneSetterModel_emit ({ frames := 0, cells := 0, slots := 0, locals := 0 }) (va_Pc [.ref (a 0), .int x1] (PreR D cA a I A sz)) (va_Qv (fun (u : StW) => post u.1 u.2) (EndR D cA a) (AR a sz)) 0 0 (AR a sz) := by
  refine Met.ofW (cc := b_TuneSetterModel_emit) (maxL := 2) (ret := none) (by decide) rfl ?_
  intro p e s m args below meth c s₁ B hml hv
  obtain ⟨rfl, hsz, hP, hK, hD0⟩ := hv
  have hx := B.exec
  have hb := B.bytes
  have hr := B.returns
  have hts := atoms_spec (ws := w_TuneSetterModel_emit) B.pre
  have hw := wall_of hts
  have hown : s.vm.findClass R_TuneSetterModel = some m.cls := findClass_of_methodNamed B.named
  have hlocks := B.notSynchronized
  subst hsz
  have hD := hDR (sz := s.heap.size) hD0
  have hA : ∀ q : Nat, s.heap.size ≤ q → AR a s.heap.size q := fun q h => Or.inr h
  have hS : va_S (AR a s.heap.size) s.heap s.heap [] := va_S.rf
  have hl := lv_entry ([.ref (a 0), .int x1]) (n := 2) (Nat.le_of_ble_eq_true rfl)
  rw [lg_entry_eq]
  generalize (lg_sl ([.ref (a 0), .int x1]) ++ List.replicate (2 - (lg_sl ([.ref (a 0), .int x1])).length) Slot.unset).toArray = ls at hl ⊢
  have hl : lv_has ls 2 [(0, .ref (a 0)), (1, .int x1)] := hl
  unfold wp_TuneSetterModel_emit at h
  refine lv_aload_n hx hb d_TuneSetterModel_emit_0 rfl (lv_at hl 0 rfl) ?_
  refine gR_TuneSetterModel_bytes hx hb hw hown hK hP (hw _ m_TuneSetterModel_72) d_TuneSetterModel_emit_1 ?_
  refine lv_aload_n hx hb d_TuneSetterModel_emit_4 rfl (lv_at hl 0 rfl) ?_
  refine gR_TuneSetterModel_made hx hb hw hown hK hP (hw _ m_TuneSetterModel_269) d_TuneSetterModel_emit_5 ?_
  refine lv_iload_n hx hb d_TuneSetterModel_emit_8 rfl (lv_at hl 1 rfl) ?_
  refine lv_sipush (v := 255) hx hb d_TuneSetterModel_emit_9 sp_255 ?_
  refine lv_iand hx hb d_TuneSetterModel_emit_12 ?_
  obtain ⟨hin, h⟩ := h
  refine sR17 hx hb hK hD hS hP hin d_TuneSetterModel_emit_13 (fun H locs hP hS => ?_)
  refine lv_aload_n hx hb d_TuneSetterModel_emit_14 rfl (lv_at hl 0 rfl) ?_
  refine lv_dup hx hb d_TuneSetterModel_emit_15 rfl ?_
  refine gR_TuneSetterModel_made hx hb hw hown hK hP (hw _ m_TuneSetterModel_269) d_TuneSetterModel_emit_16 ?_
  refine lv_iconst (v := 1) hx hb d_TuneSetterModel_emit_19 ic_1 ?_
  refine lv_iadd hx hb d_TuneSetterModel_emit_20 ?_
  refine pR_TuneSetterModel_made hx hb hw hown hK hD hS hP (hw _ m_TuneSetterModel_269) d_TuneSetterModel_emit_21 (fun H locs hP hS => ?_)
  exact W.vret hx hb hr (fun t ht hW => ⟨⟨((upd I 26 ((I 26) + 1)), (upd2 A 17 ((I 26).toNatClampNeg) (x1 &&& 255))), rfl, h, endR_of ht hP⟩, hS.F ht⟩) hS.2.2 d_TuneSetterModel_emit_24
theorem k_TuneSetterModel_emit {p : Program} {l : Launch} {e : Env} {R : Room} {s : State} {m : MethodId} {args : Array Value} {below : List Frame} {meth : Method} {c : Code} {H : Heap} {locs : List Loc} {cells slots : Nat} {Q : State → Prop} {cc : ByteArray} {pc nL idx : Nat} {own : String} {ls : Array Slot} {D : va_G} {cA a : Nat → Nat} {AA : Nat → Prop} {I : Nat → Int32} {A : Nat → Nat → Int32} {post : (Nat → Int32) → (Nat → Nat → Int32) → Prop} (x1 : Int32) {rest : List Value} (S : CallFix p m c cc nL s args WALL own) (hK : KR D cA a AA s) (hD : ∀ I A, va_D AA (wR cA a I A)) (hA : ∀ q : Nat, s.heap.size ≤ q → AA q) (hS : va_S AA s.heap H locs) (hP : va_P D cls (wR cA a I A) H) (hl1 : ls.size = nL) (hlink : (Cond.methodLink own idx y_TuneSetterModel_emit).before args s = true) (hst : (rest.map fun v => v.category).sum ≤ 8) (hR : ({ frames := 0, cells := 0, slots := 0, locals := 0 } : Room).frames + 1 ≤ R.frames ∧ 8 + (2 + 11) + ({ frames := 0, cells := 0, slots := 0, locals := 0 } : Room).locals ≤ R.locals) (hcs : cells ≤ R.cells ∧ slots ≤ R.slots) (hdg : decode cc pc = .ok (.invokevirtual idx, 3)) (h : wp_TuneSetterModel_emit x1 I A post) (kk : ∀ (I1 : Nat → Int32) (A1 : Nat → Nat → Int32) (H1 : Heap) (locs1 : List Loc), post I1 A1 → va_P D cls (wR cA a I1 A1) H1 → va_S AA s.heap H1 locs1 → W p l e R s m args below meth c H1 locs1 cells slots Q (F0 m (pc + 3) ls rest)) : W p l e R s m args below meth c H locs cells slots Q (F0 m pc ls (.int x1 :: .ref (a 0) :: rest)) :=
  va_callv (va_runV (As := [.int x1]) (rest := rest) S (c_TuneSetterModel_emit l D cA a H.size x1 I A post h) ⟨callB_of 1 S.2.2.2.2 g_TuneSetterModel_emit rfl rfl rfl (S.2.2.2.2 _ mi_TuneSetterModel) hlink ⟨by decide, by decide, by decide +kernel⟩ hR, S.2.2.2.2 _ mn_TuneSetterModel_emit, S.2.2.2.2 _ ms_TuneSetterModel_emit⟩ (preRV hK hD hA hS hP 0 rfl rfl) rfl rfl hl1 rfl (lv_room hst) hdg hcs) hS (fun q _ z => AR_le hD hA hS q z) (fun q z => AR_le hD hA hS q z) (fun u t H1 locs1 ht _ hp hB _ _ hS1 => kk u.1 u.2 H1 locs1 hp (of_endR ht hB) hS1)
def wp_TuneSetterModel_heading_113 (post : (Nat → Int32) → (Nat → Nat → Int32) → Prop) : Nat → Int32 → Int32 → (Nat → Int32) → (Nat → Nat → Int32) → Prop
  | 0, _, _, _, _ => False
  | n + 1, y1, y2, I, A => ((y2 < 0 → post I A) ∧ (¬ y2 < 0 → (wp_TuneSetterModel_emit ((y1.toUInt32 >>> (((8 : Int32) * y2).toUInt32 &&& Int32.toUInt32 31)).toInt32) I A (fun I124 A124 => (∀ v127 : Int32, v127 = y2 + (-1) → wp_TuneSetterModel_heading_113 post n y1 v127 I124 A124)))))
def wp_TuneSetterModel_heading_55 (post : (Nat → Int32) → (Nat → Nat → Int32) → Prop) : Nat → Int32 → Int32 → (Nat → Int32) → (Nat → Nat → Int32) → Prop
  | 0, _, _, _, _ => False
  | n + 1, y1, y2, I, A => ((3 ≤ y2 → (wp_TuneSetterModel_emit 1 I A (fun I73 A73 => (wp_TuneSetterModel_emit 0 I73 A73 (fun I78 A78 => (wp_TuneSetterModel_emit 96 I78 A78 (fun I84 A84 => (wp_TuneSetterModel_emit 77 I84 A84 (fun I90 A90 => (wp_TuneSetterModel_emit 84 I90 A90 (fun I96 A96 => (wp_TuneSetterModel_emit 114 I96 A96 (fun I102 A102 => (wp_TuneSetterModel_emit 107 I102 A102 (fun I108 A108 => (∃ n113, wp_TuneSetterModel_heading_113 post n113 y1 3 I108 A108)))))))))))))))) ∧ (¬ 3 ≤ y2 → (wp_TuneSetterModel_emit 0 I A (fun I62 A62 => (∀ v65 : Int32, v65 = y2 + 1 → wp_TuneSetterModel_heading_55 post n y1 v65 I62 A62)))))
def wp_TuneSetterModel_heading_31 (post : (Nat → Int32) → (Nat → Nat → Int32) → Prop) : Nat → Int32 → Int32 → (Nat → Int32) → (Nat → Nat → Int32) → Prop
  | 0, _, _, _, _ => False
  | n + 1, y1, y2, I, A => ((3 ≤ y2 → (wp_TuneSetterModel_emit 6 I A (fun I50 A50 => (∃ n55, wp_TuneSetterModel_heading_55 post n55 y1 0 I50 A50)))) ∧ (¬ 3 ≤ y2 → (wp_TuneSetterModel_emit 0 I A (fun I38 A38 => (∀ v41 : Int32, v41 = y2 + 1 → wp_TuneSetterModel_heading_31 post n y1 v41 I38 A38)))))
def wp_TuneSetterModel_heading (x1 : Int32) (I : Nat → Int32) (A : Nat → Nat → Int32) (post : (Nat → Int32) → (Nat → Nat → Int32) → Prop) : Prop := (wp_TuneSetterModel_emit 77 (upd I 26 0) A (fun I8 A8 => (wp_TuneSetterModel_emit 84 I8 A8 (fun I14 A14 => (wp_TuneSetterModel_emit 104 I14 A14 (fun I20 A20 => (wp_TuneSetterModel_emit 100 I20 A20 (fun I26 A26 => (∃ n31, wp_TuneSetterModel_heading_31 post n31 x1 0 I26 A26)))))))))
theorem d_TuneSetterModel_heading_0 : decode b_TuneSetterModel_heading 0 = .ok (.aload_n 0, 1) := by decide +kernel
theorem d_TuneSetterModel_heading_1 : decode b_TuneSetterModel_heading 1 = .ok (.iconst 0, 1) := by decide +kernel
theorem d_TuneSetterModel_heading_2 : decode b_TuneSetterModel_heading 2 = .ok (.putfield 269, 3) := by decide +kernel
theorem d_TuneSetterModel_heading_5 : decode b_TuneSetterModel_heading 5 = .ok (.aload_n 0, 1) := by decide +kernel
theorem d_TuneSetterModel_heading_6 : decode b_TuneSetterModel_heading 6 = .ok (.bipush 77, 2) := by decide +kernel
theorem d_TuneSetterModel_heading_8 : decode b_TuneSetterModel_heading 8 = .ok (.invokevirtual 272, 3) := by decide +kernel
theorem d_TuneSetterModel_heading_11 : decode b_TuneSetterModel_heading 11 = .ok (.aload_n 0, 1) := by decide +kernel
theorem d_TuneSetterModel_heading_12 : decode b_TuneSetterModel_heading 12 = .ok (.bipush 84, 2) := by decide +kernel
theorem d_TuneSetterModel_heading_14 : decode b_TuneSetterModel_heading 14 = .ok (.invokevirtual 272, 3) := by decide +kernel
theorem d_TuneSetterModel_heading_17 : decode b_TuneSetterModel_heading 17 = .ok (.aload_n 0, 1) := by decide +kernel
theorem d_TuneSetterModel_heading_18 : decode b_TuneSetterModel_heading 18 = .ok (.bipush 104, 2) := by decide +kernel
theorem d_TuneSetterModel_heading_20 : decode b_TuneSetterModel_heading 20 = .ok (.invokevirtual 272, 3) := by decide +kernel
theorem d_TuneSetterModel_heading_23 : decode b_TuneSetterModel_heading 23 = .ok (.aload_n 0, 1) := by decide +kernel
theorem d_TuneSetterModel_heading_24 : decode b_TuneSetterModel_heading 24 = .ok (.bipush 100, 2) := by decide +kernel
theorem d_TuneSetterModel_heading_26 : decode b_TuneSetterModel_heading 26 = .ok (.invokevirtual 272, 3) := by decide +kernel
theorem d_TuneSetterModel_heading_29 : decode b_TuneSetterModel_heading 29 = .ok (.iconst 0, 1) := by decide +kernel
theorem d_TuneSetterModel_heading_30 : decode b_TuneSetterModel_heading 30 = .ok (.istore_n 2, 1) := by decide +kernel
theorem d_TuneSetterModel_heading_31 : decode b_TuneSetterModel_heading 31 = .ok (.iload_n 2, 1) := by decide +kernel
theorem d_TuneSetterModel_heading_32 : decode b_TuneSetterModel_heading 32 = .ok (.iconst 3, 1) := by decide +kernel
theorem d_TuneSetterModel_heading_33 : decode b_TuneSetterModel_heading 33 = .ok (.if_icmp .ge 14, 3) := by decide +kernel
theorem d_TuneSetterModel_heading_36 : decode b_TuneSetterModel_heading 36 = .ok (.aload_n 0, 1) := by decide +kernel
theorem d_TuneSetterModel_heading_37 : decode b_TuneSetterModel_heading 37 = .ok (.iconst 0, 1) := by decide +kernel
theorem d_TuneSetterModel_heading_38 : decode b_TuneSetterModel_heading 38 = .ok (.invokevirtual 272, 3) := by decide +kernel
theorem d_TuneSetterModel_heading_41 : decode b_TuneSetterModel_heading 41 = .ok (.iinc 2 1, 3) := by decide +kernel
theorem d_TuneSetterModel_heading_44 : decode b_TuneSetterModel_heading 44 = .ok (.goto (-13), 3) := by decide +kernel
theorem d_TuneSetterModel_heading_47 : decode b_TuneSetterModel_heading 47 = .ok (.aload_n 0, 1) := by decide +kernel
theorem d_TuneSetterModel_heading_48 : decode b_TuneSetterModel_heading 48 = .ok (.bipush 6, 2) := by decide +kernel
theorem d_TuneSetterModel_heading_50 : decode b_TuneSetterModel_heading 50 = .ok (.invokevirtual 272, 3) := by decide +kernel
theorem d_TuneSetterModel_heading_53 : decode b_TuneSetterModel_heading 53 = .ok (.iconst 0, 1) := by decide +kernel
theorem d_TuneSetterModel_heading_54 : decode b_TuneSetterModel_heading 54 = .ok (.istore_n 2, 1) := by decide +kernel
theorem d_TuneSetterModel_heading_55 : decode b_TuneSetterModel_heading 55 = .ok (.iload_n 2, 1) := by decide +kernel
theorem d_TuneSetterModel_heading_56 : decode b_TuneSetterModel_heading 56 = .ok (.iconst 3, 1) := by decide +kernel
theorem d_TuneSetterModel_heading_57 : decode b_TuneSetterModel_heading 57 = .ok (.if_icmp .ge 14, 3) := by decide +kernel
theorem d_TuneSetterModel_heading_60 : decode b_TuneSetterModel_heading 60 = .ok (.aload_n 0, 1) := by decide +kernel
theorem d_TuneSetterModel_heading_61 : decode b_TuneSetterModel_heading 61 = .ok (.iconst 0, 1) := by decide +kernel
theorem d_TuneSetterModel_heading_62 : decode b_TuneSetterModel_heading 62 = .ok (.invokevirtual 272, 3) := by decide +kernel
theorem d_TuneSetterModel_heading_65 : decode b_TuneSetterModel_heading 65 = .ok (.iinc 2 1, 3) := by decide +kernel
theorem d_TuneSetterModel_heading_68 : decode b_TuneSetterModel_heading 68 = .ok (.goto (-13), 3) := by decide +kernel
theorem d_TuneSetterModel_heading_71 : decode b_TuneSetterModel_heading 71 = .ok (.aload_n 0, 1) := by decide +kernel
theorem d_TuneSetterModel_heading_72 : decode b_TuneSetterModel_heading 72 = .ok (.iconst 1, 1) := by decide +kernel
theorem d_TuneSetterModel_heading_73 : decode b_TuneSetterModel_heading 73 = .ok (.invokevirtual 272, 3) := by decide +kernel
theorem d_TuneSetterModel_heading_76 : decode b_TuneSetterModel_heading 76 = .ok (.aload_n 0, 1) := by decide +kernel
theorem d_TuneSetterModel_heading_77 : decode b_TuneSetterModel_heading 77 = .ok (.iconst 0, 1) := by decide +kernel
theorem d_TuneSetterModel_heading_78 : decode b_TuneSetterModel_heading 78 = .ok (.invokevirtual 272, 3) := by decide +kernel
theorem d_TuneSetterModel_heading_81 : decode b_TuneSetterModel_heading 81 = .ok (.aload_n 0, 1) := by decide +kernel
theorem d_TuneSetterModel_heading_82 : decode b_TuneSetterModel_heading 82 = .ok (.bipush 96, 2) := by decide +kernel
theorem d_TuneSetterModel_heading_84 : decode b_TuneSetterModel_heading 84 = .ok (.invokevirtual 272, 3) := by decide +kernel
theorem d_TuneSetterModel_heading_87 : decode b_TuneSetterModel_heading 87 = .ok (.aload_n 0, 1) := by decide +kernel
theorem d_TuneSetterModel_heading_88 : decode b_TuneSetterModel_heading 88 = .ok (.bipush 77, 2) := by decide +kernel
theorem d_TuneSetterModel_heading_90 : decode b_TuneSetterModel_heading 90 = .ok (.invokevirtual 272, 3) := by decide +kernel
theorem d_TuneSetterModel_heading_93 : decode b_TuneSetterModel_heading 93 = .ok (.aload_n 0, 1) := by decide +kernel
theorem d_TuneSetterModel_heading_94 : decode b_TuneSetterModel_heading 94 = .ok (.bipush 84, 2) := by decide +kernel
theorem d_TuneSetterModel_heading_96 : decode b_TuneSetterModel_heading 96 = .ok (.invokevirtual 272, 3) := by decide +kernel
theorem d_TuneSetterModel_heading_99 : decode b_TuneSetterModel_heading 99 = .ok (.aload_n 0, 1) := by decide +kernel
theorem d_TuneSetterModel_heading_100 : decode b_TuneSetterModel_heading 100 = .ok (.bipush 114, 2) := by decide +kernel
theorem d_TuneSetterModel_heading_102 : decode b_TuneSetterModel_heading 102 = .ok (.invokevirtual 272, 3) := by decide +kernel
theorem d_TuneSetterModel_heading_105 : decode b_TuneSetterModel_heading 105 = .ok (.aload_n 0, 1) := by decide +kernel
theorem d_TuneSetterModel_heading_106 : decode b_TuneSetterModel_heading 106 = .ok (.bipush 107, 2) := by decide +kernel
theorem d_TuneSetterModel_heading_108 : decode b_TuneSetterModel_heading 108 = .ok (.invokevirtual 272, 3) := by decide +kernel
theorem d_TuneSetterModel_heading_111 : decode b_TuneSetterModel_heading 111 = .ok (.iconst 3, 1) := by decide +kernel
theorem d_TuneSetterModel_heading_112 : decode b_TuneSetterModel_heading 112 = .ok (.istore_n 2, 1) := by decide +kernel
theorem d_TuneSetterModel_heading_113 : decode b_TuneSetterModel_heading 113 = .ok (.iload_n 2, 1) := by decide +kernel
theorem d_TuneSetterModel_heading_114 : decode b_TuneSetterModel_heading 114 = .ok (.ifCond .lt 19, 3) := by decide +kernel
theorem d_TuneSetterModel_heading_117 : decode b_TuneSetterModel_heading 117 = .ok (.aload_n 0, 1) := by decide +kernel
theorem d_TuneSetterModel_heading_118 : decode b_TuneSetterModel_heading 118 = .ok (.iload_n 1, 1) := by decide +kernel
theorem d_TuneSetterModel_heading_119 : decode b_TuneSetterModel_heading 119 = .ok (.bipush 8, 2) := by decide +kernel
theorem d_TuneSetterModel_heading_121 : decode b_TuneSetterModel_heading 121 = .ok (.iload_n 2, 1) := by decide +kernel
theorem d_TuneSetterModel_heading_122 : decode b_TuneSetterModel_heading 122 = .ok (.imul, 1) := by decide +kernel
theorem d_TuneSetterModel_heading_123 : decode b_TuneSetterModel_heading 123 = .ok (.iushr, 1) := by decide +kernel
theorem d_TuneSetterModel_heading_124 : decode b_TuneSetterModel_heading 124 = .ok (.invokevirtual 272, 3) := by decide +kernel
theorem d_TuneSetterModel_heading_127 : decode b_TuneSetterModel_heading 127 = .ok (.iinc 2 (-1), 3) := by decide +kernel
theorem d_TuneSetterModel_heading_130 : decode b_TuneSetterModel_heading 130 = .ok (.goto (-17), 3) := by decide +kernel
theorem d_TuneSetterModel_heading_133 : decode b_TuneSetterModel_heading 133 = .ok (.return_, 1) := by decide +kernel
def w_TuneSetterModel_heading : List Cond := .code y_TuneSetterModel_heading b_TuneSetterModel_heading 3 none :: WALL
theorem g_TuneSetterModel_heading : GoodIn WALL w_TuneSetterModel_heading := good_of mc_TuneSetterModel_heading
set_option maxHeartbeats 4000000 in
set_option maxRecDepth 100000 in
theorem c_TuneSetterModel_heading (l : Launch) (D : va_G) (cA a : Nat → Nat) (sz : Nat) (x1 : Int32) (I : Nat → Int32) (A : Nat → Nat → Int32) (post : (Nat → Int32) → (Nat → Nat → Int32) → Prop) (h : wp_TuneSetterModel_heading x1 I A post) : Met l y_TuneSetterModel_heading w_TuneSetterModel_heading ({ frames := 1, cells := 0, slots := 0, locals := 21 }) (va_Pc [.ref (a 0), .int x1] (PreR D cA a I A sz)) (va_Qv (fun (u : StW) => post u.1 u.2) (EndR D cA a) (AR a sz)) 0 0 (AR a sz) := by
  refine Met.ofW (cc := b_TuneSetterModel_heading) (maxL := 3) (ret := none) (by decide) rfl ?_
  intro p e s m args below meth c s₁ B hml hv
  obtain ⟨rfl, hsz, hP, hK, hD0⟩ := hv
  have hx := B.exec
  have hb := B.bytes
  have hr := B.returns
  have hts := atoms_spec (ws := w_TuneSetterModel_heading) B.pre
  have hw := wall_of hts
  have hown : s.vm.findClass R_TuneSetterModel = some m.cls := findClass_of_methodNamed B.named
  have hlocks := B.notSynchronized
  subst hsz
  have hD := hDR (sz := s.heap.size) hD0
  have hA : ∀ q : Nat, s.heap.size ≤ q → AR a s.heap.size q := fun q h => Or.inr h
  have hS : va_S (AR a s.heap.size) s.heap s.heap [] := va_S.rf
  have j113 : ∀ n : Nat, ∀ (y1 : Int32) (y2 : Int32) (I : Nat → Int32) (A : Nat → Nat → Int32) (H : Heap) (locs : List Loc) (ls : Array Slot), wp_TuneSetterModel_heading_113 post n y1 y2 I A → va_P D cls (wR cA a I A) H → va_S (AR a s.heap.size) s.heap H locs → lv_has ls 3 [(0, .ref (a 0)), (1, .int y1), (2, .int y2)] → W p l e (headSpec w_TuneSetterModel_heading ({ frames := 1, cells := 0, slots := 0, locals := 21 })).room s m [.ref (a 0), .int x1].toArray below meth c H locs 0 0 (MQ below (va_Qv (fun (u : StW) => post u.1 u.2) (EndR D cA a) (AR a s.heap.size)) [.ref (a 0), .int x1].toArray s 0 0 (AR a s.heap.size)) (F0 m 113 ls []) := by
    intro n
    induction n with
    | zero =>
      intro y1 y2 I A H locs ls h hP hS hl
      exact False.elim h
    | succ n ih =>
      intro y1 y2 I A H locs ls h hP hS hl
      unfold wp_TuneSetterModel_heading_113 at h
      refine lv_iload_n hx hb d_TuneSetterModel_heading_113 rfl (lv_at hl 2 rfl) ?_
      refine lv_if_lt (tgt := 133) hx hb d_TuneSetterModel_heading_114 rfl (fun q => ?_) (fun q => ?_)
      · have h := h.1 q
        exact W.vret hx hb hr (fun t ht hW => ⟨⟨(I, A), rfl, h, endR_of ht hP⟩, hS.F ht⟩) hS.2.2 d_TuneSetterModel_heading_133
      · have h := h.2 q
        refine lv_aload_n hx hb d_TuneSetterModel_heading_117 rfl (lv_at hl 0 rfl) ?_
        refine lv_iload_n hx hb d_TuneSetterModel_heading_118 rfl (lv_at hl 1 rfl) ?_
        refine lv_bipush (v := 8) hx hb d_TuneSetterModel_heading_119 bp_8 ?_
        refine lv_iload_n hx hb d_TuneSetterModel_heading_121 rfl (lv_at hl 2 rfl) ?_
        refine lv_imul hx hb d_TuneSetterModel_heading_122 ?_
        refine lv_iushr hx hb d_TuneSetterModel_heading_123 rfl ?_
        refine k_TuneSetterModel_emit ((y1.toUInt32 >>> (((8 : Int32) * y2).toUInt32 &&& Int32.toUInt32 31)).toInt32) (rest := []) ⟨hx, hb, hml, hown, hw⟩ hK hD hA hS hP hl.1 (hw _ m_TuneSetterModel_272) (Nat.le_of_ble_eq_true rfl) ⟨Nat.le_of_ble_eq_true rfl, Nat.le_of_ble_eq_true rfl⟩ ⟨Nat.zero_le _, Nat.zero_le _⟩ d_TuneSetterModel_heading_124 h (fun I124 A124 H locs h hP hS => ?_)
        obtain ⟨v127, ev127⟩ : ∃ z : Int32, z = y2 + (-1) := ⟨_, rfl⟩
        have h := h v127 ev127
        refine lv_iinc (k := 2) (v := v127) (lv' := [(2, .int v127), (0, .ref (a 0)), (1, .int y1)]) hx hb d_TuneSetterModel_heading_127 hl rfl (by rw [ev127, ic_m1]) (by decide) rfl (fun ls hl => ?_)
        refine lv_goto (tgt := 113) hx hb d_TuneSetterModel_heading_130 rfl ?_
        exact ih y1 v127 I124 A124 _ _ _ h hP hS (lv_sub hl [1, 2, 0] rfl)
  have j55 : ∀ n : Nat, ∀ (y1 : Int32) (y2 : Int32) (I : Nat → Int32) (A : Nat → Nat → Int32) (H : Heap) (locs : List Loc) (ls : Array Slot), wp_TuneSetterModel_heading_55 post n y1 y2 I A → va_P D cls (wR cA a I A) H → va_S (AR a s.heap.size) s.heap H locs → lv_has ls 3 [(0, .ref (a 0)), (1, .int y1), (2, .int y2)] → W p l e (headSpec w_TuneSetterModel_heading ({ frames := 1, cells := 0, slots := 0, locals := 21 })).room s m [.ref (a 0), .int x1].toArray below meth c H locs 0 0 (MQ below (va_Qv (fun (u : StW) => post u.1 u.2) (EndR D cA a) (AR a s.heap.size)) [.ref (a 0), .int x1].toArray s 0 0 (AR a s.heap.size)) (F0 m 55 ls []) := by
    intro n
    induction n with
    | zero =>
      intro y1 y2 I A H locs ls h hP hS hl
      exact False.elim h
    | succ n ih =>
      intro y1 y2 I A H locs ls h hP hS hl
      unfold wp_TuneSetterModel_heading_55 at h
      refine lv_iload_n hx hb d_TuneSetterModel_heading_55 rfl (lv_at hl 2 rfl) ?_
      refine lv_iconst (v := 3) hx hb d_TuneSetterModel_heading_56 ic_3 ?_
      refine lv_icmp_ge (tgt := 71) hx hb d_TuneSetterModel_heading_57 rfl (fun q => ?_) (fun q => ?_)
      · have h := h.1 q
        refine lv_aload_n hx hb d_TuneSetterModel_heading_71 rfl (lv_at hl 0 rfl) ?_
        refine lv_iconst (v := 1) hx hb d_TuneSetterModel_heading_72 ic_1 ?_
        refine k_TuneSetterModel_emit 1 (rest := []) ⟨hx, hb, hml, hown, hw⟩ hK hD hA hS hP hl.1 (hw _ m_TuneSetterModel_272) (Nat.le_of_ble_eq_true rfl) ⟨Nat.le_of_ble_eq_true rfl, Nat.le_of_ble_eq_true rfl⟩ ⟨Nat.zero_le _, Nat.zero_le _⟩ d_TuneSetterModel_heading_73 h (fun I73 A73 H locs h hP hS => ?_)
        refine lv_aload_n hx hb d_TuneSetterModel_heading_76 rfl (lv_at hl 0 rfl) ?_
        refine lv_iconst (v := 0) hx hb d_TuneSetterModel_heading_77 ic_0 ?_
        refine k_TuneSetterModel_emit 0 (rest := []) ⟨hx, hb, hml, hown, hw⟩ hK hD hA hS hP hl.1 (hw _ m_TuneSetterModel_272) (Nat.le_of_ble_eq_true rfl) ⟨Nat.le_of_ble_eq_true rfl, Nat.le_of_ble_eq_true rfl⟩ ⟨Nat.zero_le _, Nat.zero_le _⟩ d_TuneSetterModel_heading_78 h (fun I78 A78 H locs h hP hS => ?_)
        refine lv_aload_n hx hb d_TuneSetterModel_heading_81 rfl (lv_at hl 0 rfl) ?_
        refine lv_bipush (v := 96) hx hb d_TuneSetterModel_heading_82 bp_96 ?_
        refine k_TuneSetterModel_emit 96 (rest := []) ⟨hx, hb, hml, hown, hw⟩ hK hD hA hS hP hl.1 (hw _ m_TuneSetterModel_272) (Nat.le_of_ble_eq_true rfl) ⟨Nat.le_of_ble_eq_true rfl, Nat.le_of_ble_eq_true rfl⟩ ⟨Nat.zero_le _, Nat.zero_le _⟩ d_TuneSetterModel_heading_84 h (fun I84 A84 H locs h hP hS => ?_)
        refine lv_aload_n hx hb d_TuneSetterModel_heading_87 rfl (lv_at hl 0 rfl) ?_
        refine lv_bipush (v := 77) hx hb d_TuneSetterModel_heading_88 bp_77 ?_
        refine k_TuneSetterModel_emit 77 (rest := []) ⟨hx, hb, hml, hown, hw⟩ hK hD hA hS hP hl.1 (hw _ m_TuneSetterModel_272) (Nat.le_of_ble_eq_true rfl) ⟨Nat.le_of_ble_eq_true rfl, Nat.le_of_ble_eq_true rfl⟩ ⟨Nat.zero_le _, Nat.zero_le _⟩ d_TuneSetterModel_heading_90 h (fun I90 A90 H locs h hP hS => ?_)
        refine lv_aload_n hx hb d_TuneSetterModel_heading_93 rfl (lv_at hl 0 rfl) ?_
        refine lv_bipush (v := 84) hx hb d_TuneSetterModel_heading_94 bp_84 ?_
        refine k_TuneSetterModel_emit 84 (rest := []) ⟨hx, hb, hml, hown, hw⟩ hK hD hA hS hP hl.1 (hw _ m_TuneSetterModel_272) (Nat.le_of_ble_eq_true rfl) ⟨Nat.le_of_ble_eq_true rfl, Nat.le_of_ble_eq_true rfl⟩ ⟨Nat.zero_le _, Nat.zero_le _⟩ d_TuneSetterModel_heading_96 h (fun I96 A96 H locs h hP hS => ?_)
        refine lv_aload_n hx hb d_TuneSetterModel_heading_99 rfl (lv_at hl 0 rfl) ?_
        refine lv_bipush (v := 114) hx hb d_TuneSetterModel_heading_100 bp_114 ?_
        refine k_TuneSetterModel_emit 114 (rest := []) ⟨hx, hb, hml, hown, hw⟩ hK hD hA hS hP hl.1 (hw _ m_TuneSetterModel_272) (Nat.le_of_ble_eq_true rfl) ⟨Nat.le_of_ble_eq_true rfl, Nat.le_of_ble_eq_true rfl⟩ ⟨Nat.zero_le _, Nat.zero_le _⟩ d_TuneSetterModel_heading_102 h (fun I102 A102 H locs h hP hS => ?_)
        refine lv_aload_n hx hb d_TuneSetterModel_heading_105 rfl (lv_at hl 0 rfl) ?_
        refine lv_bipush (v := 107) hx hb d_TuneSetterModel_heading_106 bp_107 ?_
        refine k_TuneSetterModel_emit 107 (rest := []) ⟨hx, hb, hml, hown, hw⟩ hK hD hA hS hP hl.1 (hw _ m_TuneSetterModel_272) (Nat.le_of_ble_eq_true rfl) ⟨Nat.le_of_ble_eq_true rfl, Nat.le_of_ble_eq_true rfl⟩ ⟨Nat.zero_le _, Nat.zero_le _⟩ d_TuneSetterModel_heading_108 h (fun I108 A108 H locs h hP hS => ?_)
        refine lv_iconst (v := 3) hx hb d_TuneSetterModel_heading_111 ic_3 ?_
        refine lv_istore_n (lv' := [(2, .int 3), (0, .ref (a 0)), (1, .int y1)]) hx hb d_TuneSetterModel_heading_112 rfl hl (by decide) rfl (fun ls hl => ?_)
        obtain ⟨n113, h⟩ := h
        exact j113 n113 y1 3 I108 A108 _ _ _ h hP hS (lv_sub hl [1, 2, 0] rfl)
      · have h := h.2 q
        refine lv_aload_n hx hb d_TuneSetterModel_heading_60 rfl (lv_at hl 0 rfl) ?_
        refine lv_iconst (v := 0) hx hb d_TuneSetterModel_heading_61 ic_0 ?_
        refine k_TuneSetterModel_emit 0 (rest := []) ⟨hx, hb, hml, hown, hw⟩ hK hD hA hS hP hl.1 (hw _ m_TuneSetterModel_272) (Nat.le_of_ble_eq_true rfl) ⟨Nat.le_of_ble_eq_true rfl, Nat.le_of_ble_eq_true rfl⟩ ⟨Nat.zero_le _, Nat.zero_le _⟩ d_TuneSetterModel_heading_62 h (fun I62 A62 H locs h hP hS => ?_)
        obtain ⟨v65, ev65⟩ : ∃ z : Int32, z = y2 + 1 := ⟨_, rfl⟩
        have h := h v65 ev65
        refine lv_iinc (k := 2) (v := v65) (lv' := [(2, .int v65), (0, .ref (a 0)), (1, .int y1)]) hx hb d_TuneSetterModel_heading_65 hl rfl (by rw [ev65, ic_1]) (by decide) rfl (fun ls hl => ?_)
        refine lv_goto (tgt := 55) hx hb d_TuneSetterModel_heading_68 rfl ?_
        exact ih y1 v65 I62 A62 _ _ _ h hP hS (lv_sub hl [1, 2, 0] rfl)
  have j31 : ∀ n : Nat, ∀ (y1 : Int32) (y2 : Int32) (I : Nat → Int32) (A : Nat → Nat → Int32) (H : Heap) (locs : List Loc) (ls : Array Slot), wp_TuneSetterModel_heading_31 post n y1 y2 I A → va_P D cls (wR cA a I A) H → va_S (AR a s.heap.size) s.heap H locs → lv_has ls 3 [(0, .ref (a 0)), (1, .int y1), (2, .int y2)] → W p l e (headSpec w_TuneSetterModel_heading ({ frames := 1, cells := 0, slots := 0, locals := 21 })).room s m [.ref (a 0), .int x1].toArray below meth c H locs 0 0 (MQ below (va_Qv (fun (u : StW) => post u.1 u.2) (EndR D cA a) (AR a s.heap.size)) [.ref (a 0), .int x1].toArray s 0 0 (AR a s.heap.size)) (F0 m 31 ls []) := by
    intro n
    induction n with
    | zero =>
      intro y1 y2 I A H locs ls h hP hS hl
      exact False.elim h
    | succ n ih =>
      intro y1 y2 I A H locs ls h hP hS hl
      unfold wp_TuneSetterModel_heading_31 at h
      refine lv_iload_n hx hb d_TuneSetterModel_heading_31 rfl (lv_at hl 2 rfl) ?_
      refine lv_iconst (v := 3) hx hb d_TuneSetterModel_heading_32 ic_3 ?_
      refine lv_icmp_ge (tgt := 47) hx hb d_TuneSetterModel_heading_33 rfl (fun q => ?_) (fun q => ?_)
      · have h := h.1 q
        refine lv_aload_n hx hb d_TuneSetterModel_heading_47 rfl (lv_at hl 0 rfl) ?_
        refine lv_bipush (v := 6) hx hb d_TuneSetterModel_heading_48 bp_6 ?_
        refine k_TuneSetterModel_emit 6 (rest := []) ⟨hx, hb, hml, hown, hw⟩ hK hD hA hS hP hl.1 (hw _ m_TuneSetterModel_272) (Nat.le_of_ble_eq_true rfl) ⟨Nat.le_of_ble_eq_true rfl, Nat.le_of_ble_eq_true rfl⟩ ⟨Nat.zero_le _, Nat.zero_le _⟩ d_TuneSetterModel_heading_50 h (fun I50 A50 H locs h hP hS => ?_)
        refine lv_iconst (v := 0) hx hb d_TuneSetterModel_heading_53 ic_0 ?_
        refine lv_istore_n (lv' := [(2, .int 0), (0, .ref (a 0)), (1, .int y1)]) hx hb d_TuneSetterModel_heading_54 rfl hl (by decide) rfl (fun ls hl => ?_)
        obtain ⟨n55, h⟩ := h
        exact j55 n55 y1 0 I50 A50 _ _ _ h hP hS (lv_sub hl [1, 2, 0] rfl)
      · have h := h.2 q
        refine lv_aload_n hx hb d_TuneSetterModel_heading_36 rfl (lv_at hl 0 rfl) ?_
        refine lv_iconst (v := 0) hx hb d_TuneSetterModel_heading_37 ic_0 ?_
        refine k_TuneSetterModel_emit 0 (rest := []) ⟨hx, hb, hml, hown, hw⟩ hK hD hA hS hP hl.1 (hw _ m_TuneSetterModel_272) (Nat.le_of_ble_eq_true rfl) ⟨Nat.le_of_ble_eq_true rfl, Nat.le_of_ble_eq_true rfl⟩ ⟨Nat.zero_le _, Nat.zero_le _⟩ d_TuneSetterModel_heading_38 h (fun I38 A38 H locs h hP hS => ?_)
        obtain ⟨v41, ev41⟩ : ∃ z : Int32, z = y2 + 1 := ⟨_, rfl⟩
        have h := h v41 ev41
        refine lv_iinc (k := 2) (v := v41) (lv' := [(2, .int v41), (0, .ref (a 0)), (1, .int y1)]) hx hb d_TuneSetterModel_heading_41 hl rfl (by rw [ev41, ic_1]) (by decide) rfl (fun ls hl => ?_)
        refine lv_goto (tgt := 31) hx hb d_TuneSetterModel_heading_44 rfl ?_
        exact ih y1 v41 I38 A38 _ _ _ h hP hS (lv_sub hl [1, 2, 0] rfl)
  have hl := lv_entry ([.ref (a 0), .int x1]) (n := 3) (Nat.le_of_ble_eq_true rfl)
  rw [lg_entry_eq]
  generalize (lg_sl ([.ref (a 0), .int x1]) ++ List.replicate (3 - (lg_sl ([.ref (a 0), .int x1])).length) Slot.unset).toArray = ls at hl ⊢
  have hl : lv_has ls 3 [(0, .ref (a 0)), (1, .int x1)] := hl
  unfold wp_TuneSetterModel_heading at h
  refine lv_aload_n hx hb d_TuneSetterModel_heading_0 rfl (lv_at hl 0 rfl) ?_
  refine lv_iconst (v := 0) hx hb d_TuneSetterModel_heading_1 ic_0 ?_
  refine pR_TuneSetterModel_made hx hb hw hown hK hD hS hP (hw _ m_TuneSetterModel_269) d_TuneSetterModel_heading_2 (fun H locs hP hS => ?_)
  refine lv_aload_n hx hb d_TuneSetterModel_heading_5 rfl (lv_at hl 0 rfl) ?_
  refine lv_bipush (v := 77) hx hb d_TuneSetterModel_heading_6 bp_77 ?_
  refine k_TuneSetterModel_emit 77 (rest := []) ⟨hx, hb, hml, hown, hw⟩ hK hD hA hS hP hl.1 (hw _ m_TuneSetterModel_272) (Nat.le_of_ble_eq_true rfl) ⟨Nat.le_of_ble_eq_true rfl, Nat.le_of_ble_eq_true rfl⟩ ⟨Nat.zero_le _, Nat.zero_le _⟩ d_TuneSetterModel_heading_8 h (fun I8 A8 H locs h hP hS => ?_)
  refine lv_aload_n hx hb d_TuneSetterModel_heading_11 rfl (lv_at hl 0 rfl) ?_
  refine lv_bipush (v := 84) hx hb d_TuneSetterModel_heading_12 bp_84 ?_
  refine k_TuneSetterModel_emit 84 (rest := []) ⟨hx, hb, hml, hown, hw⟩ hK hD hA hS hP hl.1 (hw _ m_TuneSetterModel_272) (Nat.le_of_ble_eq_true rfl) ⟨Nat.le_of_ble_eq_true rfl, Nat.le_of_ble_eq_true rfl⟩ ⟨Nat.zero_le _, Nat.zero_le _⟩ d_TuneSetterModel_heading_14 h (fun I14 A14 H locs h hP hS => ?_)
  refine lv_aload_n hx hb d_TuneSetterModel_heading_17 rfl (lv_at hl 0 rfl) ?_
  refine lv_bipush (v := 104) hx hb d_TuneSetterModel_heading_18 bp_104 ?_
  refine k_TuneSetterModel_emit 104 (rest := []) ⟨hx, hb, hml, hown, hw⟩ hK hD hA hS hP hl.1 (hw _ m_TuneSetterModel_272) (Nat.le_of_ble_eq_true rfl) ⟨Nat.le_of_ble_eq_true rfl, Nat.le_of_ble_eq_true rfl⟩ ⟨Nat.zero_le _, Nat.zero_le _⟩ d_TuneSetterModel_heading_20 h (fun I20 A20 H locs h hP hS => ?_)
  refine lv_aload_n hx hb d_TuneSetterModel_heading_23 rfl (lv_at hl 0 rfl) ?_
  refine lv_bipush (v := 100) hx hb d_TuneSetterModel_heading_24 bp_100 ?_
  refine k_TuneSetterModel_emit 100 (rest := []) ⟨hx, hb, hml, hown, hw⟩ hK hD hA hS hP hl.1 (hw _ m_TuneSetterModel_272) (Nat.le_of_ble_eq_true rfl) ⟨Nat.le_of_ble_eq_true rfl, Nat.le_of_ble_eq_true rfl⟩ ⟨Nat.zero_le _, Nat.zero_le _⟩ d_TuneSetterModel_heading_26 h (fun I26 A26 H locs h hP hS => ?_)
  refine lv_iconst (v := 0) hx hb d_TuneSetterModel_heading_29 ic_0 ?_
  refine lv_istore_n (lv' := [(2, .int 0), (0, .ref (a 0)), (1, .int x1)]) hx hb d_TuneSetterModel_heading_30 rfl hl (by decide) rfl (fun ls hl => ?_)
  obtain ⟨n31, h⟩ := h
  exact j31 n31 x1 0 I26 A26 _ _ _ h hP hS (lv_sub hl [1, 2, 0] rfl)
theorem k_TuneSetterModel_heading {p : Program} {l : Launch} {e : Env} {R : Room} {s : State} {m : MethodId} {args : Array Value} {below : List Frame} {meth : Method} {c : Code} {H : Heap} {locs : List Loc} {cells slots : Nat} {Q : State → Prop} {cc : ByteArray} {pc nL idx : Nat} {own : String} {ls : Array Slot} {D : va_G} {cA a : Nat → Nat} {AA : Nat → Prop} {I : Nat → Int32} {A : Nat → Nat → Int32} {post : (Nat → Int32) → (Nat → Nat → Int32) → Prop} (x1 : Int32) {rest : List Value} (S : CallFix p m c cc nL s args WALL own) (hK : KR D cA a AA s) (hD : ∀ I A, va_D AA (wR cA a I A)) (hA : ∀ q : Nat, s.heap.size ≤ q → AA q) (hS : va_S AA s.heap H locs) (hP : va_P D cls (wR cA a I A) H) (hl1 : ls.size = nL) (hlink : (Cond.methodLink own idx y_TuneSetterModel_heading).before args s = true) (hst : (rest.map fun v => v.category).sum ≤ 8) (hR : ({ frames := 1, cells := 0, slots := 0, locals := 21 } : Room).frames + 1 ≤ R.frames ∧ 8 + (3 + 11) + ({ frames := 1, cells := 0, slots := 0, locals := 21 } : Room).locals ≤ R.locals) (hcs : cells ≤ R.cells ∧ slots ≤ R.slots) (hdg : decode cc pc = .ok (.invokevirtual idx, 3)) (h : wp_TuneSetterModel_heading x1 I A post) (kk : ∀ (I1 : Nat → Int32) (A1 : Nat → Nat → Int32) (H1 : Heap) (locs1 : List Loc), post I1 A1 → va_P D cls (wR cA a I1 A1) H1 → va_S AA s.heap H1 locs1 → W p l e R s m args below meth c H1 locs1 cells slots Q (F0 m (pc + 3) ls rest)) : W p l e R s m args below meth c H locs cells slots Q (F0 m pc ls (.int x1 :: .ref (a 0) :: rest)) :=
  va_callv (va_runV (As := [.int x1]) (rest := rest) S (c_TuneSetterModel_heading l D cA a H.size x1 I A post h) ⟨callB_of 1 S.2.2.2.2 g_TuneSetterModel_heading rfl rfl rfl (S.2.2.2.2 _ mi_TuneSetterModel) hlink ⟨by decide, by decide, by decide +kernel⟩ hR, S.2.2.2.2 _ mn_TuneSetterModel_heading, S.2.2.2.2 _ ms_TuneSetterModel_heading⟩ (preRV hK hD hA hS hP 0 rfl rfl) rfl rfl hl1 rfl (lv_room hst) hdg hcs) hS (fun q _ z => AR_le hD hA hS q z) (fun q z => AR_le hD hA hS q z) (fun u t H1 locs1 ht _ hp hB _ _ hS1 => kk u.1 u.2 H1 locs1 hp (of_endR ht hB) hS1)
def wp_TuneSetterModel_order_44 (post : Int64 → (Nat → Int32) → (Nat → Nat → Int32) → Prop) (y2 : Int32) (y3 : Int32) (s0 : Int64) (I : Nat → Int32) (A : Nat → Nat → Int32) : Prop := ((y3 = 0 → (vp_in y2 64 ∧ post (((s0 * 256) + 0) + ((A 15 (y2.toNatClampNeg)).toInt64)) I A)) ∧ (¬ y3 = 0 → (vp_in y2 64 ∧ post (((s0 * 256) + 128) + ((A 15 (y2.toNatClampNeg)).toInt64)) I A)))
def wp_TuneSetterModel_order_15 (post : Int64 → (Nat → Int32) → (Nat → Nat → Int32) → Prop) (y2 : Int32) (s0 : Int32) (I : Nat → Int32) (A : Nat → Nat → Int32) : Prop := ((s0 = 0 → (vp_in y2 64 ∧ (vp_in y2 64 ∧ wp_TuneSetterModel_order_44 post y2 s0 (((A 13 (y2.toNatClampNeg)) + (A 14 (y2.toNatClampNeg))).toInt64) I A))) ∧ (¬ s0 = 0 → (vp_in y2 64 ∧ wp_TuneSetterModel_order_44 post y2 s0 ((A 13 (y2.toNatClampNeg)).toInt64) I A)))
def wp_TuneSetterModel_order (x1 : Int32) (I : Nat → Int32) (A : Nat → Nat → Int32) (post : Int64 → (Nat → Int32) → (Nat → Nat → Int32) → Prop) : Prop := (∀ v3 : Int32, v3 = x1 / 2 → (((x1 - x1 / 2 * 2) = 0 → wp_TuneSetterModel_order_15 post v3 1 I A) ∧ (¬ (x1 - x1 / 2 * 2) = 0 → wp_TuneSetterModel_order_15 post v3 0 I A)))
theorem d_TuneSetterModel_order_0 : decode b_TuneSetterModel_order 0 = .ok (.iload_n 1, 1) := by decide +kernel
theorem d_TuneSetterModel_order_1 : decode b_TuneSetterModel_order 1 = .ok (.iconst 2, 1) := by decide +kernel
theorem d_TuneSetterModel_order_2 : decode b_TuneSetterModel_order 2 = .ok (.idiv, 1) := by decide +kernel
theorem d_TuneSetterModel_order_3 : decode b_TuneSetterModel_order 3 = .ok (.istore_n 2, 1) := by decide +kernel
theorem d_TuneSetterModel_order_4 : decode b_TuneSetterModel_order 4 = .ok (.iload_n 1, 1) := by decide +kernel
theorem d_TuneSetterModel_order_5 : decode b_TuneSetterModel_order 5 = .ok (.iconst 2, 1) := by decide +kernel
theorem d_TuneSetterModel_order_6 : decode b_TuneSetterModel_order 6 = .ok (.irem, 1) := by decide +kernel
theorem d_TuneSetterModel_order_7 : decode b_TuneSetterModel_order 7 = .ok (.ifCond .ne 7, 3) := by decide +kernel
theorem d_TuneSetterModel_order_10 : decode b_TuneSetterModel_order 10 = .ok (.iconst 1, 1) := by decide +kernel
theorem d_TuneSetterModel_order_11 : decode b_TuneSetterModel_order 11 = .ok (.goto 4, 3) := by decide +kernel
theorem d_TuneSetterModel_order_14 : decode b_TuneSetterModel_order 14 = .ok (.iconst 0, 1) := by decide +kernel
theorem d_TuneSetterModel_order_15 : decode b_TuneSetterModel_order 15 = .ok (.istore_n 3, 1) := by decide +kernel
theorem d_TuneSetterModel_order_16 : decode b_TuneSetterModel_order 16 = .ok (.iload_n 3, 1) := by decide +kernel
theorem d_TuneSetterModel_order_17 : decode b_TuneSetterModel_order 17 = .ok (.ifCond .eq 13, 3) := by decide +kernel
theorem d_TuneSetterModel_order_20 : decode b_TuneSetterModel_order 20 = .ok (.aload_n 0, 1) := by decide +kernel
theorem d_TuneSetterModel_order_21 : decode b_TuneSetterModel_order 21 = .ok (.getfield 60, 3) := by decide +kernel
theorem d_TuneSetterModel_order_24 : decode b_TuneSetterModel_order 24 = .ok (.iload_n 2, 1) := by decide +kernel
theorem d_TuneSetterModel_order_25 : decode b_TuneSetterModel_order 25 = .ok (.iaload, 1) := by decide +kernel
theorem d_TuneSetterModel_order_26 : decode b_TuneSetterModel_order 26 = .ok (.i2l, 1) := by decide +kernel
theorem d_TuneSetterModel_order_27 : decode b_TuneSetterModel_order 27 = .ok (.goto 17, 3) := by decide +kernel
theorem d_TuneSetterModel_order_30 : decode b_TuneSetterModel_order 30 = .ok (.aload_n 0, 1) := by decide +kernel
theorem d_TuneSetterModel_order_31 : decode b_TuneSetterModel_order 31 = .ok (.getfield 60, 3) := by decide +kernel
theorem d_TuneSetterModel_order_34 : decode b_TuneSetterModel_order 34 = .ok (.iload_n 2, 1) := by decide +kernel
theorem d_TuneSetterModel_order_35 : decode b_TuneSetterModel_order 35 = .ok (.iaload, 1) := by decide +kernel
theorem d_TuneSetterModel_order_36 : decode b_TuneSetterModel_order 36 = .ok (.aload_n 0, 1) := by decide +kernel
theorem d_TuneSetterModel_order_37 : decode b_TuneSetterModel_order 37 = .ok (.getfield 63, 3) := by decide +kernel
theorem d_TuneSetterModel_order_40 : decode b_TuneSetterModel_order 40 = .ok (.iload_n 2, 1) := by decide +kernel
theorem d_TuneSetterModel_order_41 : decode b_TuneSetterModel_order 41 = .ok (.iaload, 1) := by decide +kernel
theorem d_TuneSetterModel_order_42 : decode b_TuneSetterModel_order 42 = .ok (.iadd, 1) := by decide +kernel
theorem d_TuneSetterModel_order_43 : decode b_TuneSetterModel_order 43 = .ok (.i2l, 1) := by decide +kernel
theorem d_TuneSetterModel_order_44 : decode b_TuneSetterModel_order 44 = .ok (.lstore 4, 2) := by decide +kernel
theorem d_TuneSetterModel_order_46 : decode b_TuneSetterModel_order 46 = .ok (.lload 4, 2) := by decide +kernel
theorem d_TuneSetterModel_order_48 : decode b_TuneSetterModel_order 48 = .ok (.ldc2_w 275, 3) := by decide +kernel
theorem d_TuneSetterModel_order_51 : decode b_TuneSetterModel_order 51 = .ok (.lmul, 1) := by decide +kernel
theorem d_TuneSetterModel_order_52 : decode b_TuneSetterModel_order 52 = .ok (.iload_n 3, 1) := by decide +kernel
theorem d_TuneSetterModel_order_53 : decode b_TuneSetterModel_order 53 = .ok (.ifCond .eq 9, 3) := by decide +kernel
theorem d_TuneSetterModel_order_56 : decode b_TuneSetterModel_order 56 = .ok (.ldc2_w 277, 3) := by decide +kernel
theorem d_TuneSetterModel_order_59 : decode b_TuneSetterModel_order 59 = .ok (.goto 4, 3) := by decide +kernel
theorem d_TuneSetterModel_order_62 : decode b_TuneSetterModel_order 62 = .ok (.lconst 0, 1) := by decide +kernel
theorem d_TuneSetterModel_order_63 : decode b_TuneSetterModel_order 63 = .ok (.ladd, 1) := by decide +kernel
theorem d_TuneSetterModel_order_64 : decode b_TuneSetterModel_order 64 = .ok (.aload_n 0, 1) := by decide +kernel
theorem d_TuneSetterModel_order_65 : decode b_TuneSetterModel_order 65 = .ok (.getfield 66, 3) := by decide +kernel
theorem d_TuneSetterModel_order_68 : decode b_TuneSetterModel_order 68 = .ok (.iload_n 2, 1) := by decide +kernel
theorem d_TuneSetterModel_order_69 : decode b_TuneSetterModel_order 69 = .ok (.iaload, 1) := by decide +kernel
theorem d_TuneSetterModel_order_70 : decode b_TuneSetterModel_order 70 = .ok (.i2l, 1) := by decide +kernel
theorem d_TuneSetterModel_order_71 : decode b_TuneSetterModel_order 71 = .ok (.ladd, 1) := by decide +kernel
theorem d_TuneSetterModel_order_72 : decode b_TuneSetterModel_order 72 = .ok (.lreturn, 1) := by decide +kernel
def w_TuneSetterModel_order : List Cond := .code y_TuneSetterModel_order b_TuneSetterModel_order 6 (some .long) :: WALL
theorem g_TuneSetterModel_order : GoodIn WALL w_TuneSetterModel_order := good_of mc_TuneSetterModel_order
set_option maxHeartbeats 4000000 in
set_option maxRecDepth 100000 in
theorem c_TuneSetterModel_order (l : Launch) (D : va_G) (cA a : Nat → Nat) (sz : Nat) (x1 : Int32) (I : Nat → Int32) (A : Nat → Nat → Int32) (post : Int64 → (Nat → Int32) → (Nat → Nat → Int32) → Prop) (h : wp_TuneSetterModel_order x1 I A post) : Met l y_TuneSetterModel_order w_TuneSetterModel_order ({ frames := 0, cells := 0, slots := 0, locals := 0 }) (va_Pc [.ref (a 0), .int x1] (PreR D cA a I A sz)) (va_Ql (fun r (u : StW) => post r u.1 u.2) (EndR D cA a) (AR a sz)) 0 0 (AR a sz) := by
  refine Met.ofW (cc := b_TuneSetterModel_order) (maxL := 6) (ret := (some .long)) (by decide) rfl ?_
  intro p e s m args below meth c s₁ B hml hv
  obtain ⟨rfl, hsz, hP, hK, hD0⟩ := hv
  have hx := B.exec
  have hb := B.bytes
  have hr := B.returns
  have hts := atoms_spec (ws := w_TuneSetterModel_order) B.pre
  have hw := wall_of hts
  have hown : s.vm.findClass R_TuneSetterModel = some m.cls := findClass_of_methodNamed B.named
  have hlocks := B.notSynchronized
  subst hsz
  have hD := hDR (sz := s.heap.size) hD0
  have hA : ∀ q : Nat, s.heap.size ≤ q → AR a s.heap.size q := fun q h => Or.inr h
  have hS : va_S (AR a s.heap.size) s.heap s.heap [] := va_S.rf
  have j44 : ∀ (y2 : Int32) (y3 : Int32) (s0 : Int64) (I : Nat → Int32) (A : Nat → Nat → Int32) (H : Heap) (locs : List Loc) (ls : Array Slot), wp_TuneSetterModel_order_44 post y2 y3 s0 I A → va_P D cls (wR cA a I A) H → va_S (AR a s.heap.size) s.heap H locs → lv_has ls 6 [(0, .ref (a 0)), (2, .int y2), (3, .int y3)] → W p l e (headSpec w_TuneSetterModel_order ({ frames := 0, cells := 0, slots := 0, locals := 0 })).room s m [.ref (a 0), .int x1].toArray below meth c H locs 0 0 (MQ below (va_Ql (fun r (u : StW) => post r u.1 u.2) (EndR D cA a) (AR a s.heap.size)) [.ref (a 0), .int x1].toArray s 0 0 (AR a s.heap.size)) (F0 m 44 ls [.long s0]) := by
    intro y2 y3 s0 I A H locs ls h hP hS hl
    unfold wp_TuneSetterModel_order_44 at h
    refine lv_lstore (lv' := [(4, .long s0), (0, .ref (a 0)), (2, .int y2), (3, .int y3)]) hx hb d_TuneSetterModel_order_44 hl (by decide) rfl (fun ls hl => ?_)
    refine lv_lload hx hb d_TuneSetterModel_order_46 (lv_at hl 0 rfl) ?_
    refine lv_ldc2 (v := 256) hx hb hown (hw _ m_TuneSetterModel_275) d_TuneSetterModel_order_48 ?_
    refine lv_lmul hx hb d_TuneSetterModel_order_51 ?_
    refine lv_iload_n hx hb d_TuneSetterModel_order_52 rfl (lv_at hl 3 rfl) ?_
    refine lv_if_eq (tgt := 62) hx hb d_TuneSetterModel_order_53 rfl (fun q => ?_) (fun q => ?_)
    · have h := h.1 q
      refine lv_lconst (v := 0) hx hb d_TuneSetterModel_order_62 rfl ?_
      refine lv_ladd hx hb d_TuneSetterModel_order_63 ?_
      refine lv_aload_n hx hb d_TuneSetterModel_order_64 rfl (lv_at hl 1 rfl) ?_
      refine gR_TuneSetterModel_tone hx hb hw hown hK hP (hw _ m_TuneSetterModel_66) d_TuneSetterModel_order_65 ?_
      refine lv_iload_n hx hb d_TuneSetterModel_order_68 rfl (lv_at hl 2 rfl) ?_
      obtain ⟨hin, h⟩ := h
      refine lR15 hx hb hK hP hin d_TuneSetterModel_order_69 ?_
      refine lv_i2l hx hb d_TuneSetterModel_order_70 rfl ?_
      refine lv_ladd hx hb d_TuneSetterModel_order_71 ?_
      exact W.lret hx hb hr (fun t ht hW => ⟨⟨_, (I, A), rfl, h, endR_of ht hP⟩, hS.F ht⟩) hS.2.2 d_TuneSetterModel_order_72
    · have h := h.2 q
      refine lv_ldc2 (v := 128) hx hb hown (hw _ m_TuneSetterModel_277) d_TuneSetterModel_order_56 ?_
      refine lv_goto (tgt := 63) hx hb d_TuneSetterModel_order_59 rfl ?_
      refine lv_ladd hx hb d_TuneSetterModel_order_63 ?_
      refine lv_aload_n hx hb d_TuneSetterModel_order_64 rfl (lv_at hl 1 rfl) ?_
      refine gR_TuneSetterModel_tone hx hb hw hown hK hP (hw _ m_TuneSetterModel_66) d_TuneSetterModel_order_65 ?_
      refine lv_iload_n hx hb d_TuneSetterModel_order_68 rfl (lv_at hl 2 rfl) ?_
      obtain ⟨hin, h⟩ := h
      refine lR15 hx hb hK hP hin d_TuneSetterModel_order_69 ?_
      refine lv_i2l hx hb d_TuneSetterModel_order_70 rfl ?_
      refine lv_ladd hx hb d_TuneSetterModel_order_71 ?_
      exact W.lret hx hb hr (fun t ht hW => ⟨⟨_, (I, A), rfl, h, endR_of ht hP⟩, hS.F ht⟩) hS.2.2 d_TuneSetterModel_order_72
  have j15 : ∀ (y2 : Int32) (s0 : Int32) (I : Nat → Int32) (A : Nat → Nat → Int32) (H : Heap) (locs : List Loc) (ls : Array Slot), wp_TuneSetterModel_order_15 post y2 s0 I A → va_P D cls (wR cA a I A) H → va_S (AR a s.heap.size) s.heap H locs → lv_has ls 6 [(0, .ref (a 0)), (2, .int y2)] → W p l e (headSpec w_TuneSetterModel_order ({ frames := 0, cells := 0, slots := 0, locals := 0 })).room s m [.ref (a 0), .int x1].toArray below meth c H locs 0 0 (MQ below (va_Ql (fun r (u : StW) => post r u.1 u.2) (EndR D cA a) (AR a s.heap.size)) [.ref (a 0), .int x1].toArray s 0 0 (AR a s.heap.size)) (F0 m 15 ls [.int s0]) := by
    intro y2 s0 I A H locs ls h hP hS hl
    unfold wp_TuneSetterModel_order_15 at h
    refine lv_istore_n (lv' := [(3, .int s0), (0, .ref (a 0)), (2, .int y2)]) hx hb d_TuneSetterModel_order_15 rfl hl (by decide) rfl (fun ls hl => ?_)
    refine lv_iload_n hx hb d_TuneSetterModel_order_16 rfl (lv_at hl 0 rfl) ?_
    refine lv_if_eq (tgt := 30) hx hb d_TuneSetterModel_order_17 rfl (fun q => ?_) (fun q => ?_)
    · have h := h.1 q
      refine lv_aload_n hx hb d_TuneSetterModel_order_30 rfl (lv_at hl 1 rfl) ?_
      refine gR_TuneSetterModel_onset hx hb hw hown hK hP (hw _ m_TuneSetterModel_60) d_TuneSetterModel_order_31 ?_
      refine lv_iload_n hx hb d_TuneSetterModel_order_34 rfl (lv_at hl 2 rfl) ?_
      obtain ⟨hin, h⟩ := h
      refine lR13 hx hb hK hP hin d_TuneSetterModel_order_35 ?_
      refine lv_aload_n hx hb d_TuneSetterModel_order_36 rfl (lv_at hl 1 rfl) ?_
      refine gR_TuneSetterModel_length hx hb hw hown hK hP (hw _ m_TuneSetterModel_63) d_TuneSetterModel_order_37 ?_
      refine lv_iload_n hx hb d_TuneSetterModel_order_40 rfl (lv_at hl 2 rfl) ?_
      obtain ⟨hin, h⟩ := h
      refine lR14 hx hb hK hP hin d_TuneSetterModel_order_41 ?_
      refine lv_iadd hx hb d_TuneSetterModel_order_42 ?_
      refine lv_i2l hx hb d_TuneSetterModel_order_43 rfl ?_
      exact j44 y2 s0 (((A 13 (y2.toNatClampNeg)) + (A 14 (y2.toNatClampNeg))).toInt64) I A _ _ _ h hP hS (lv_sub hl [1, 2, 0] rfl)
    · have h := h.2 q
      refine lv_aload_n hx hb d_TuneSetterModel_order_20 rfl (lv_at hl 1 rfl) ?_
      refine gR_TuneSetterModel_onset hx hb hw hown hK hP (hw _ m_TuneSetterModel_60) d_TuneSetterModel_order_21 ?_
      refine lv_iload_n hx hb d_TuneSetterModel_order_24 rfl (lv_at hl 2 rfl) ?_
      obtain ⟨hin, h⟩ := h
      refine lR13 hx hb hK hP hin d_TuneSetterModel_order_25 ?_
      refine lv_i2l hx hb d_TuneSetterModel_order_26 rfl ?_
      refine lv_goto (tgt := 44) hx hb d_TuneSetterModel_order_27 rfl ?_
      exact j44 y2 s0 ((A 13 (y2.toNatClampNeg)).toInt64) I A _ _ _ h hP hS (lv_sub hl [1, 2, 0] rfl)
  have hl := lv_entry ([.ref (a 0), .int x1]) (n := 6) (Nat.le_of_ble_eq_true rfl)
  rw [lg_entry_eq]
  generalize (lg_sl ([.ref (a 0), .int x1]) ++ List.replicate (6 - (lg_sl ([.ref (a 0), .int x1])).length) Slot.unset).toArray = ls at hl ⊢
  have hl : lv_has ls 6 [(0, .ref (a 0)), (1, .int x1)] := hl
  unfold wp_TuneSetterModel_order at h
  refine lv_iload_n hx hb d_TuneSetterModel_order_0 rfl (lv_at hl 1 rfl) ?_
  refine lv_iconst (v := 2) hx hb d_TuneSetterModel_order_1 ic_2 ?_
  refine lv_idiv hx hb d_TuneSetterModel_order_2 (by decide) ?_
  refine lv_topi (fun v3 ev3 => ?_)
  have h := h v3 ev3
  refine lv_istore_n (lv' := [(2, .int v3), (0, .ref (a 0)), (1, .int x1)]) hx hb d_TuneSetterModel_order_3 rfl hl (by decide) rfl (fun ls hl => ?_)
  refine lv_iload_n hx hb d_TuneSetterModel_order_4 rfl (lv_at hl 2 rfl) ?_
  refine lv_iconst (v := 2) hx hb d_TuneSetterModel_order_5 ic_2 ?_
  refine lv_irem hx hb d_TuneSetterModel_order_6 (by decide) ?_
  refine lv_if_ne (tgt := 14) hx hb d_TuneSetterModel_order_7 rfl (fun q => ?_) (fun q => ?_)
  · have h := h.2 q
    refine lv_iconst (v := 0) hx hb d_TuneSetterModel_order_14 ic_0 ?_
    exact j15 v3 0 I A _ _ _ h hP hS (lv_sub hl [1, 0] rfl)
  · have h := h.1 q
    refine lv_iconst (v := 1) hx hb d_TuneSetterModel_order_10 ic_1 ?_
    refine lv_goto (tgt := 15) hx hb d_TuneSetterModel_order_11 rfl ?_
    exact j15 v3 1 I A _ _ _ h hP hS (lv_sub hl [1, 0] rfl)
theorem k_TuneSetterModel_order {p : Program} {l : Launch} {e : Env} {R : Room} {s : State} {m : MethodId} {args : Array Value} {below : List Frame} {meth : Method} {c : Code} {H : Heap} {locs : List Loc} {cells slots : Nat} {Q : State → Prop} {cc : ByteArray} {pc nL idx : Nat} {own : String} {ls : Array Slot} {D : va_G} {cA a : Nat → Nat} {AA : Nat → Prop} {I : Nat → Int32} {A : Nat → Nat → Int32} {post : Int64 → (Nat → Int32) → (Nat → Nat → Int32) → Prop} (x1 : Int32) {rest : List Value} (S : CallFix p m c cc nL s args WALL own) (hK : KR D cA a AA s) (hD : ∀ I A, va_D AA (wR cA a I A)) (hA : ∀ q : Nat, s.heap.size ≤ q → AA q) (hS : va_S AA s.heap H locs) (hP : va_P D cls (wR cA a I A) H) (hl1 : ls.size = nL) (hlink : (Cond.methodLink own idx y_TuneSetterModel_order).before args s = true) (hst : (rest.map fun v => v.category).sum ≤ 8) (hR : ({ frames := 0, cells := 0, slots := 0, locals := 0 } : Room).frames + 1 ≤ R.frames ∧ 8 + (6 + 11) + ({ frames := 0, cells := 0, slots := 0, locals := 0 } : Room).locals ≤ R.locals) (hcs : cells ≤ R.cells ∧ slots ≤ R.slots) (hdg : decode cc pc = .ok (.invokevirtual idx, 3)) (h : wp_TuneSetterModel_order x1 I A post) (kk : ∀ (r : Int64) (I1 : Nat → Int32) (A1 : Nat → Nat → Int32) (H1 : Heap) (locs1 : List Loc), post r I1 A1 → va_P D cls (wR cA a I1 A1) H1 → va_S AA s.heap H1 locs1 → W p l e R s m args below meth c H1 locs1 cells slots Q (F0 m (pc + 3) ls (.long r :: rest))) : W p l e R s m args below meth c H locs cells slots Q (F0 m pc ls (.int x1 :: .ref (a 0) :: rest)) :=
  va_calll (va_runV (As := [.int x1]) (rest := rest) S (c_TuneSetterModel_order l D cA a H.size x1 I A post h) ⟨callB_of 1 S.2.2.2.2 g_TuneSetterModel_order rfl rfl rfl (S.2.2.2.2 _ mi_TuneSetterModel) hlink ⟨by decide, by decide, by decide +kernel⟩ hR, S.2.2.2.2 _ mn_TuneSetterModel_order, S.2.2.2.2 _ ms_TuneSetterModel_order⟩ (preRV hK hD hA hS hP 0 rfl rfl) rfl rfl hl1 rfl (lv_room hst) hdg hcs) hS (fun q _ z => AR_le hD hA hS q z) (fun q z => AR_le hD hA hS q z) (fun r u t H1 locs1 ht _ hp hB _ _ hS1 => kk r u.1 u.2 H1 locs1 hp (of_endR ht hB) hS1)
def wp_TuneSetterModel_emitGap_24 (post : (Nat → Int32) → (Nat → Nat → Int32) → Prop) (y1 : Int32) (I : Nat → Int32) (A : Nat → Nat → Int32) : Prop := ((y1 < 128 → (wp_TuneSetterModel_emit (y1 - y1 / 128 * 128) I A (fun I54 A54 => post I54 A54))) ∧ (¬ y1 < 128 → (wp_TuneSetterModel_emit ((128 : Int32) + ((y1 / 128) - (y1 / 128) / 128 * 128)) I A (fun I45 A45 => (wp_TuneSetterModel_emit (y1 - y1 / 128 * 128) I45 A45 (fun I54 A54 => post I54 A54))))))
def wp_TuneSetterModel_emitGap (x1 : Int32) (I : Nat → Int32) (A : Nat → Nat → Int32) (post : (Nat → Int32) → (Nat → Nat → Int32) → Prop) : Prop := ((x1 < 16384 → wp_TuneSetterModel_emitGap_24 post x1 I A) ∧ (¬ x1 < 16384 → (wp_TuneSetterModel_emit ((128 : Int32) + ((x1 / 16384) - (x1 / 16384) / 128 * 128)) I A (fun I21 A21 => wp_TuneSetterModel_emitGap_24 post x1 I21 A21))))
theorem d_TuneSetterModel_emitGap_0 : decode b_TuneSetterModel_emitGap 0 = .ok (.iload_n 1, 1) := by decide +kernel
theorem d_TuneSetterModel_emitGap_1 : decode b_TuneSetterModel_emitGap 1 = .ok (.sipush 16384, 3) := by decide +kernel
theorem d_TuneSetterModel_emitGap_4 : decode b_TuneSetterModel_emitGap 4 = .ok (.if_icmp .lt 20, 3) := by decide +kernel
theorem d_TuneSetterModel_emitGap_7 : decode b_TuneSetterModel_emitGap 7 = .ok (.aload_n 0, 1) := by decide +kernel
theorem d_TuneSetterModel_emitGap_8 : decode b_TuneSetterModel_emitGap 8 = .ok (.sipush 128, 3) := by decide +kernel
theorem d_TuneSetterModel_emitGap_11 : decode b_TuneSetterModel_emitGap 11 = .ok (.iload_n 1, 1) := by decide +kernel
theorem d_TuneSetterModel_emitGap_12 : decode b_TuneSetterModel_emitGap 12 = .ok (.sipush 16384, 3) := by decide +kernel
theorem d_TuneSetterModel_emitGap_15 : decode b_TuneSetterModel_emitGap 15 = .ok (.idiv, 1) := by decide +kernel
theorem d_TuneSetterModel_emitGap_16 : decode b_TuneSetterModel_emitGap 16 = .ok (.sipush 128, 3) := by decide +kernel
theorem d_TuneSetterModel_emitGap_19 : decode b_TuneSetterModel_emitGap 19 = .ok (.irem, 1) := by decide +kernel
theorem d_TuneSetterModel_emitGap_20 : decode b_TuneSetterModel_emitGap 20 = .ok (.iadd, 1) := by decide +kernel
theorem d_TuneSetterModel_emitGap_21 : decode b_TuneSetterModel_emitGap 21 = .ok (.invokevirtual 272, 3) := by decide +kernel
theorem d_TuneSetterModel_emitGap_24 : decode b_TuneSetterModel_emitGap 24 = .ok (.iload_n 1, 1) := by decide +kernel
theorem d_TuneSetterModel_emitGap_25 : decode b_TuneSetterModel_emitGap 25 = .ok (.sipush 128, 3) := by decide +kernel
theorem d_TuneSetterModel_emitGap_28 : decode b_TuneSetterModel_emitGap 28 = .ok (.if_icmp .lt 20, 3) := by decide +kernel
theorem d_TuneSetterModel_emitGap_31 : decode b_TuneSetterModel_emitGap 31 = .ok (.aload_n 0, 1) := by decide +kernel
theorem d_TuneSetterModel_emitGap_32 : decode b_TuneSetterModel_emitGap 32 = .ok (.sipush 128, 3) := by decide +kernel
theorem d_TuneSetterModel_emitGap_35 : decode b_TuneSetterModel_emitGap 35 = .ok (.iload_n 1, 1) := by decide +kernel
theorem d_TuneSetterModel_emitGap_36 : decode b_TuneSetterModel_emitGap 36 = .ok (.sipush 128, 3) := by decide +kernel
theorem d_TuneSetterModel_emitGap_39 : decode b_TuneSetterModel_emitGap 39 = .ok (.idiv, 1) := by decide +kernel
theorem d_TuneSetterModel_emitGap_40 : decode b_TuneSetterModel_emitGap 40 = .ok (.sipush 128, 3) := by decide +kernel
theorem d_TuneSetterModel_emitGap_43 : decode b_TuneSetterModel_emitGap 43 = .ok (.irem, 1) := by decide +kernel
theorem d_TuneSetterModel_emitGap_44 : decode b_TuneSetterModel_emitGap 44 = .ok (.iadd, 1) := by decide +kernel
theorem d_TuneSetterModel_emitGap_45 : decode b_TuneSetterModel_emitGap 45 = .ok (.invokevirtual 272, 3) := by decide +kernel
theorem d_TuneSetterModel_emitGap_48 : decode b_TuneSetterModel_emitGap 48 = .ok (.aload_n 0, 1) := by decide +kernel
theorem d_TuneSetterModel_emitGap_49 : decode b_TuneSetterModel_emitGap 49 = .ok (.iload_n 1, 1) := by decide +kernel
theorem d_TuneSetterModel_emitGap_50 : decode b_TuneSetterModel_emitGap 50 = .ok (.sipush 128, 3) := by decide +kernel
theorem d_TuneSetterModel_emitGap_53 : decode b_TuneSetterModel_emitGap 53 = .ok (.irem, 1) := by decide +kernel
theorem d_TuneSetterModel_emitGap_54 : decode b_TuneSetterModel_emitGap 54 = .ok (.invokevirtual 272, 3) := by decide +kernel
theorem d_TuneSetterModel_emitGap_57 : decode b_TuneSetterModel_emitGap 57 = .ok (.return_, 1) := by decide +kernel
def w_TuneSetterModel_emitGap : List Cond := .code y_TuneSetterModel_emitGap b_TuneSetterModel_emitGap 2 none :: WALL
theorem g_TuneSetterModel_emitGap : GoodIn WALL w_TuneSetterModel_emitGap := good_of mc_TuneSetterModel_emitGap
set_option maxHeartbeats 4000000 in
set_option maxRecDepth 100000 in
theorem c_TuneSetterModel_emitGap (l : Launch) (D : va_G) (cA a : Nat → Nat) (sz : Nat) (x1 : Int32) (I : Nat → Int32) (A : Nat → Nat → Int32) (post : (Nat → Int32) → (Nat → Nat → Int32) → Prop) (h : wp_TuneSetterModel_emitGap x1 I A post) : Met l y_TuneSetterModel_emitGap w_TuneSetterModel_emitGap ({ frames := 1, cells := 0, slots := 0, locals := 21 }) (va_Pc [.ref (a 0), .int x1] (PreR D cA a I A sz)) (va_Qv (fun (u : StW) => post u.1 u.2) (EndR D cA a) (AR a sz)) 0 0 (AR a sz) := by
  refine Met.ofW (cc := b_TuneSetterModel_emitGap) (maxL := 2) (ret := none) (by decide) rfl ?_
  intro p e s m args below meth c s₁ B hml hv
  obtain ⟨rfl, hsz, hP, hK, hD0⟩ := hv
  have hx := B.exec
  have hb := B.bytes
  have hr := B.returns
  have hts := atoms_spec (ws := w_TuneSetterModel_emitGap) B.pre
  have hw := wall_of hts
  have hown : s.vm.findClass R_TuneSetterModel = some m.cls := findClass_of_methodNamed B.named
  have hlocks := B.notSynchronized
  subst hsz
  have hD := hDR (sz := s.heap.size) hD0
  have hA : ∀ q : Nat, s.heap.size ≤ q → AR a s.heap.size q := fun q h => Or.inr h
  have hS : va_S (AR a s.heap.size) s.heap s.heap [] := va_S.rf
  have j24 : ∀ (y1 : Int32) (I : Nat → Int32) (A : Nat → Nat → Int32) (H : Heap) (locs : List Loc) (ls : Array Slot), wp_TuneSetterModel_emitGap_24 post y1 I A → va_P D cls (wR cA a I A) H → va_S (AR a s.heap.size) s.heap H locs → lv_has ls 2 [(0, .ref (a 0)), (1, .int y1)] → W p l e (headSpec w_TuneSetterModel_emitGap ({ frames := 1, cells := 0, slots := 0, locals := 21 })).room s m [.ref (a 0), .int x1].toArray below meth c H locs 0 0 (MQ below (va_Qv (fun (u : StW) => post u.1 u.2) (EndR D cA a) (AR a s.heap.size)) [.ref (a 0), .int x1].toArray s 0 0 (AR a s.heap.size)) (F0 m 24 ls []) := by
    intro y1 I A H locs ls h hP hS hl
    unfold wp_TuneSetterModel_emitGap_24 at h
    refine lv_iload_n hx hb d_TuneSetterModel_emitGap_24 rfl (lv_at hl 1 rfl) ?_
    refine lv_sipush (v := 128) hx hb d_TuneSetterModel_emitGap_25 sp_128 ?_
    refine lv_icmp_lt (tgt := 48) hx hb d_TuneSetterModel_emitGap_28 rfl (fun q => ?_) (fun q => ?_)
    · have h := h.1 q
      refine lv_aload_n hx hb d_TuneSetterModel_emitGap_48 rfl (lv_at hl 0 rfl) ?_
      refine lv_iload_n hx hb d_TuneSetterModel_emitGap_49 rfl (lv_at hl 1 rfl) ?_
      refine lv_sipush (v := 128) hx hb d_TuneSetterModel_emitGap_50 sp_128 ?_
      refine lv_irem hx hb d_TuneSetterModel_emitGap_53 (by decide) ?_
      refine k_TuneSetterModel_emit (y1 - y1 / 128 * 128) (rest := []) ⟨hx, hb, hml, hown, hw⟩ hK hD hA hS hP hl.1 (hw _ m_TuneSetterModel_272) (Nat.le_of_ble_eq_true rfl) ⟨Nat.le_of_ble_eq_true rfl, Nat.le_of_ble_eq_true rfl⟩ ⟨Nat.zero_le _, Nat.zero_le _⟩ d_TuneSetterModel_emitGap_54 h (fun I54 A54 H locs h hP hS => ?_)
      exact W.vret hx hb hr (fun t ht hW => ⟨⟨(I54, A54), rfl, h, endR_of ht hP⟩, hS.F ht⟩) hS.2.2 d_TuneSetterModel_emitGap_57
    · have h := h.2 q
      refine lv_aload_n hx hb d_TuneSetterModel_emitGap_31 rfl (lv_at hl 0 rfl) ?_
      refine lv_sipush (v := 128) hx hb d_TuneSetterModel_emitGap_32 sp_128 ?_
      refine lv_iload_n hx hb d_TuneSetterModel_emitGap_35 rfl (lv_at hl 1 rfl) ?_
      refine lv_sipush (v := 128) hx hb d_TuneSetterModel_emitGap_36 sp_128 ?_
      refine lv_idiv hx hb d_TuneSetterModel_emitGap_39 (by decide) ?_
      refine lv_sipush (v := 128) hx hb d_TuneSetterModel_emitGap_40 sp_128 ?_
      refine lv_irem hx hb d_TuneSetterModel_emitGap_43 (by decide) ?_
      refine lv_iadd hx hb d_TuneSetterModel_emitGap_44 ?_
      refine k_TuneSetterModel_emit ((128 : Int32) + ((y1 / 128) - (y1 / 128) / 128 * 128)) (rest := []) ⟨hx, hb, hml, hown, hw⟩ hK hD hA hS hP hl.1 (hw _ m_TuneSetterModel_272) (Nat.le_of_ble_eq_true rfl) ⟨Nat.le_of_ble_eq_true rfl, Nat.le_of_ble_eq_true rfl⟩ ⟨Nat.zero_le _, Nat.zero_le _⟩ d_TuneSetterModel_emitGap_45 h (fun I45 A45 H locs h hP hS => ?_)
      refine lv_aload_n hx hb d_TuneSetterModel_emitGap_48 rfl (lv_at hl 0 rfl) ?_
      refine lv_iload_n hx hb d_TuneSetterModel_emitGap_49 rfl (lv_at hl 1 rfl) ?_
      refine lv_sipush (v := 128) hx hb d_TuneSetterModel_emitGap_50 sp_128 ?_
      refine lv_irem hx hb d_TuneSetterModel_emitGap_53 (by decide) ?_
      refine k_TuneSetterModel_emit (y1 - y1 / 128 * 128) (rest := []) ⟨hx, hb, hml, hown, hw⟩ hK hD hA hS hP hl.1 (hw _ m_TuneSetterModel_272) (Nat.le_of_ble_eq_true rfl) ⟨Nat.le_of_ble_eq_true rfl, Nat.le_of_ble_eq_true rfl⟩ ⟨Nat.zero_le _, Nat.zero_le _⟩ d_TuneSetterModel_emitGap_54 h (fun I54 A54 H locs h hP hS => ?_)
      exact W.vret hx hb hr (fun t ht hW => ⟨⟨(I54, A54), rfl, h, endR_of ht hP⟩, hS.F ht⟩) hS.2.2 d_TuneSetterModel_emitGap_57
  have hl := lv_entry ([.ref (a 0), .int x1]) (n := 2) (Nat.le_of_ble_eq_true rfl)
  rw [lg_entry_eq]
  generalize (lg_sl ([.ref (a 0), .int x1]) ++ List.replicate (2 - (lg_sl ([.ref (a 0), .int x1])).length) Slot.unset).toArray = ls at hl ⊢
  have hl : lv_has ls 2 [(0, .ref (a 0)), (1, .int x1)] := hl
  unfold wp_TuneSetterModel_emitGap at h
  refine lv_iload_n hx hb d_TuneSetterModel_emitGap_0 rfl (lv_at hl 1 rfl) ?_
  refine lv_sipush (v := 16384) hx hb d_TuneSetterModel_emitGap_1 sp_16384 ?_
  refine lv_icmp_lt (tgt := 24) hx hb d_TuneSetterModel_emitGap_4 rfl (fun q => ?_) (fun q => ?_)
  · have h := h.1 q
    exact j24 x1 I A _ _ _ h hP hS (lv_sub hl [0, 1] rfl)
  · have h := h.2 q
    refine lv_aload_n hx hb d_TuneSetterModel_emitGap_7 rfl (lv_at hl 0 rfl) ?_
    refine lv_sipush (v := 128) hx hb d_TuneSetterModel_emitGap_8 sp_128 ?_
    refine lv_iload_n hx hb d_TuneSetterModel_emitGap_11 rfl (lv_at hl 1 rfl) ?_
    refine lv_sipush (v := 16384) hx hb d_TuneSetterModel_emitGap_12 sp_16384 ?_
    refine lv_idiv hx hb d_TuneSetterModel_emitGap_15 (by decide) ?_
    refine lv_sipush (v := 128) hx hb d_TuneSetterModel_emitGap_16 sp_128 ?_
    refine lv_irem hx hb d_TuneSetterModel_emitGap_19 (by decide) ?_
    refine lv_iadd hx hb d_TuneSetterModel_emitGap_20 ?_
    refine k_TuneSetterModel_emit ((128 : Int32) + ((x1 / 16384) - (x1 / 16384) / 128 * 128)) (rest := []) ⟨hx, hb, hml, hown, hw⟩ hK hD hA hS hP hl.1 (hw _ m_TuneSetterModel_272) (Nat.le_of_ble_eq_true rfl) ⟨Nat.le_of_ble_eq_true rfl, Nat.le_of_ble_eq_true rfl⟩ ⟨Nat.zero_le _, Nat.zero_le _⟩ d_TuneSetterModel_emitGap_21 h (fun I21 A21 H locs h hP hS => ?_)
    exact j24 x1 I21 A21 _ _ _ h hP hS (lv_sub hl [0, 1] rfl)
theorem k_TuneSetterModel_emitGap {p : Program} {l : Launch} {e : Env} {R : Room} {s : State} {m : MethodId} {args : Array Value} {below : List Frame} {meth : Method} {c : Code} {H : Heap} {locs : List Loc} {cells slots : Nat} {Q : State → Prop} {cc : ByteArray} {pc nL idx : Nat} {own : String} {ls : Array Slot} {D : va_G} {cA a : Nat → Nat} {AA : Nat → Prop} {I : Nat → Int32} {A : Nat → Nat → Int32} {post : (Nat → Int32) → (Nat → Nat → Int32) → Prop} (x1 : Int32) {rest : List Value} (S : CallFix p m c cc nL s args WALL own) (hK : KR D cA a AA s) (hD : ∀ I A, va_D AA (wR cA a I A)) (hA : ∀ q : Nat, s.heap.size ≤ q → AA q) (hS : va_S AA s.heap H locs) (hP : va_P D cls (wR cA a I A) H) (hl1 : ls.size = nL) (hlink : (Cond.methodLink own idx y_TuneSetterModel_emitGap).before args s = true) (hst : (rest.map fun v => v.category).sum ≤ 8) (hR : ({ frames := 1, cells := 0, slots := 0, locals := 21 } : Room).frames + 1 ≤ R.frames ∧ 8 + (2 + 11) + ({ frames := 1, cells := 0, slots := 0, locals := 21 } : Room).locals ≤ R.locals) (hcs : cells ≤ R.cells ∧ slots ≤ R.slots) (hdg : decode cc pc = .ok (.invokevirtual idx, 3)) (h : wp_TuneSetterModel_emitGap x1 I A post) (kk : ∀ (I1 : Nat → Int32) (A1 : Nat → Nat → Int32) (H1 : Heap) (locs1 : List Loc), post I1 A1 → va_P D cls (wR cA a I1 A1) H1 → va_S AA s.heap H1 locs1 → W p l e R s m args below meth c H1 locs1 cells slots Q (F0 m (pc + 3) ls rest)) : W p l e R s m args below meth c H locs cells slots Q (F0 m pc ls (.int x1 :: .ref (a 0) :: rest)) :=
  va_callv (va_runV (As := [.int x1]) (rest := rest) S (c_TuneSetterModel_emitGap l D cA a H.size x1 I A post h) ⟨callB_of 1 S.2.2.2.2 g_TuneSetterModel_emitGap rfl rfl rfl (S.2.2.2.2 _ mi_TuneSetterModel) hlink ⟨by decide, by decide, by decide +kernel⟩ hR, S.2.2.2.2 _ mn_TuneSetterModel_emitGap, S.2.2.2.2 _ ms_TuneSetterModel_emitGap⟩ (preRV hK hD hA hS hP 0 rfl rfl) rfl rfl hl1 rfl (lv_room hst) hdg hcs) hS (fun q _ z => AR_le hD hA hS q z) (fun q z => AR_le hD hA hS q z) (fun u t H1 locs1 ht _ hp hB _ _ hS1 => kk u.1 u.2 H1 locs1 hp (of_endR ht hB) hS1)

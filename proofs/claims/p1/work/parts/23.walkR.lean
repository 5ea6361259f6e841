def wp_TuneSetterModel_goOnLine_82 (post : Int32 → (Nat → Int32) → (Nat → Nat → Int32) → Prop) (y1 : Int32) (y2 : Int32) (y3 : Int32) (s0 : Int32) (s1 : Int32) (I : Nat → Int32) (A : Nat → Nat → Int32) : Prop := (vp_in s1 9 ∧ ((y3 = 0 → (wp_TuneSetterModel_behind y1 y2 (upd I 9 3) (upd2 A 5 (s1.toNatClampNeg) s0) (fun r99 I99 A99 => post r99 I99 A99))) ∧ (¬ y3 = 0 → post 0 (upd I 9 3) (upd2 A 5 (s1.toNatClampNeg) s0))))
def wp_TuneSetterModel_goOnLine_33 (post : Int32 → (Nat → Int32) → (Nat → Nat → Int32) → Prop) (y1 : Int32) (y2 : Int32) (y3 : Int32) (I : Nat → Int32) (A : Nat → Nat → Int32) : Prop := ((y3 = 0 → wp_TuneSetterModel_goOnLine_82 post y1 y2 y3 0 (I 5) I A) ∧ (¬ y3 = 0 → (((I 9) = 1 → ((y1 = 124 → wp_TuneSetterModel_goOnLine_82 post y1 y2 y3 1 (I 5) I A) ∧ (¬ y1 = 124 → wp_TuneSetterModel_goOnLine_82 post y1 y2 y3 2 (I 5) I A))) ∧ (¬ (I 9) = 1 → ((y1 = 124 → wp_TuneSetterModel_goOnLine_82 post y1 y2 y3 3 (I 5) I A) ∧ (¬ y1 = 124 → wp_TuneSetterModel_goOnLine_82 post y1 y2 y3 4 (I 5) I A))))))
def wp_TuneSetterModel_goOnLine (x1 : Int32) (x2 : Int32) (I : Nat → Int32) (A : Nat → Nat → Int32) (post : Int32 → (Nat → Int32) → (Nat → Nat → Int32) → Prop) : Prop := ((x1 = 124 → (((I 9) = 2 → (((1 : Int32) = 0 → post (-2) I A) ∧ (¬ (1 : Int32) = 0 → wp_TuneSetterModel_goOnLine_33 post x1 x2 1 I A))) ∧ (¬ (I 9) = 2 → wp_TuneSetterModel_goOnLine_33 post x1 x2 1 I A))) ∧ (¬ x1 = 124 → ((x1 = 58 → (((I 9) = 2 → (((1 : Int32) = 0 → post (-2) I A) ∧ (¬ (1 : Int32) = 0 → wp_TuneSetterModel_goOnLine_33 post x1 x2 1 I A))) ∧ (¬ (I 9) = 2 → wp_TuneSetterModel_goOnLine_33 post x1 x2 1 I A))) ∧ (¬ x1 = 58 → (((I 9) = 2 → (((0 : Int32) = 0 → post (-2) I A) ∧ (¬ (0 : Int32) = 0 → wp_TuneSetterModel_goOnLine_33 post x1 x2 0 I A))) ∧ (¬ (I 9) = 2 → wp_TuneSetterModel_goOnLine_33 post x1 x2 0 I A))))))
theorem d_TuneSetterModel_goOnLine_0 : decode b_TuneSetterModel_goOnLine 0 = .ok (.iload_n 1, 1) := by decide +kernel
theorem d_TuneSetterModel_goOnLine_1 : decode b_TuneSetterModel_goOnLine 1 = .ok (.bipush 124, 2) := by decide +kernel
theorem d_TuneSetterModel_goOnLine_3 : decode b_TuneSetterModel_goOnLine 3 = .ok (.if_icmp .eq 9, 3) := by decide +kernel
theorem d_TuneSetterModel_goOnLine_6 : decode b_TuneSetterModel_goOnLine 6 = .ok (.iload_n 1, 1) := by decide +kernel
theorem d_TuneSetterModel_goOnLine_7 : decode b_TuneSetterModel_goOnLine 7 = .ok (.bipush 58, 2) := by decide +kernel
theorem d_TuneSetterModel_goOnLine_9 : decode b_TuneSetterModel_goOnLine 9 = .ok (.if_icmp .ne 7, 3) := by decide +kernel
theorem d_TuneSetterModel_goOnLine_12 : decode b_TuneSetterModel_goOnLine 12 = .ok (.iconst 1, 1) := by decide +kernel
theorem d_TuneSetterModel_goOnLine_13 : decode b_TuneSetterModel_goOnLine 13 = .ok (.goto 4, 3) := by decide +kernel
theorem d_TuneSetterModel_goOnLine_16 : decode b_TuneSetterModel_goOnLine 16 = .ok (.iconst 0, 1) := by decide +kernel
theorem d_TuneSetterModel_goOnLine_17 : decode b_TuneSetterModel_goOnLine 17 = .ok (.istore_n 3, 1) := by decide +kernel
theorem d_TuneSetterModel_goOnLine_18 : decode b_TuneSetterModel_goOnLine 18 = .ok (.aload_n 0, 1) := by decide +kernel
theorem d_TuneSetterModel_goOnLine_19 : decode b_TuneSetterModel_goOnLine 19 = .ok (.getfield 100, 3) := by decide +kernel
theorem d_TuneSetterModel_goOnLine_22 : decode b_TuneSetterModel_goOnLine 22 = .ok (.iconst 2, 1) := by decide +kernel
theorem d_TuneSetterModel_goOnLine_23 : decode b_TuneSetterModel_goOnLine 23 = .ok (.if_icmp .ne 10, 3) := by decide +kernel
theorem d_TuneSetterModel_goOnLine_26 : decode b_TuneSetterModel_goOnLine 26 = .ok (.iload_n 3, 1) := by decide +kernel
theorem d_TuneSetterModel_goOnLine_27 : decode b_TuneSetterModel_goOnLine 27 = .ok (.ifCond .ne 6, 3) := by decide +kernel
theorem d_TuneSetterModel_goOnLine_30 : decode b_TuneSetterModel_goOnLine 30 = .ok (.bipush (-2), 2) := by decide +kernel
theorem d_TuneSetterModel_goOnLine_32 : decode b_TuneSetterModel_goOnLine 32 = .ok (.ireturn, 1) := by decide +kernel
theorem d_TuneSetterModel_goOnLine_33 : decode b_TuneSetterModel_goOnLine 33 = .ok (.aload_n 0, 1) := by decide +kernel
theorem d_TuneSetterModel_goOnLine_34 : decode b_TuneSetterModel_goOnLine 34 = .ok (.getfield 35, 3) := by decide +kernel
theorem d_TuneSetterModel_goOnLine_37 : decode b_TuneSetterModel_goOnLine 37 = .ok (.aload_n 0, 1) := by decide +kernel
theorem d_TuneSetterModel_goOnLine_38 : decode b_TuneSetterModel_goOnLine 38 = .ok (.getfield 87, 3) := by decide +kernel
theorem d_TuneSetterModel_goOnLine_41 : decode b_TuneSetterModel_goOnLine 41 = .ok (.iload_n 3, 1) := by decide +kernel
theorem d_TuneSetterModel_goOnLine_42 : decode b_TuneSetterModel_goOnLine 42 = .ok (.ifCond .ne 7, 3) := by decide +kernel
theorem d_TuneSetterModel_goOnLine_45 : decode b_TuneSetterModel_goOnLine 45 = .ok (.iconst 0, 1) := by decide +kernel
theorem d_TuneSetterModel_goOnLine_46 : decode b_TuneSetterModel_goOnLine 46 = .ok (.goto 36, 3) := by decide +kernel
theorem d_TuneSetterModel_goOnLine_49 : decode b_TuneSetterModel_goOnLine 49 = .ok (.aload_n 0, 1) := by decide +kernel
theorem d_TuneSetterModel_goOnLine_50 : decode b_TuneSetterModel_goOnLine 50 = .ok (.getfield 100, 3) := by decide +kernel
theorem d_TuneSetterModel_goOnLine_53 : decode b_TuneSetterModel_goOnLine 53 = .ok (.iconst 1, 1) := by decide +kernel
theorem d_TuneSetterModel_goOnLine_54 : decode b_TuneSetterModel_goOnLine 54 = .ok (.if_icmp .ne 17, 3) := by decide +kernel
theorem d_TuneSetterModel_goOnLine_57 : decode b_TuneSetterModel_goOnLine 57 = .ok (.iload_n 1, 1) := by decide +kernel
theorem d_TuneSetterModel_goOnLine_58 : decode b_TuneSetterModel_goOnLine 58 = .ok (.bipush 124, 2) := by decide +kernel
theorem d_TuneSetterModel_goOnLine_60 : decode b_TuneSetterModel_goOnLine 60 = .ok (.if_icmp .ne 7, 3) := by decide +kernel
theorem d_TuneSetterModel_goOnLine_63 : decode b_TuneSetterModel_goOnLine 63 = .ok (.iconst 1, 1) := by decide +kernel
theorem d_TuneSetterModel_goOnLine_64 : decode b_TuneSetterModel_goOnLine 64 = .ok (.goto 18, 3) := by decide +kernel
theorem d_TuneSetterModel_goOnLine_67 : decode b_TuneSetterModel_goOnLine 67 = .ok (.iconst 2, 1) := by decide +kernel
theorem d_TuneSetterModel_goOnLine_68 : decode b_TuneSetterModel_goOnLine 68 = .ok (.goto 14, 3) := by decide +kernel
theorem d_TuneSetterModel_goOnLine_71 : decode b_TuneSetterModel_goOnLine 71 = .ok (.iload_n 1, 1) := by decide +kernel
theorem d_TuneSetterModel_goOnLine_72 : decode b_TuneSetterModel_goOnLine 72 = .ok (.bipush 124, 2) := by decide +kernel
theorem d_TuneSetterModel_goOnLine_74 : decode b_TuneSetterModel_goOnLine 74 = .ok (.if_icmp .ne 7, 3) := by decide +kernel
theorem d_TuneSetterModel_goOnLine_77 : decode b_TuneSetterModel_goOnLine 77 = .ok (.iconst 3, 1) := by decide +kernel
theorem d_TuneSetterModel_goOnLine_78 : decode b_TuneSetterModel_goOnLine 78 = .ok (.goto 4, 3) := by decide +kernel
theorem d_TuneSetterModel_goOnLine_81 : decode b_TuneSetterModel_goOnLine 81 = .ok (.iconst 4, 1) := by decide +kernel
theorem d_TuneSetterModel_goOnLine_82 : decode b_TuneSetterModel_goOnLine 82 = .ok (.iastore, 1) := by decide +kernel
theorem d_TuneSetterModel_goOnLine_83 : decode b_TuneSetterModel_goOnLine 83 = .ok (.aload_n 0, 1) := by decide +kernel
theorem d_TuneSetterModel_goOnLine_84 : decode b_TuneSetterModel_goOnLine 84 = .ok (.iconst 3, 1) := by decide +kernel
theorem d_TuneSetterModel_goOnLine_85 : decode b_TuneSetterModel_goOnLine 85 = .ok (.putfield 100, 3) := by decide +kernel
theorem d_TuneSetterModel_goOnLine_88 : decode b_TuneSetterModel_goOnLine 88 = .ok (.iload_n 3, 1) := by decide +kernel
theorem d_TuneSetterModel_goOnLine_89 : decode b_TuneSetterModel_goOnLine 89 = .ok (.ifCond .eq 7, 3) := by decide +kernel
theorem d_TuneSetterModel_goOnLine_92 : decode b_TuneSetterModel_goOnLine 92 = .ok (.iconst 0, 1) := by decide +kernel
theorem d_TuneSetterModel_goOnLine_93 : decode b_TuneSetterModel_goOnLine 93 = .ok (.goto 9, 3) := by decide +kernel
theorem d_TuneSetterModel_goOnLine_96 : decode b_TuneSetterModel_goOnLine 96 = .ok (.aload_n 0, 1) := by decide +kernel
theorem d_TuneSetterModel_goOnLine_97 : decode b_TuneSetterModel_goOnLine 97 = .ok (.iload_n 1, 1) := by decide +kernel
theorem d_TuneSetterModel_goOnLine_98 : decode b_TuneSetterModel_goOnLine 98 = .ok (.iload_n 2, 1) := by decide +kernel
theorem d_TuneSetterModel_goOnLine_99 : decode b_TuneSetterModel_goOnLine 99 = .ok (.invokevirtual 187, 3) := by decide +kernel
theorem d_TuneSetterModel_goOnLine_102 : decode b_TuneSetterModel_goOnLine 102 = .ok (.ireturn, 1) := by decide +kernel
def w_TuneSetterModel_goOnLine : List Cond := .code y_TuneSetterModel_goOnLine b_TuneSetterModel_goOnLine 4 (some .int) :: WALL
theorem g_TuneSetterModel_goOnLine : GoodIn WALL w_TuneSetterModel_goOnLine := good_of mc_TuneSetterModel_goOnLine
set_option maxHeartbeats 4000000 in
set_option maxRecDepth 100000 in
theorem c_TuneSetterModel_goOnLine (l : Launch) (D : va_G) (cA a : Nat → Nat) (sz : Nat) (x1 : Int32) (x2 : Int32) (I : Nat → Int32) (A : Nat → Nat → Int32) (post : Int32 → (Nat → Int32) → (Nat → Nat → Int32) → Prop) (h : wp_TuneSetterModel_goOnLine x1 x2 I A post) : Met l y_TuneSetterModel_goOnLine w_TuneSetterModel_goOnLine ({ frames := 7, cells := 0, slots := 0, locals := 150 }) (va_Pc [.ref (a 0), .int x1, .int x2] (PreR D cA a I A sz)) (va_Qi (fun r (u : StW) => post r u.1 u.2) (EndR D cA a) (AR a sz)) 0 0 (AR a sz) := by
  refine Met.ofW (cc := b_TuneSetterModel_goOnLine) (maxL := 4) (ret := (some .int)) (by decide) rfl ?_
  intro p e s m args below meth c s₁ B hml hv
  obtain ⟨rfl, hsz, hP, hK, hD0⟩ := hv
  have hx := B.exec
  have hb := B.bytes
  have hr := B.returns
  have hts := atoms_spec (ws := w_TuneSetterModel_goOnLine) B.pre
  have hw := wall_of hts
  have hown : s.vm.findClass R_TuneSetterModel = some m.cls := findClass_of_methodNamed B.named
  have hlocks := B.notSynchronized
  subst hsz
  have hD := hDR (sz := s.heap.size) hD0
  have hA : ∀ q : Nat, s.heap.size ≤ q → AR a s.heap.size q := fun q h => Or.inr h
  have hS : va_S (AR a s.heap.size) s.heap s.heap [] := va_S.rf
  have j82 : ∀ (y1 : Int32) (y2 : Int32) (y3 : Int32) (s0 : Int32) (s1 : Int32) (I : Nat → Int32) (A : Nat → Nat → Int32) (H : Heap) (locs : List Loc) (ls : Array Slot), wp_TuneSetterModel_goOnLine_82 post y1 y2 y3 s0 s1 I A → va_P D cls (wR cA a I A) H → va_S (AR a s.heap.size) s.heap H locs → lv_has ls 4 [(0, .ref (a 0)), (1, .int y1), (2, .int y2), (3, .int y3)] → W p l e (headSpec w_TuneSetterModel_goOnLine ({ frames := 7, cells := 0, slots := 0, locals := 150 })).room s m [.ref (a 0), .int x1, .int x2].toArray below meth c H locs 0 0 (MQ below (va_Qi (fun r (u : StW) => post r u.1 u.2) (EndR D cA a) (AR a s.heap.size)) [.ref (a 0), .int x1, .int x2].toArray s 0 0 (AR a s.heap.size)) (F0 m 82 ls [.int s0, .int s1, .ref (a 5)]) := by
    intro y1 y2 y3 s0 s1 I A H locs ls h hP hS hl
    unfold wp_TuneSetterModel_goOnLine_82 at h
    obtain ⟨hin, h⟩ := h
    refine sR5 hx hb hK hD hS hP hin d_TuneSetterModel_goOnLine_82 (fun H locs hP hS => ?_)
    refine lv_aload_n hx hb d_TuneSetterModel_goOnLine_83 rfl (lv_at hl 0 rfl) ?_
    refine lv_iconst (v := 3) hx hb d_TuneSetterModel_goOnLine_84 ic_3 ?_
    refine pR_TuneSetterModel_state hx hb hw hown hK hD hS hP (hw _ m_TuneSetterModel_100) d_TuneSetterModel_goOnLine_85 (fun H locs hP hS => ?_)
    refine lv_iload_n hx hb d_TuneSetterModel_goOnLine_88 rfl (lv_at hl 3 rfl) ?_
    refine lv_if_eq (tgt := 96) hx hb d_TuneSetterModel_goOnLine_89 rfl (fun q => ?_) (fun q => ?_)
    · have h := h.1 q
      refine lv_aload_n hx hb d_TuneSetterModel_goOnLine_96 rfl (lv_at hl 0 rfl) ?_
      refine lv_iload_n hx hb d_TuneSetterModel_goOnLine_97 rfl (lv_at hl 1 rfl) ?_
      refine lv_iload_n hx hb d_TuneSetterModel_goOnLine_98 rfl (lv_at hl 2 rfl) ?_
      refine k_TuneSetterModel_behind y1 y2 (rest := []) ⟨hx, hb, hml, hown, hw⟩ hK hD hA hS hP hl.1 (hw _ m_TuneSetterModel_187) (Nat.le_of_ble_eq_true rfl) ⟨Nat.le_of_ble_eq_true rfl, Nat.le_of_ble_eq_true rfl⟩ ⟨Nat.zero_le _, Nat.zero_le _⟩ d_TuneSetterModel_goOnLine_99 h (fun r99 I99 A99 H locs h hP hS => ?_)
      exact W.iret hx hb hr (fun t ht hW => ⟨⟨_, (I99, A99), rfl, h, endR_of ht hP⟩, hS.F ht⟩) hS.2.2 d_TuneSetterModel_goOnLine_102
    · have h := h.2 q
      refine lv_iconst (v := 0) hx hb d_TuneSetterModel_goOnLine_92 ic_0 ?_
      refine lv_goto (tgt := 102) hx hb d_TuneSetterModel_goOnLine_93 rfl ?_
      exact W.iret hx hb hr (fun t ht hW => ⟨⟨_, ((upd I 9 3), (upd2 A 5 (s1.toNatClampNeg) s0)), rfl, h, endR_of ht hP⟩, hS.F ht⟩) hS.2.2 d_TuneSetterModel_goOnLine_102
  have j33 : ∀ (y1 : Int32) (y2 : Int32) (y3 : Int32) (I : Nat → Int32) (A : Nat → Nat → Int32) (H : Heap) (locs : List Loc) (ls : Array Slot), wp_TuneSetterModel_goOnLine_33 post y1 y2 y3 I A → va_P D cls (wR cA a I A) H → va_S (AR a s.heap.size) s.heap H locs → lv_has ls 4 [(0, .ref (a 0)), (1, .int y1), (2, .int y2), (3, .int y3)] → W p l e (headSpec w_TuneSetterModel_goOnLine ({ frames := 7, cells := 0, slots := 0, locals := 150 })).room s m [.ref (a 0), .int x1, .int x2].toArray below meth c H locs 0 0 (MQ below (va_Qi (fun r (u : StW) => post r u.1 u.2) (EndR D cA a) (AR a s.heap.size)) [.ref (a 0), .int x1, .int x2].toArray s 0 0 (AR a s.heap.size)) (F0 m 33 ls []) := by
    intro y1 y2 y3 I A H locs ls h hP hS hl
    unfold wp_TuneSetterModel_goOnLine_33 at h
    refine lv_aload_n hx hb d_TuneSetterModel_goOnLine_33 rfl (lv_at hl 0 rfl) ?_
    refine gR_TuneSetterModel_line hx hb hw hown hK hP (hw _ m_TuneSetterModel_35) d_TuneSetterModel_goOnLine_34 ?_
    refine lv_aload_n hx hb d_TuneSetterModel_goOnLine_37 rfl (lv_at hl 0 rfl) ?_
    refine gR_TuneSetterModel_bars hx hb hw hown hK hP (hw _ m_TuneSetterModel_87) d_TuneSetterModel_goOnLine_38 ?_
    refine lv_iload_n hx hb d_TuneSetterModel_goOnLine_41 rfl (lv_at hl 3 rfl) ?_
    refine lv_if_ne (tgt := 49) hx hb d_TuneSetterModel_goOnLine_42 rfl (fun q => ?_) (fun q => ?_)
    · have h := h.2 q
      refine lv_aload_n hx hb d_TuneSetterModel_goOnLine_49 rfl (lv_at hl 0 rfl) ?_
      refine gR_TuneSetterModel_state hx hb hw hown hK hP (hw _ m_TuneSetterModel_100) d_TuneSetterModel_goOnLine_50 ?_
      refine lv_iconst (v := 1) hx hb d_TuneSetterModel_goOnLine_53 ic_1 ?_
      refine lv_icmp_ne (tgt := 71) hx hb d_TuneSetterModel_goOnLine_54 rfl (fun q => ?_) (fun q => ?_)
      · have h := h.2 q
        refine lv_iload_n hx hb d_TuneSetterModel_goOnLine_71 rfl (lv_at hl 1 rfl) ?_
        refine lv_bipush (v := 124) hx hb d_TuneSetterModel_goOnLine_72 bp_124 ?_
        refine lv_icmp_ne (tgt := 81) hx hb d_TuneSetterModel_goOnLine_74 rfl (fun q => ?_) (fun q => ?_)
        · have h := h.2 q
          refine lv_iconst (v := 4) hx hb d_TuneSetterModel_goOnLine_81 ic_4 ?_
          exact j82 y1 y2 y3 4 (I 5) I A _ _ _ h hP hS (lv_sub hl [0, 1, 2, 3] rfl)
        · have h := h.1 q
          refine lv_iconst (v := 3) hx hb d_TuneSetterModel_goOnLine_77 ic_3 ?_
          refine lv_goto (tgt := 82) hx hb d_TuneSetterModel_goOnLine_78 rfl ?_
          exact j82 y1 y2 y3 3 (I 5) I A _ _ _ h hP hS (lv_sub hl [0, 1, 2, 3] rfl)
      · have h := h.1 q
        refine lv_iload_n hx hb d_TuneSetterModel_goOnLine_57 rfl (lv_at hl 1 rfl) ?_
        refine lv_bipush (v := 124) hx hb d_TuneSetterModel_goOnLine_58 bp_124 ?_
        refine lv_icmp_ne (tgt := 67) hx hb d_TuneSetterModel_goOnLine_60 rfl (fun q => ?_) (fun q => ?_)
        · have h := h.2 q
          refine lv_iconst (v := 2) hx hb d_TuneSetterModel_goOnLine_67 ic_2 ?_
          refine lv_goto (tgt := 82) hx hb d_TuneSetterModel_goOnLine_68 rfl ?_
          exact j82 y1 y2 y3 2 (I 5) I A _ _ _ h hP hS (lv_sub hl [0, 1, 2, 3] rfl)
        · have h := h.1 q
          refine lv_iconst (v := 1) hx hb d_TuneSetterModel_goOnLine_63 ic_1 ?_
          refine lv_goto (tgt := 82) hx hb d_TuneSetterModel_goOnLine_64 rfl ?_
          exact j82 y1 y2 y3 1 (I 5) I A _ _ _ h hP hS (lv_sub hl [0, 1, 2, 3] rfl)
    · have h := h.1 q
      refine lv_iconst (v := 0) hx hb d_TuneSetterModel_goOnLine_45 ic_0 ?_
      refine lv_goto (tgt := 82) hx hb d_TuneSetterModel_goOnLine_46 rfl ?_
      exact j82 y1 y2 y3 0 (I 5) I A _ _ _ h hP hS (lv_sub hl [0, 1, 2, 3] rfl)
  have hl := lv_entry ([.ref (a 0), .int x1, .int x2]) (n := 4) (Nat.le_of_ble_eq_true rfl)
  rw [lg_entry_eq]
  generalize (lg_sl ([.ref (a 0), .int x1, .int x2]) ++ List.replicate (4 - (lg_sl ([.ref (a 0), .int x1, .int x2])).length) Slot.unset).toArray = ls at hl ⊢
  have hl : lv_has ls 4 [(0, .ref (a 0)), (1, .int x1), (2, .int x2)] := hl
  unfold wp_TuneSetterModel_goOnLine at h
  refine lv_iload_n hx hb d_TuneSetterModel_goOnLine_0 rfl (lv_at hl 1 rfl) ?_
  refine lv_bipush (v := 124) hx hb d_TuneSetterModel_goOnLine_1 bp_124 ?_
  refine lv_icmp_eq (tgt := 12) hx hb d_TuneSetterModel_goOnLine_3 rfl (fun q => ?_) (fun q => ?_)
  · have h := h.1 q
    refine lv_iconst (v := 1) hx hb d_TuneSetterModel_goOnLine_12 ic_1 ?_
    refine lv_goto (tgt := 17) hx hb d_TuneSetterModel_goOnLine_13 rfl ?_
    refine lv_istore_n (lv' := [(3, .int 1), (0, .ref (a 0)), (1, .int x1), (2, .int x2)]) hx hb d_TuneSetterModel_goOnLine_17 rfl hl (by decide) rfl (fun ls hl => ?_)
    refine lv_aload_n hx hb d_TuneSetterModel_goOnLine_18 rfl (lv_at hl 1 rfl) ?_
    refine gR_TuneSetterModel_state hx hb hw hown hK hP (hw _ m_TuneSetterModel_100) d_TuneSetterModel_goOnLine_19 ?_
    refine lv_iconst (v := 2) hx hb d_TuneSetterModel_goOnLine_22 ic_2 ?_
    refine lv_icmp_ne (tgt := 33) hx hb d_TuneSetterModel_goOnLine_23 rfl (fun q => ?_) (fun q => ?_)
    · have h := h.2 q
      exact j33 x1 x2 1 I A _ _ _ h hP hS (lv_sub hl [1, 2, 3, 0] rfl)
    · have h := h.1 q
      refine lv_iload_n hx hb d_TuneSetterModel_goOnLine_26 rfl (lv_at hl 0 rfl) ?_
      refine lv_if_ne (tgt := 33) hx hb d_TuneSetterModel_goOnLine_27 rfl (fun q => ?_) (fun q => ?_)
      · have h := h.2 q
        exact j33 x1 x2 1 I A _ _ _ h hP hS (lv_sub hl [1, 2, 3, 0] rfl)
      · have h := h.1 q
        refine lv_bipush (v := (-2)) hx hb d_TuneSetterModel_goOnLine_30 bp_m2 ?_
        exact W.iret hx hb hr (fun t ht hW => ⟨⟨_, (I, A), rfl, h, endR_of ht hP⟩, hS.F ht⟩) hS.2.2 d_TuneSetterModel_goOnLine_32
  · have h := h.2 q
    refine lv_iload_n hx hb d_TuneSetterModel_goOnLine_6 rfl (lv_at hl 1 rfl) ?_
    refine lv_bipush (v := 58) hx hb d_TuneSetterModel_goOnLine_7 bp_58 ?_
    refine lv_icmp_ne (tgt := 16) hx hb d_TuneSetterModel_goOnLine_9 rfl (fun q => ?_) (fun q => ?_)
    · have h := h.2 q
      refine lv_iconst (v := 0) hx hb d_TuneSetterModel_goOnLine_16 ic_0 ?_
      refine lv_istore_n (lv' := [(3, .int 0), (0, .ref (a 0)), (1, .int x1), (2, .int x2)]) hx hb d_TuneSetterModel_goOnLine_17 rfl hl (by decide) rfl (fun ls hl => ?_)
      refine lv_aload_n hx hb d_TuneSetterModel_goOnLine_18 rfl (lv_at hl 1 rfl) ?_
      refine gR_TuneSetterModel_state hx hb hw hown hK hP (hw _ m_TuneSetterModel_100) d_TuneSetterModel_goOnLine_19 ?_
      refine lv_iconst (v := 2) hx hb d_TuneSetterModel_goOnLine_22 ic_2 ?_
      refine lv_icmp_ne (tgt := 33) hx hb d_TuneSetterModel_goOnLine_23 rfl (fun q => ?_) (fun q => ?_)
      · have h := h.2 q
        exact j33 x1 x2 0 I A _ _ _ h hP hS (lv_sub hl [1, 2, 3, 0] rfl)
      · have h := h.1 q
        refine lv_iload_n hx hb d_TuneSetterModel_goOnLine_26 rfl (lv_at hl 0 rfl) ?_
        refine lv_if_ne (tgt := 33) hx hb d_TuneSetterModel_goOnLine_27 rfl (fun q => ?_) (fun q => ?_)
        · have h := h.2 q
          exact j33 x1 x2 0 I A _ _ _ h hP hS (lv_sub hl [1, 2, 3, 0] rfl)
        · have h := h.1 q
          refine lv_bipush (v := (-2)) hx hb d_TuneSetterModel_goOnLine_30 bp_m2 ?_
          exact W.iret hx hb hr (fun t ht hW => ⟨⟨_, (I, A), rfl, h, endR_of ht hP⟩, hS.F ht⟩) hS.2.2 d_TuneSetterModel_goOnLine_32
    · have h := h.1 q
      refine lv_iconst (v := 1) hx hb d_TuneSetterModel_goOnLine_12 ic_1 ?_
      refine lv_goto (tgt := 17) hx hb d_TuneSetterModel_goOnLine_13 rfl ?_
      refine lv_istore_n (lv' := [(3, .int 1), (0, .ref (a 0)), (1, .int x1), (2, .int x2)]) hx hb d_TuneSetterModel_goOnLine_17 rfl hl (by decide) rfl (fun ls hl => ?_)
      refine lv_aload_n hx hb d_TuneSetterModel_goOnLine_18 rfl (lv_at hl 1 rfl) ?_
      refine gR_TuneSetterModel_state hx hb hw hown hK hP (hw _ m_TuneSetterModel_100) d_TuneSetterModel_goOnLine_19 ?_
      refine lv_iconst (v := 2) hx hb d_TuneSetterModel_goOnLine_22 ic_2 ?_
      refine lv_icmp_ne (tgt := 33) hx hb d_TuneSetterModel_goOnLine_23 rfl (fun q => ?_) (fun q => ?_)
      · have h := h.2 q
        exact j33 x1 x2 1 I A _ _ _ h hP hS (lv_sub hl [1, 2, 3, 0] rfl)
      · have h := h.1 q
        refine lv_iload_n hx hb d_TuneSetterModel_goOnLine_26 rfl (lv_at hl 0 rfl) ?_
        refine lv_if_ne (tgt := 33) hx hb d_TuneSetterModel_goOnLine_27 rfl (fun q => ?_) (fun q => ?_)
        · have h := h.2 q
          exact j33 x1 x2 1 I A _ _ _ h hP hS (lv_sub hl [1, 2, 3, 0] rfl)
        · have h := h.1 q
          refine lv_bipush (v := (-2)) hx hb d_TuneSetterModel_goOnLine_30 bp_m2 ?_
          exact W.iret hx hb hr (fun t ht hW => ⟨⟨_, (I, A), rfl, h, endR_of ht hP⟩, hS.F ht⟩) hS.2.2 d_TuneSetterModel_goOnLine_32
theorem k_TuneSetterModel_goOnLine {p : Program} {l : Launch} {e : Env} {R : Room} {s : State} {m : MethodId} {args : Array Value} {below : List Frame} {meth : Method} {c : Code} {H : Heap} {locs : List Loc} {cells slots : Nat} {Q : State → Prop} {cc : ByteArray} {pc nL idx : Nat} {own : String} {ls : Array Slot} {D : va_G} {cA a : Nat → Nat} {AA : Nat → Prop} {I : Nat → Int32} {A : Nat → Nat → Int32} {post : Int32 → (Nat → Int32) → (Nat → Nat → Int32) → Prop} (x1 : Int32) (x2 : Int32) {rest : List Value} (S : CallFix p m c cc nL s args WALL own) (hK : KR D cA a AA s) (hD : ∀ I A, va_D AA (wR cA a I A)) (hA : ∀ q : Nat, s.heap.size ≤ q → AA q) (hS : va_S AA s.heap H locs) (hP : va_P D cls (wR cA a I A) H) (hl1 : ls.size = nL) (hlink : (Cond.methodLink own idx y_TuneSetterModel_goOnLine).before args s = true) (hst : (rest.map fun v => v.category).sum ≤ 8) (hR : ({ frames := 7, cells := 0, slots := 0, locals := 150 } : Room).frames + 1 ≤ R.frames ∧ 8 + (4 + 11) + ({ frames := 7, cells := 0, slots := 0, locals := 150 } : Room).locals ≤ R.locals) (hcs : cells ≤ R.cells ∧ slots ≤ R.slots) (hdg : decode cc pc = .ok (.invokevirtual idx, 3)) (h : wp_TuneSetterModel_goOnLine x1 x2 I A post) (kk : ∀ (r : Int32) (I1 : Nat → Int32) (A1 : Nat → Nat → Int32) (H1 : Heap) (locs1 : List Loc), post r I1 A1 → va_P D cls (wR cA a I1 A1) H1 → va_S AA s.heap H1 locs1 → W p l e R s m args below meth c H1 locs1 cells slots Q (F0 m (pc + 3) ls (.int r :: rest))) : W p l e R s m args below meth c H locs cells slots Q (F0 m pc ls (.int x2 :: .int x1 :: .ref (a 0) :: rest)) :=
  va_calli (va_runV (As := [.int x1, .int x2]) (rest := rest) S (c_TuneSetterModel_goOnLine l D cA a H.size x1 x2 I A post h) ⟨callB_of 2 S.2.2.2.2 g_TuneSetterModel_goOnLine rfl rfl rfl (S.2.2.2.2 _ mi_TuneSetterModel) hlink ⟨by decide, by decide, by decide +kernel⟩ hR, S.2.2.2.2 _ mn_TuneSetterModel_goOnLine, S.2.2.2.2 _ ms_TuneSetterModel_goOnLine⟩ (preRV hK hD hA hS hP 0 rfl rfl) rfl rfl hl1 rfl (lv_room hst) hdg hcs) hS (fun q _ z => AR_le hD hA hS q z) (fun q z => AR_le hD hA hS q z) (fun r u t H1 locs1 ht _ hp hB _ _ hS1 => kk r u.1 u.2 H1 locs1 hp (of_endR ht hB) hS1)
def wp_TuneSetterModel_inChord_28 (post : Int32 → (Nat → Int32) → (Nat → Nat → Int32) → Prop) (y1 : Int32) (y2 : Int32) (I : Nat → Int32) (A : Nat → Nat → Int32) : Prop := (wp_TuneSetterModel_beginsNote y1 I A (fun r29 I29 A29 => ((r29 = 0 → post (-2) I29 A29) ∧ (¬ r29 = 0 → ((y2 = 4 → post (-6) I29 A29) ∧ (¬ y2 = 4 → (wp_TuneSetterModel_beginNote y1 I29 A29 (fun r50 I50 A50 => post r50 I50 A50))))))))
def wp_TuneSetterModel_inChord (x1 : Int32) (I : Nat → Int32) (A : Nat → Nat → Int32) (post : Int32 → (Nat → Int32) → (Nat → Nat → Int32) → Prop) : Prop := (vp_in ((I 8) - 1) 48 ∧ (∀ v11 : Int32, v11 = (A 9 (((I 8) - 1).toNatClampNeg)) → ((x1 = 93 → ((v11 ≤ 0 → wp_TuneSetterModel_inChord_28 post x1 v11 I A) ∧ (¬ v11 ≤ 0 → (wp_TuneSetterModel_openNumber I A (fun I23 A23 => post 0 I23 A23))))) ∧ (¬ x1 = 93 → wp_TuneSetterModel_inChord_28 post x1 v11 I A))))
theorem d_TuneSetterModel_inChord_0 : decode b_TuneSetterModel_inChord 0 = .ok (.aload_n 0, 1) := by decide +kernel
theorem d_TuneSetterModel_inChord_1 : decode b_TuneSetterModel_inChord 1 = .ok (.getfield 48, 3) := by decide +kernel
theorem d_TuneSetterModel_inChord_4 : decode b_TuneSetterModel_inChord 4 = .ok (.aload_n 0, 1) := by decide +kernel
theorem d_TuneSetterModel_inChord_5 : decode b_TuneSetterModel_inChord 5 = .ok (.getfield 90, 3) := by decide +kernel
theorem d_TuneSetterModel_inChord_8 : decode b_TuneSetterModel_inChord 8 = .ok (.iconst 1, 1) := by decide +kernel
theorem d_TuneSetterModel_inChord_9 : decode b_TuneSetterModel_inChord 9 = .ok (.isub, 1) := by decide +kernel
theorem d_TuneSetterModel_inChord_10 : decode b_TuneSetterModel_inChord 10 = .ok (.iaload, 1) := by decide +kernel
theorem d_TuneSetterModel_inChord_11 : decode b_TuneSetterModel_inChord 11 = .ok (.istore_n 2, 1) := by decide +kernel
theorem d_TuneSetterModel_inChord_12 : decode b_TuneSetterModel_inChord 12 = .ok (.iload_n 1, 1) := by decide +kernel
theorem d_TuneSetterModel_inChord_13 : decode b_TuneSetterModel_inChord 13 = .ok (.bipush 93, 2) := by decide +kernel
theorem d_TuneSetterModel_inChord_15 : decode b_TuneSetterModel_inChord 15 = .ok (.if_icmp .ne 13, 3) := by decide +kernel
theorem d_TuneSetterModel_inChord_18 : decode b_TuneSetterModel_inChord 18 = .ok (.iload_n 2, 1) := by decide +kernel
theorem d_TuneSetterModel_inChord_19 : decode b_TuneSetterModel_inChord 19 = .ok (.ifCond .le 9, 3) := by decide +kernel
theorem d_TuneSetterModel_inChord_22 : decode b_TuneSetterModel_inChord 22 = .ok (.aload_n 0, 1) := by decide +kernel
theorem d_TuneSetterModel_inChord_23 : decode b_TuneSetterModel_inChord 23 = .ok (.invokevirtual 143, 3) := by decide +kernel
theorem d_TuneSetterModel_inChord_26 : decode b_TuneSetterModel_inChord 26 = .ok (.iconst 0, 1) := by decide +kernel
theorem d_TuneSetterModel_inChord_27 : decode b_TuneSetterModel_inChord 27 = .ok (.ireturn, 1) := by decide +kernel
theorem d_TuneSetterModel_inChord_28 : decode b_TuneSetterModel_inChord 28 = .ok (.iload_n 1, 1) := by decide +kernel
theorem d_TuneSetterModel_inChord_29 : decode b_TuneSetterModel_inChord 29 = .ok (.invokestatic 118, 3) := by decide +kernel
theorem d_TuneSetterModel_inChord_32 : decode b_TuneSetterModel_inChord 32 = .ok (.ifCond .ne 6, 3) := by decide +kernel
theorem d_TuneSetterModel_inChord_35 : decode b_TuneSetterModel_inChord 35 = .ok (.bipush (-2), 2) := by decide +kernel
theorem d_TuneSetterModel_inChord_37 : decode b_TuneSetterModel_inChord 37 = .ok (.ireturn, 1) := by decide +kernel
theorem d_TuneSetterModel_inChord_38 : decode b_TuneSetterModel_inChord 38 = .ok (.iload_n 2, 1) := by decide +kernel
theorem d_TuneSetterModel_inChord_39 : decode b_TuneSetterModel_inChord 39 = .ok (.iconst 4, 1) := by decide +kernel
theorem d_TuneSetterModel_inChord_40 : decode b_TuneSetterModel_inChord 40 = .ok (.if_icmp .ne 8, 3) := by decide +kernel
theorem d_TuneSetterModel_inChord_43 : decode b_TuneSetterModel_inChord 43 = .ok (.bipush (-6), 2) := by decide +kernel
theorem d_TuneSetterModel_inChord_45 : decode b_TuneSetterModel_inChord 45 = .ok (.goto 8, 3) := by decide +kernel
theorem d_TuneSetterModel_inChord_48 : decode b_TuneSetterModel_inChord 48 = .ok (.aload_n 0, 1) := by decide +kernel
theorem d_TuneSetterModel_inChord_49 : decode b_TuneSetterModel_inChord 49 = .ok (.iload_n 1, 1) := by decide +kernel
theorem d_TuneSetterModel_inChord_50 : decode b_TuneSetterModel_inChord 50 = .ok (.invokevirtual 220, 3) := by decide +kernel
theorem d_TuneSetterModel_inChord_53 : decode b_TuneSetterModel_inChord 53 = .ok (.ireturn, 1) := by decide +kernel
def w_TuneSetterModel_inChord : List Cond := .code y_TuneSetterModel_inChord b_TuneSetterModel_inChord 3 (some .int) :: WALL
theorem g_TuneSetterModel_inChord : GoodIn WALL w_TuneSetterModel_inChord := good_of mc_TuneSetterModel_inChord
set_option maxHeartbeats 4000000 in
set_option maxRecDepth 100000 in
theorem c_TuneSetterModel_inChord (l : Launch) (D : va_G) (cA a : Nat → Nat) (sz : Nat) (x1 : Int32) (I : Nat → Int32) (A : Nat → Nat → Int32) (post : Int32 → (Nat → Int32) → (Nat → Nat → Int32) → Prop) (h : wp_TuneSetterModel_inChord x1 I A post) : Met l y_TuneSetterModel_inChord w_TuneSetterModel_inChord ({ frames := 3, cells := 0, slots := 0, locals := 62 }) (va_Pc [.ref (a 0), .int x1] (PreR D cA a I A sz)) (va_Qi (fun r (u : StW) => post r u.1 u.2) (EndR D cA a) (AR a sz)) 0 0 (AR a sz) := by
  refine Met.ofW (cc := b_TuneSetterModel_inChord) (maxL := 3) (ret := (some .int)) (by decide) rfl ?_
  intro p e s m args below meth c s₁ B hml hv
  obtain ⟨rfl, hsz, hP, hK, hD0⟩ := hv
  have hx := B.exec
  have hb := B.bytes
  have hr := B.returns
  have hts := atoms_spec (ws := w_TuneSetterModel_inChord) B.pre
  have hw := wall_of hts
  have hown : s.vm.findClass R_TuneSetterModel = some m.cls := findClass_of_methodNamed B.named
  have hlocks := B.notSynchronized
  subst hsz
  have hD := hDR (sz := s.heap.size) hD0
  have hA : ∀ q : Nat, s.heap.size ≤ q → AR a s.heap.size q := fun q h => Or.inr h
  have hS : va_S (AR a s.heap.size) s.heap s.heap [] := va_S.rf
  have j28 : ∀ (y1 : Int32) (y2 : Int32) (I : Nat → Int32) (A : Nat → Nat → Int32) (H : Heap) (locs : List Loc) (ls : Array Slot), wp_TuneSetterModel_inChord_28 post y1 y2 I A → va_P D cls (wR cA a I A) H → va_S (AR a s.heap.size) s.heap H locs → lv_has ls 3 [(0, .ref (a 0)), (1, .int y1), (2, .int y2)] → W p l e (headSpec w_TuneSetterModel_inChord ({ frames := 3, cells := 0, slots := 0, locals := 62 })).room s m [.ref (a 0), .int x1].toArray below meth c H locs 0 0 (MQ below (va_Qi (fun r (u : StW) => post r u.1 u.2) (EndR D cA a) (AR a s.heap.size)) [.ref (a 0), .int x1].toArray s 0 0 (AR a s.heap.size)) (F0 m 28 ls []) := by
    intro y1 y2 I A H locs ls h hP hS hl
    unfold wp_TuneSetterModel_inChord_28 at h
    refine lv_iload_n hx hb d_TuneSetterModel_inChord_28 rfl (lv_at hl 1 rfl) ?_
    refine k_TuneSetterModel_beginsNote y1 (rest := []) ⟨hx, hb, hml, hown, hw⟩ hK hD hA hS hP hl.1 (hw _ m_TuneSetterModel_118) (Nat.le_of_ble_eq_true rfl) ⟨Nat.le_of_ble_eq_true rfl, Nat.le_of_ble_eq_true rfl⟩ ⟨Nat.zero_le _, Nat.zero_le _⟩ d_TuneSetterModel_inChord_29 h (fun r29 I29 A29 H locs h hP hS => ?_)
    refine lv_if_ne (tgt := 38) hx hb d_TuneSetterModel_inChord_32 rfl (fun q => ?_) (fun q => ?_)
    · have h := h.2 q
      refine lv_iload_n hx hb d_TuneSetterModel_inChord_38 rfl (lv_at hl 2 rfl) ?_
      refine lv_iconst (v := 4) hx hb d_TuneSetterModel_inChord_39 ic_4 ?_
      refine lv_icmp_ne (tgt := 48) hx hb d_TuneSetterModel_inChord_40 rfl (fun q => ?_) (fun q => ?_)
      · have h := h.2 q
        refine lv_aload_n hx hb d_TuneSetterModel_inChord_48 rfl (lv_at hl 0 rfl) ?_
        refine lv_iload_n hx hb d_TuneSetterModel_inChord_49 rfl (lv_at hl 1 rfl) ?_
        refine k_TuneSetterModel_beginNote y1 (rest := []) ⟨hx, hb, hml, hown, hw⟩ hK hD hA hS hP hl.1 (hw _ m_TuneSetterModel_220) (Nat.le_of_ble_eq_true rfl) ⟨Nat.le_of_ble_eq_true rfl, Nat.le_of_ble_eq_true rfl⟩ ⟨Nat.zero_le _, Nat.zero_le _⟩ d_TuneSetterModel_inChord_50 h (fun r50 I50 A50 H locs h hP hS => ?_)
        exact W.iret hx hb hr (fun t ht hW => ⟨⟨_, (I50, A50), rfl, h, endR_of ht hP⟩, hS.F ht⟩) hS.2.2 d_TuneSetterModel_inChord_53
      · have h := h.1 q
        refine lv_bipush (v := (-6)) hx hb d_TuneSetterModel_inChord_43 bp_m6 ?_
        refine lv_goto (tgt := 53) hx hb d_TuneSetterModel_inChord_45 rfl ?_
        exact W.iret hx hb hr (fun t ht hW => ⟨⟨_, (I29, A29), rfl, h, endR_of ht hP⟩, hS.F ht⟩) hS.2.2 d_TuneSetterModel_inChord_53
    · have h := h.1 q
      refine lv_bipush (v := (-2)) hx hb d_TuneSetterModel_inChord_35 bp_m2 ?_
      exact W.iret hx hb hr (fun t ht hW => ⟨⟨_, (I29, A29), rfl, h, endR_of ht hP⟩, hS.F ht⟩) hS.2.2 d_TuneSetterModel_inChord_37
  have hl := lv_entry ([.ref (a 0), .int x1]) (n := 3) (Nat.le_of_ble_eq_true rfl)
  rw [lg_entry_eq]
  generalize (lg_sl ([.ref (a 0), .int x1]) ++ List.replicate (3 - (lg_sl ([.ref (a 0), .int x1])).length) Slot.unset).toArray = ls at hl ⊢
  have hl : lv_has ls 3 [(0, .ref (a 0)), (1, .int x1)] := hl
  unfold wp_TuneSetterModel_inChord at h
  refine lv_aload_n hx hb d_TuneSetterModel_inChord_0 rfl (lv_at hl 0 rfl) ?_
  refine gR_TuneSetterModel_many hx hb hw hown hK hP (hw _ m_TuneSetterModel_48) d_TuneSetterModel_inChord_1 ?_
  refine lv_aload_n hx hb d_TuneSetterModel_inChord_4 rfl (lv_at hl 0 rfl) ?_
  refine gR_TuneSetterModel_items hx hb hw hown hK hP (hw _ m_TuneSetterModel_90) d_TuneSetterModel_inChord_5 ?_
  refine lv_iconst (v := 1) hx hb d_TuneSetterModel_inChord_8 ic_1 ?_
  refine lv_isub hx hb d_TuneSetterModel_inChord_9 ?_
  obtain ⟨hin, h⟩ := h
  refine lR9 hx hb hK hP hin d_TuneSetterModel_inChord_10 ?_
  refine lv_topi (fun v11 ev11 => ?_)
  have h := h v11 ev11
  refine lv_istore_n (lv' := [(2, .int v11), (0, .ref (a 0)), (1, .int x1)]) hx hb d_TuneSetterModel_inChord_11 rfl hl (by decide) rfl (fun ls hl => ?_)
  refine lv_iload_n hx hb d_TuneSetterModel_inChord_12 rfl (lv_at hl 2 rfl) ?_
  refine lv_bipush (v := 93) hx hb d_TuneSetterModel_inChord_13 bp_93 ?_
  refine lv_icmp_ne (tgt := 28) hx hb d_TuneSetterModel_inChord_15 rfl (fun q => ?_) (fun q => ?_)
  · have h := h.2 q
    exact j28 x1 v11 I A _ _ _ h hP hS (lv_sub hl [1, 2, 0] rfl)
  · have h := h.1 q
    refine lv_iload_n hx hb d_TuneSetterModel_inChord_18 rfl (lv_at hl 0 rfl) ?_
    refine lv_if_le (tgt := 28) hx hb d_TuneSetterModel_inChord_19 rfl (fun q => ?_) (fun q => ?_)
    · have h := h.1 q
      exact j28 x1 v11 I A _ _ _ h hP hS (lv_sub hl [1, 2, 0] rfl)
    · have h := h.2 q
      refine lv_aload_n hx hb d_TuneSetterModel_inChord_22 rfl (lv_at hl 1 rfl) ?_
      refine k_TuneSetterModel_openNumber (rest := []) ⟨hx, hb, hml, hown, hw⟩ hK hD hA hS hP hl.1 (hw _ m_TuneSetterModel_143) (Nat.le_of_ble_eq_true rfl) ⟨Nat.le_of_ble_eq_true rfl, Nat.le_of_ble_eq_true rfl⟩ ⟨Nat.zero_le _, Nat.zero_le _⟩ d_TuneSetterModel_inChord_23 h (fun I23 A23 H locs h hP hS => ?_)
      refine lv_iconst (v := 0) hx hb d_TuneSetterModel_inChord_26 ic_0 ?_
      exact W.iret hx hb hr (fun t ht hW => ⟨⟨_, (I23, A23), rfl, h, endR_of ht hP⟩, hS.F ht⟩) hS.2.2 d_TuneSetterModel_inChord_27
theorem k_TuneSetterModel_inChord {p : Program} {l : Launch} {e : Env} {R : Room} {s : State} {m : MethodId} {args : Array Value} {below : List Frame} {meth : Method} {c : Code} {H : Heap} {locs : List Loc} {cells slots : Nat} {Q : State → Prop} {cc : ByteArray} {pc nL idx : Nat} {own : String} {ls : Array Slot} {D : va_G} {cA a : Nat → Nat} {AA : Nat → Prop} {I : Nat → Int32} {A : Nat → Nat → Int32} {post : Int32 → (Nat → Int32) → (Nat → Nat → Int32) → Prop} (x1 : Int32) {rest : List Value} (S : CallFix p m c cc nL s args WALL own) (hK : KR D cA a AA s) (hD : ∀ I A, va_D AA (wR cA a I A)) (hA : ∀ q : Nat, s.heap.size ≤ q → AA q) (hS : va_S AA s.heap H locs) (hP : va_P D cls (wR cA a I A) H) (hl1 : ls.size = nL) (hlink : (Cond.methodLink own idx y_TuneSetterModel_inChord).before args s = true) (hst : (rest.map fun v => v.category).sum ≤ 8) (hR : ({ frames := 3, cells := 0, slots := 0, locals := 62 } : Room).frames + 1 ≤ R.frames ∧ 8 + (3 + 11) + ({ frames := 3, cells := 0, slots := 0, locals := 62 } : Room).locals ≤ R.locals) (hcs : cells ≤ R.cells ∧ slots ≤ R.slots) (hdg : decode cc pc = .ok (.invokevirtual idx, 3)) (h : wp_TuneSetterModel_inChord x1 I A post) (kk : ∀ (r : Int32) (I1 : Nat → Int32) (A1 : Nat → Nat → Int32) (H1 : Heap) (locs1 : List Loc), post r I1 A1 → va_P D cls (wR cA a I1 A1) H1 → va_S AA s.heap H1 locs1 → W p l e R s m args below meth c H1 locs1 cells slots Q (F0 m (pc + 3) ls (.int r :: rest))) : W p l e R s m args below meth c H locs cells slots Q (F0 m pc ls (.int x1 :: .ref (a 0) :: rest)) :=
  va_calli (va_runV (As := [.int x1]) (rest := rest) S (c_TuneSetterModel_inChord l D cA a H.size x1 I A post h) ⟨callB_of 1 S.2.2.2.2 g_TuneSetterModel_inChord rfl rfl rfl (S.2.2.2.2 _ mi_TuneSetterModel) hlink ⟨by decide, by decide, by decide +kernel⟩ hR, S.2.2.2.2 _ mn_TuneSetterModel_inChord, S.2.2.2.2 _ ms_TuneSetterModel_inChord⟩ (preRV hK hD hA hS hP 0 rfl rfl) rfl rfl hl1 rfl (lv_room hst) hdg hcs) hS (fun q _ z => AR_le hD hA hS q z) (fun q z => AR_le hD hA hS q z) (fun r u t H1 locs1 ht _ hp hB _ _ hS1 => kk r u.1 u.2 H1 locs1 hp (of_endR ht hB) hS1)
def wp_TuneSetterModel_openChord (x1 : Int32) (I : Nat → Int32) (A : Nat → Nat → Int32) (post : Int32 → (Nat → Int32) → (Nat → Nat → Int32) → Prop) : Prop := (wp_TuneSetterModel_inChord x1 (upd I 11 1) A (fun r7 I7 A7 => post r7 I7 A7))
theorem d_TuneSetterModel_openChord_0 : decode b_TuneSetterModel_openChord 0 = .ok (.aload_n 0, 1) := by decide +kernel
theorem d_TuneSetterModel_openChord_1 : decode b_TuneSetterModel_openChord 1 = .ok (.iconst 1, 1) := by decide +kernel
theorem d_TuneSetterModel_openChord_2 : decode b_TuneSetterModel_openChord 2 = .ok (.putfield 140, 3) := by decide +kernel
theorem d_TuneSetterModel_openChord_5 : decode b_TuneSetterModel_openChord 5 = .ok (.aload_n 0, 1) := by decide +kernel
theorem d_TuneSetterModel_openChord_6 : decode b_TuneSetterModel_openChord 6 = .ok (.iload_n 1, 1) := by decide +kernel
theorem d_TuneSetterModel_openChord_7 : decode b_TuneSetterModel_openChord 7 = .ok (.invokevirtual 172, 3) := by decide +kernel
theorem d_TuneSetterModel_openChord_10 : decode b_TuneSetterModel_openChord 10 = .ok (.ireturn, 1) := by decide +kernel
def w_TuneSetterModel_openChord : List Cond := .code y_TuneSetterModel_openChord b_TuneSetterModel_openChord 2 (some .int) :: WALL
theorem g_TuneSetterModel_openChord : GoodIn WALL w_TuneSetterModel_openChord := good_of mc_TuneSetterModel_openChord
set_option maxHeartbeats 4000000 in
set_option maxRecDepth 100000 in
theorem c_TuneSetterModel_openChord (l : Launch) (D : va_G) (cA a : Nat → Nat) (sz : Nat) (x1 : Int32) (I : Nat → Int32) (A : Nat → Nat → Int32) (post : Int32 → (Nat → Int32) → (Nat → Nat → Int32) → Prop) (h : wp_TuneSetterModel_openChord x1 I A post) : Met l y_TuneSetterModel_openChord w_TuneSetterModel_openChord ({ frames := 4, cells := 0, slots := 0, locals := 84 }) (va_Pc [.ref (a 0), .int x1] (PreR D cA a I A sz)) (va_Qi (fun r (u : StW) => post r u.1 u.2) (EndR D cA a) (AR a sz)) 0 0 (AR a sz) := by
  refine Met.ofW (cc := b_TuneSetterModel_openChord) (maxL := 2) (ret := (some .int)) (by decide) rfl ?_
  intro p e s m args below meth c s₁ B hml hv
  obtain ⟨rfl, hsz, hP, hK, hD0⟩ := hv
  have hx := B.exec
  have hb := B.bytes
  have hr := B.returns
  have hts := atoms_spec (ws := w_TuneSetterModel_openChord) B.pre
  have hw := wall_of hts
  have hown : s.vm.findClass R_TuneSetterModel = some m.cls := findClass_of_methodNamed B.named
  have hlocks := B.notSynchronized
  subst hsz
  have hD := hDR (sz := s.heap.size) hD0
  have hA : ∀ q : Nat, s.heap.size ≤ q → AR a s.heap.size q := fun q h => Or.inr h
  have hS : va_S (AR a s.heap.size) s.heap s.heap [] := va_S.rf
  have hl := lv_entry ([.ref (a 0), .int x1]) (n := 2) (Nat.le_of_ble_eq_true rfl)
  rw [lg_entry_eq]
  generalize (lg_sl ([.ref (a 0), .int x1]) ++ List.replicate (2 - (lg_sl ([.ref (a 0), .int x1])).length) Slot.unset).toArray = ls at hl ⊢
  have hl : lv_has ls 2 [(0, .ref (a 0)), (1, .int x1)] := hl
  unfold wp_TuneSetterModel_openChord at h
  refine lv_aload_n hx hb d_TuneSetterModel_openChord_0 rfl (lv_at hl 0 rfl) ?_
  refine lv_iconst (v := 1) hx hb d_TuneSetterModel_openChord_1 ic_1 ?_
  refine pR_TuneSetterModel_chord hx hb hw hown hK hD hS hP (hw _ m_TuneSetterModel_140) vz1 d_TuneSetterModel_openChord_2 (fun H locs hP hS => ?_)
  refine lv_aload_n hx hb d_TuneSetterModel_openChord_5 rfl (lv_at hl 0 rfl) ?_
  refine lv_iload_n hx hb d_TuneSetterModel_openChord_6 rfl (lv_at hl 1 rfl) ?_
  refine k_TuneSetterModel_inChord x1 (rest := []) ⟨hx, hb, hml, hown, hw⟩ hK hD hA hS hP hl.1 (hw _ m_TuneSetterModel_172) (Nat.le_of_ble_eq_true rfl) ⟨Nat.le_of_ble_eq_true rfl, Nat.le_of_ble_eq_true rfl⟩ ⟨Nat.zero_le _, Nat.zero_le _⟩ d_TuneSetterModel_openChord_7 h (fun r7 I7 A7 H locs h hP hS => ?_)
  exact W.iret hx hb hr (fun t ht hW => ⟨⟨_, (I7, A7), rfl, h, endR_of ht hP⟩, hS.F ht⟩) hS.2.2 d_TuneSetterModel_openChord_10
theorem k_TuneSetterModel_openChord {p : Program} {l : Launch} {e : Env} {R : Room} {s : State} {m : MethodId} {args : Array Value} {below : List Frame} {meth : Method} {c : Code} {H : Heap} {locs : List Loc} {cells slots : Nat} {Q : State → Prop} {cc : ByteArray} {pc nL idx : Nat} {own : String} {ls : Array Slot} {D : va_G} {cA a : Nat → Nat} {AA : Nat → Prop} {I : Nat → Int32} {A : Nat → Nat → Int32} {post : Int32 → (Nat → Int32) → (Nat → Nat → Int32) → Prop} (x1 : Int32) {rest : List Value} (S : CallFix p m c cc nL s args WALL own) (hK : KR D cA a AA s) (hD : ∀ I A, va_D AA (wR cA a I A)) (hA : ∀ q : Nat, s.heap.size ≤ q → AA q) (hS : va_S AA s.heap H locs) (hP : va_P D cls (wR cA a I A) H) (hl1 : ls.size = nL) (hlink : (Cond.methodLink own idx y_TuneSetterModel_openChord).before args s = true) (hst : (rest.map fun v => v.category).sum ≤ 8) (hR : ({ frames := 4, cells := 0, slots := 0, locals := 84 } : Room).frames + 1 ≤ R.frames ∧ 8 + (2 + 11) + ({ frames := 4, cells := 0, slots := 0, locals := 84 } : Room).locals ≤ R.locals) (hcs : cells ≤ R.cells ∧ slots ≤ R.slots) (hdg : decode cc pc = .ok (.invokevirtual idx, 3)) (h : wp_TuneSetterModel_openChord x1 I A post) (kk : ∀ (r : Int32) (I1 : Nat → Int32) (A1 : Nat → Nat → Int32) (H1 : Heap) (locs1 : List Loc), post r I1 A1 → va_P D cls (wR cA a I1 A1) H1 → va_S AA s.heap H1 locs1 → W p l e R s m args below meth c H1 locs1 cells slots Q (F0 m (pc + 3) ls (.int r :: rest))) : W p l e R s m args below meth c H locs cells slots Q (F0 m pc ls (.int x1 :: .ref (a 0) :: rest)) :=
  va_calli (va_runV (As := [.int x1]) (rest := rest) S (c_TuneSetterModel_openChord l D cA a H.size x1 I A post h) ⟨callB_of 1 S.2.2.2.2 g_TuneSetterModel_openChord rfl rfl rfl (S.2.2.2.2 _ mi_TuneSetterModel) hlink ⟨by decide, by decide, by decide +kernel⟩ hR, S.2.2.2.2 _ mn_TuneSetterModel_openChord, S.2.2.2.2 _ ms_TuneSetterModel_openChord⟩ (preRV hK hD hA hS hP 0 rfl rfl) rfl rfl hl1 rfl (lv_room hst) hdg hcs) hS (fun q _ z => AR_le hD hA hS q z) (fun q z => AR_le hD hA hS q z) (fun r u t H1 locs1 ht _ hp hB _ _ hS1 => kk r u.1 u.2 H1 locs1 hp (of_endR ht hB) hS1)
def wp_TuneSetterModel_goOnSign_40 (post : Int32 → (Nat → Int32) → (Nat → Nat → Int32) → Prop) (y1 : Int32) (I : Nat → Int32) (A : Nat → Nat → Int32) : Prop := (wp_TuneSetterModel_letterOf y1 I A (fun r41 I41 A41 => ((0 ≤ r41 → (wp_TuneSetterModel_openLetter y1 I41 A41 (fun I52 A52 => post 0 I52 A52))) ∧ (¬ 0 ≤ r41 → post (-2) I41 A41))))
def wp_TuneSetterModel_goOnSign_14 (post : Int32 → (Nat → Int32) → (Nat → Nat → Int32) → Prop) (y1 : Int32) (I : Nat → Int32) (A : Nat → Nat → Int32) : Prop := ((y1 = 95 → (((I 14) = (-1) → post 0 (upd I 14 ((2 : Int32) * (I 14))) A) ∧ (¬ (I 14) = (-1) → wp_TuneSetterModel_goOnSign_40 post y1 I A))) ∧ (¬ y1 = 95 → wp_TuneSetterModel_goOnSign_40 post y1 I A))
def wp_TuneSetterModel_goOnSign (x1 : Int32) (I : Nat → Int32) (A : Nat → Nat → Int32) (post : Int32 → (Nat → Int32) → (Nat → Nat → Int32) → Prop) : Prop := ((x1 = 94 → (((I 14) = 1 → post 0 (upd I 14 ((2 : Int32) * (I 14))) A) ∧ (¬ (I 14) = 1 → wp_TuneSetterModel_goOnSign_14 post x1 I A))) ∧ (¬ x1 = 94 → wp_TuneSetterModel_goOnSign_14 post x1 I A))
theorem d_TuneSetterModel_goOnSign_0 : decode b_TuneSetterModel_goOnSign 0 = .ok (.iload_n 1, 1) := by decide +kernel
theorem d_TuneSetterModel_goOnSign_1 : decode b_TuneSetterModel_goOnSign 1 = .ok (.bipush 94, 2) := by decide +kernel
theorem d_TuneSetterModel_goOnSign_3 : decode b_TuneSetterModel_goOnSign 3 = .ok (.if_icmp .ne 11, 3) := by decide +kernel
theorem d_TuneSetterModel_goOnSign_6 : decode b_TuneSetterModel_goOnSign 6 = .ok (.aload_n 0, 1) := by decide +kernel
theorem d_TuneSetterModel_goOnSign_7 : decode b_TuneSetterModel_goOnSign 7 = .ok (.getfield 226, 3) := by decide +kernel
theorem d_TuneSetterModel_goOnSign_10 : decode b_TuneSetterModel_goOnSign 10 = .ok (.iconst 1, 1) := by decide +kernel
theorem d_TuneSetterModel_goOnSign_11 : decode b_TuneSetterModel_goOnSign 11 = .ok (.if_icmp .eq 17, 3) := by decide +kernel
theorem d_TuneSetterModel_goOnSign_14 : decode b_TuneSetterModel_goOnSign 14 = .ok (.iload_n 1, 1) := by decide +kernel
theorem d_TuneSetterModel_goOnSign_15 : decode b_TuneSetterModel_goOnSign 15 = .ok (.bipush 95, 2) := by decide +kernel
theorem d_TuneSetterModel_goOnSign_17 : decode b_TuneSetterModel_goOnSign 17 = .ok (.if_icmp .ne 23, 3) := by decide +kernel
theorem d_TuneSetterModel_goOnSign_20 : decode b_TuneSetterModel_goOnSign 20 = .ok (.aload_n 0, 1) := by decide +kernel
theorem d_TuneSetterModel_goOnSign_21 : decode b_TuneSetterModel_goOnSign 21 = .ok (.getfield 226, 3) := by decide +kernel
theorem d_TuneSetterModel_goOnSign_24 : decode b_TuneSetterModel_goOnSign 24 = .ok (.iconst (-1), 1) := by decide +kernel
theorem d_TuneSetterModel_goOnSign_25 : decode b_TuneSetterModel_goOnSign 25 = .ok (.if_icmp .ne 15, 3) := by decide +kernel
theorem d_TuneSetterModel_goOnSign_28 : decode b_TuneSetterModel_goOnSign 28 = .ok (.aload_n 0, 1) := by decide +kernel
theorem d_TuneSetterModel_goOnSign_29 : decode b_TuneSetterModel_goOnSign 29 = .ok (.iconst 2, 1) := by decide +kernel
theorem d_TuneSetterModel_goOnSign_30 : decode b_TuneSetterModel_goOnSign 30 = .ok (.aload_n 0, 1) := by decide +kernel
theorem d_TuneSetterModel_goOnSign_31 : decode b_TuneSetterModel_goOnSign 31 = .ok (.getfield 226, 3) := by decide +kernel
theorem d_TuneSetterModel_goOnSign_34 : decode b_TuneSetterModel_goOnSign 34 = .ok (.imul, 1) := by decide +kernel
theorem d_TuneSetterModel_goOnSign_35 : decode b_TuneSetterModel_goOnSign 35 = .ok (.putfield 226, 3) := by decide +kernel
theorem d_TuneSetterModel_goOnSign_38 : decode b_TuneSetterModel_goOnSign 38 = .ok (.iconst 0, 1) := by decide +kernel
theorem d_TuneSetterModel_goOnSign_39 : decode b_TuneSetterModel_goOnSign 39 = .ok (.ireturn, 1) := by decide +kernel
theorem d_TuneSetterModel_goOnSign_40 : decode b_TuneSetterModel_goOnSign 40 = .ok (.iload_n 1, 1) := by decide +kernel
theorem d_TuneSetterModel_goOnSign_41 : decode b_TuneSetterModel_goOnSign 41 = .ok (.invokestatic 114, 3) := by decide +kernel
theorem d_TuneSetterModel_goOnSign_44 : decode b_TuneSetterModel_goOnSign 44 = .ok (.ifCond .ge 6, 3) := by decide +kernel
theorem d_TuneSetterModel_goOnSign_47 : decode b_TuneSetterModel_goOnSign 47 = .ok (.bipush (-2), 2) := by decide +kernel
theorem d_TuneSetterModel_goOnSign_49 : decode b_TuneSetterModel_goOnSign 49 = .ok (.ireturn, 1) := by decide +kernel
theorem d_TuneSetterModel_goOnSign_50 : decode b_TuneSetterModel_goOnSign 50 = .ok (.aload_n 0, 1) := by decide +kernel
theorem d_TuneSetterModel_goOnSign_51 : decode b_TuneSetterModel_goOnSign 51 = .ok (.iload_n 1, 1) := by decide +kernel
theorem d_TuneSetterModel_goOnSign_52 : decode b_TuneSetterModel_goOnSign 52 = .ok (.invokevirtual 223, 3) := by decide +kernel
theorem d_TuneSetterModel_goOnSign_55 : decode b_TuneSetterModel_goOnSign 55 = .ok (.iconst 0, 1) := by decide +kernel
theorem d_TuneSetterModel_goOnSign_56 : decode b_TuneSetterModel_goOnSign 56 = .ok (.ireturn, 1) := by decide +kernel
def w_TuneSetterModel_goOnSign : List Cond := .code y_TuneSetterModel_goOnSign b_TuneSetterModel_goOnSign 2 (some .int) :: WALL
theorem g_TuneSetterModel_goOnSign : GoodIn WALL w_TuneSetterModel_goOnSign := good_of mc_TuneSetterModel_goOnSign
set_option maxHeartbeats 4000000 in
set_option maxRecDepth 100000 in
theorem c_TuneSetterModel_goOnSign (l : Launch) (D : va_G) (cA a : Nat → Nat) (sz : Nat) (x1 : Int32) (I : Nat → Int32) (A : Nat → Nat → Int32) (post : Int32 → (Nat → Int32) → (Nat → Nat → Int32) → Prop) (h : wp_TuneSetterModel_goOnSign x1 I A post) : Met l y_TuneSetterModel_goOnSign w_TuneSetterModel_goOnSign ({ frames := 2, cells := 0, slots := 0, locals := 41 }) (va_Pc [.ref (a 0), .int x1] (PreR D cA a I A sz)) (va_Qi (fun r (u : StW) => post r u.1 u.2) (EndR D cA a) (AR a sz)) 0 0 (AR a sz) := by
  refine Met.ofW (cc := b_TuneSetterModel_goOnSign) (maxL := 2) (ret := (some .int)) (by decide) rfl ?_
  intro p e s m args below meth c s₁ B hml hv
  obtain ⟨rfl, hsz, hP, hK, hD0⟩ := hv
  have hx := B.exec
  have hb := B.bytes
  have hr := B.returns
  have hts := atoms_spec (ws := w_TuneSetterModel_goOnSign) B.pre
  have hw := wall_of hts
  have hown : s.vm.findClass R_TuneSetterModel = some m.cls := findClass_of_methodNamed B.named
  have hlocks := B.notSynchronized
  subst hsz
  have hD := hDR (sz := s.heap.size) hD0
  have hA : ∀ q : Nat, s.heap.size ≤ q → AR a s.heap.size q := fun q h => Or.inr h
  have hS : va_S (AR a s.heap.size) s.heap s.heap [] := va_S.rf
  have j40 : ∀ (y1 : Int32) (I : Nat → Int32) (A : Nat → Nat → Int32) (H : Heap) (locs : List Loc) (ls : Array Slot), wp_TuneSetterModel_goOnSign_40 post y1 I A → va_P D cls (wR cA a I A) H → va_S (AR a s.heap.size) s.heap H locs → lv_has ls 2 [(0, .ref (a 0)), (1, .int y1)] → W p l e (headSpec w_TuneSetterModel_goOnSign ({ frames := 2, cells := 0, slots := 0, locals := 41 })).room s m [.ref (a 0), .int x1].toArray below meth c H locs 0 0 (MQ below (va_Qi (fun r (u : StW) => post r u.1 u.2) (EndR D cA a) (AR a s.heap.size)) [.ref (a 0), .int x1].toArray s 0 0 (AR a s.heap.size)) (F0 m 40 ls []) := by
    intro y1 I A H locs ls h hP hS hl
    unfold wp_TuneSetterModel_goOnSign_40 at h
    refine lv_iload_n hx hb d_TuneSetterModel_goOnSign_40 rfl (lv_at hl 1 rfl) ?_
    refine k_TuneSetterModel_letterOf y1 (rest := []) ⟨hx, hb, hml, hown, hw⟩ hK hD hA hS hP hl.1 (hw _ m_TuneSetterModel_114) (Nat.le_of_ble_eq_true rfl) ⟨Nat.le_of_ble_eq_true rfl, Nat.le_of_ble_eq_true rfl⟩ ⟨Nat.zero_le _, Nat.zero_le _⟩ d_TuneSetterModel_goOnSign_41 h (fun r41 I41 A41 H locs h hP hS => ?_)
    refine lv_if_ge (tgt := 50) hx hb d_TuneSetterModel_goOnSign_44 rfl (fun q => ?_) (fun q => ?_)
    · have h := h.1 q
      refine lv_aload_n hx hb d_TuneSetterModel_goOnSign_50 rfl (lv_at hl 0 rfl) ?_
      refine lv_iload_n hx hb d_TuneSetterModel_goOnSign_51 rfl (lv_at hl 1 rfl) ?_
      refine k_TuneSetterModel_openLetter y1 (rest := []) ⟨hx, hb, hml, hown, hw⟩ hK hD hA hS hP hl.1 (hw _ m_TuneSetterModel_223) (Nat.le_of_ble_eq_true rfl) ⟨Nat.le_of_ble_eq_true rfl, Nat.le_of_ble_eq_true rfl⟩ ⟨Nat.zero_le _, Nat.zero_le _⟩ d_TuneSetterModel_goOnSign_52 h (fun I52 A52 H locs h hP hS => ?_)
      refine lv_iconst (v := 0) hx hb d_TuneSetterModel_goOnSign_55 ic_0 ?_
      exact W.iret hx hb hr (fun t ht hW => ⟨⟨_, (I52, A52), rfl, h, endR_of ht hP⟩, hS.F ht⟩) hS.2.2 d_TuneSetterModel_goOnSign_56
    · have h := h.2 q
      refine lv_bipush (v := (-2)) hx hb d_TuneSetterModel_goOnSign_47 bp_m2 ?_
      exact W.iret hx hb hr (fun t ht hW => ⟨⟨_, (I41, A41), rfl, h, endR_of ht hP⟩, hS.F ht⟩) hS.2.2 d_TuneSetterModel_goOnSign_49
  have j14 : ∀ (y1 : Int32) (I : Nat → Int32) (A : Nat → Nat → Int32) (H : Heap) (locs : List Loc) (ls : Array Slot), wp_TuneSetterModel_goOnSign_14 post y1 I A → va_P D cls (wR cA a I A) H → va_S (AR a s.heap.size) s.heap H locs → lv_has ls 2 [(0, .ref (a 0)), (1, .int y1)] → W p l e (headSpec w_TuneSetterModel_goOnSign ({ frames := 2, cells := 0, slots := 0, locals := 41 })).room s m [.ref (a 0), .int x1].toArray below meth c H locs 0 0 (MQ below (va_Qi (fun r (u : StW) => post r u.1 u.2) (EndR D cA a) (AR a s.heap.size)) [.ref (a 0), .int x1].toArray s 0 0 (AR a s.heap.size)) (F0 m 14 ls []) := by
    intro y1 I A H locs ls h hP hS hl
    unfold wp_TuneSetterModel_goOnSign_14 at h
    refine lv_iload_n hx hb d_TuneSetterModel_goOnSign_14 rfl (lv_at hl 1 rfl) ?_
    refine lv_bipush (v := 95) hx hb d_TuneSetterModel_goOnSign_15 bp_95 ?_
    refine lv_icmp_ne (tgt := 40) hx hb d_TuneSetterModel_goOnSign_17 rfl (fun q => ?_) (fun q => ?_)
    · have h := h.2 q
      exact j40 y1 I A _ _ _ h hP hS (lv_sub hl [0, 1] rfl)
    · have h := h.1 q
      refine lv_aload_n hx hb d_TuneSetterModel_goOnSign_20 rfl (lv_at hl 0 rfl) ?_
      refine gR_TuneSetterModel_sign hx hb hw hown hK hP (hw _ m_TuneSetterModel_226) d_TuneSetterModel_goOnSign_21 ?_
      refine lv_iconst (v := (-1)) hx hb d_TuneSetterModel_goOnSign_24 ic_m1 ?_
      refine lv_icmp_ne (tgt := 40) hx hb d_TuneSetterModel_goOnSign_25 rfl (fun q => ?_) (fun q => ?_)
      · have h := h.2 q
        exact j40 y1 I A _ _ _ h hP hS (lv_sub hl [0, 1] rfl)
      · have h := h.1 q
        refine lv_aload_n hx hb d_TuneSetterModel_goOnSign_28 rfl (lv_at hl 0 rfl) ?_
        refine lv_iconst (v := 2) hx hb d_TuneSetterModel_goOnSign_29 ic_2 ?_
        refine lv_aload_n hx hb d_TuneSetterModel_goOnSign_30 rfl (lv_at hl 0 rfl) ?_
        refine gR_TuneSetterModel_sign hx hb hw hown hK hP (hw _ m_TuneSetterModel_226) d_TuneSetterModel_goOnSign_31 ?_
        refine lv_imul hx hb d_TuneSetterModel_goOnSign_34 ?_
        refine pR_TuneSetterModel_sign hx hb hw hown hK hD hS hP (hw _ m_TuneSetterModel_226) d_TuneSetterModel_goOnSign_35 (fun H locs hP hS => ?_)
        refine lv_iconst (v := 0) hx hb d_TuneSetterModel_goOnSign_38 ic_0 ?_
        exact W.iret hx hb hr (fun t ht hW => ⟨⟨_, ((upd I 14 ((2 : Int32) * (I 14))), A), rfl, h, endR_of ht hP⟩, hS.F ht⟩) hS.2.2 d_TuneSetterModel_goOnSign_39
  have hl := lv_entry ([.ref (a 0), .int x1]) (n := 2) (Nat.le_of_ble_eq_true rfl)
  rw [lg_entry_eq]
  generalize (lg_sl ([.ref (a 0), .int x1]) ++ List.replicate (2 - (lg_sl ([.ref (a 0), .int x1])).length) Slot.unset).toArray = ls at hl ⊢
  have hl : lv_has ls 2 [(0, .ref (a 0)), (1, .int x1)] := hl
  unfold wp_TuneSetterModel_goOnSign at h
  refine lv_iload_n hx hb d_TuneSetterModel_goOnSign_0 rfl (lv_at hl 1 rfl) ?_
  refine lv_bipush (v := 94) hx hb d_TuneSetterModel_goOnSign_1 bp_94 ?_
  refine lv_icmp_ne (tgt := 14) hx hb d_TuneSetterModel_goOnSign_3 rfl (fun q => ?_) (fun q => ?_)
  · have h := h.2 q
    exact j14 x1 I A _ _ _ h hP hS (lv_sub hl [0, 1] rfl)
  · have h := h.1 q
    refine lv_aload_n hx hb d_TuneSetterModel_goOnSign_6 rfl (lv_at hl 0 rfl) ?_
    refine gR_TuneSetterModel_sign hx hb hw hown hK hP (hw _ m_TuneSetterModel_226) d_TuneSetterModel_goOnSign_7 ?_
    refine lv_iconst (v := 1) hx hb d_TuneSetterModel_goOnSign_10 ic_1 ?_
    refine lv_icmp_eq (tgt := 28) hx hb d_TuneSetterModel_goOnSign_11 rfl (fun q => ?_) (fun q => ?_)
    · have h := h.1 q
      refine lv_aload_n hx hb d_TuneSetterModel_goOnSign_28 rfl (lv_at hl 0 rfl) ?_
      refine lv_iconst (v := 2) hx hb d_TuneSetterModel_goOnSign_29 ic_2 ?_
      refine lv_aload_n hx hb d_TuneSetterModel_goOnSign_30 rfl (lv_at hl 0 rfl) ?_
      refine gR_TuneSetterModel_sign hx hb hw hown hK hP (hw _ m_TuneSetterModel_226) d_TuneSetterModel_goOnSign_31 ?_
      refine lv_imul hx hb d_TuneSetterModel_goOnSign_34 ?_
      refine pR_TuneSetterModel_sign hx hb hw hown hK hD hS hP (hw _ m_TuneSetterModel_226) d_TuneSetterModel_goOnSign_35 (fun H locs hP hS => ?_)
      refine lv_iconst (v := 0) hx hb d_TuneSetterModel_goOnSign_38 ic_0 ?_
      exact W.iret hx hb hr (fun t ht hW => ⟨⟨_, ((upd I 14 ((2 : Int32) * (I 14))), A), rfl, h, endR_of ht hP⟩, hS.F ht⟩) hS.2.2 d_TuneSetterModel_goOnSign_39
    · have h := h.2 q
      exact j14 x1 I A _ _ _ h hP hS (lv_sub hl [0, 1] rfl)
theorem k_TuneSetterModel_goOnSign {p : Program} {l : Launch} {e : Env} {R : Room} {s : State} {m : MethodId} {args : Array Value} {below : List Frame} {meth : Method} {c : Code} {H : Heap} {locs : List Loc} {cells slots : Nat} {Q : State → Prop} {cc : ByteArray} {pc nL idx : Nat} {own : String} {ls : Array Slot} {D : va_G} {cA a : Nat → Nat} {AA : Nat → Prop} {I : Nat → Int32} {A : Nat → Nat → Int32} {post : Int32 → (Nat → Int32) → (Nat → Nat → Int32) → Prop} (x1 : Int32) {rest : List Value} (S : CallFix p m c cc nL s args WALL own) (hK : KR D cA a AA s) (hD : ∀ I A, va_D AA (wR cA a I A)) (hA : ∀ q : Nat, s.heap.size ≤ q → AA q) (hS : va_S AA s.heap H locs) (hP : va_P D cls (wR cA a I A) H) (hl1 : ls.size = nL) (hlink : (Cond.methodLink own idx y_TuneSetterModel_goOnSign).before args s = true) (hst : (rest.map fun v => v.category).sum ≤ 8) (hR : ({ frames := 2, cells := 0, slots := 0, locals := 41 } : Room).frames + 1 ≤ R.frames ∧ 8 + (2 + 11) + ({ frames := 2, cells := 0, slots := 0, locals := 41 } : Room).locals ≤ R.locals) (hcs : cells ≤ R.cells ∧ slots ≤ R.slots) (hdg : decode cc pc = .ok (.invokevirtual idx, 3)) (h : wp_TuneSetterModel_goOnSign x1 I A post) (kk : ∀ (r : Int32) (I1 : Nat → Int32) (A1 : Nat → Nat → Int32) (H1 : Heap) (locs1 : List Loc), post r I1 A1 → va_P D cls (wR cA a I1 A1) H1 → va_S AA s.heap H1 locs1 → W p l e R s m args below meth c H1 locs1 cells slots Q (F0 m (pc + 3) ls (.int r :: rest))) : W p l e R s m args below meth c H locs cells slots Q (F0 m pc ls (.int x1 :: .ref (a 0) :: rest)) :=
  va_calli (va_runV (As := [.int x1]) (rest := rest) S (c_TuneSetterModel_goOnSign l D cA a H.size x1 I A post h) ⟨callB_of 1 S.2.2.2.2 g_TuneSetterModel_goOnSign rfl rfl rfl (S.2.2.2.2 _ mi_TuneSetterModel) hlink ⟨by decide, by decide, by decide +kernel⟩ hR, S.2.2.2.2 _ mn_TuneSetterModel_goOnSign, S.2.2.2.2 _ ms_TuneSetterModel_goOnSign⟩ (preRV hK hD hA hS hP 0 rfl rfl) rfl rfl hl1 rfl (lv_room hst) hdg hcs) hS (fun q _ z => AR_le hD hA hS q z) (fun q z => AR_le hD hA hS q z) (fun r u t H1 locs1 ht _ hp hB _ _ hS1 => kk r u.1 u.2 H1 locs1 hp (of_endR ht hB) hS1)
def wp_TuneSetterModel_inside_26 (post : Int32 → (Nat → Int32) → (Nat → Nat → Int32) → Prop) (y1 : Int32) (y2 : Int32) (I : Nat → Int32) (A : Nat → Nat → Int32) : Prop := (vp_in ((I 5) - 1) 8 ∧ (wp_TuneSetterModel_full I A (fun r38 I38 A38 => ((r38 < (A 4 (((I 5) - 1).toNatClampNeg)) → post (-5) I38 A38) ∧ (¬ r38 < (A 4 (((I 5) - 1).toNatClampNeg)) → (((I38 13) ≤ 0 → (wp_TuneSetterModel_beginLine y1 y2 I38 A38 (fun r57 I57 A57 => post r57 I57 A57))) ∧ (¬ (I38 13) ≤ 0 → post (-5) I38 A38)))))))
def wp_TuneSetterModel_inside (x1 : Int32) (x2 : Int32) (I : Nat → Int32) (A : Nat → Nat → Int32) (post : Int32 → (Nat → Int32) → (Nat → Nat → Int32) → Prop) : Prop := ((x1 = 32 → post 0 I A) ∧ (¬ x1 = 32 → ((x1 = 124 → wp_TuneSetterModel_inside_26 post x1 x2 I A) ∧ (¬ x1 = 124 → ((x1 = 58 → wp_TuneSetterModel_inside_26 post x1 x2 I A) ∧ (¬ x1 = 58 → (wp_TuneSetterModel_beginItem x1 I A (fun r22 I22 A22 => post r22 I22 A22))))))))
theorem d_TuneSetterModel_inside_0 : decode b_TuneSetterModel_inside 0 = .ok (.iload_n 1, 1) := by decide +kernel
theorem d_TuneSetterModel_inside_1 : decode b_TuneSetterModel_inside 1 = .ok (.bipush 32, 2) := by decide +kernel
theorem d_TuneSetterModel_inside_3 : decode b_TuneSetterModel_inside 3 = .ok (.if_icmp .ne 5, 3) := by decide +kernel
theorem d_TuneSetterModel_inside_6 : decode b_TuneSetterModel_inside 6 = .ok (.iconst 0, 1) := by decide +kernel
theorem d_TuneSetterModel_inside_7 : decode b_TuneSetterModel_inside 7 = .ok (.ireturn, 1) := by decide +kernel
theorem d_TuneSetterModel_inside_8 : decode b_TuneSetterModel_inside 8 = .ok (.iload_n 1, 1) := by decide +kernel
theorem d_TuneSetterModel_inside_9 : decode b_TuneSetterModel_inside 9 = .ok (.bipush 124, 2) := by decide +kernel
theorem d_TuneSetterModel_inside_11 : decode b_TuneSetterModel_inside 11 = .ok (.if_icmp .eq 15, 3) := by decide +kernel
theorem d_TuneSetterModel_inside_14 : decode b_TuneSetterModel_inside 14 = .ok (.iload_n 1, 1) := by decide +kernel
theorem d_TuneSetterModel_inside_15 : decode b_TuneSetterModel_inside 15 = .ok (.bipush 58, 2) := by decide +kernel
theorem d_TuneSetterModel_inside_17 : decode b_TuneSetterModel_inside 17 = .ok (.if_icmp .eq 9, 3) := by decide +kernel
theorem d_TuneSetterModel_inside_20 : decode b_TuneSetterModel_inside 20 = .ok (.aload_n 0, 1) := by decide +kernel
theorem d_TuneSetterModel_inside_21 : decode b_TuneSetterModel_inside 21 = .ok (.iload_n 1, 1) := by decide +kernel
theorem d_TuneSetterModel_inside_22 : decode b_TuneSetterModel_inside 22 = .ok (.invokevirtual 196, 3) := by decide +kernel
theorem d_TuneSetterModel_inside_25 : decode b_TuneSetterModel_inside 25 = .ok (.ireturn, 1) := by decide +kernel
theorem d_TuneSetterModel_inside_26 : decode b_TuneSetterModel_inside 26 = .ok (.aload_n 0, 1) := by decide +kernel
theorem d_TuneSetterModel_inside_27 : decode b_TuneSetterModel_inside 27 = .ok (.getfield 32, 3) := by decide +kernel
theorem d_TuneSetterModel_inside_30 : decode b_TuneSetterModel_inside 30 = .ok (.aload_n 0, 1) := by decide +kernel
theorem d_TuneSetterModel_inside_31 : decode b_TuneSetterModel_inside 31 = .ok (.getfield 87, 3) := by decide +kernel
theorem d_TuneSetterModel_inside_34 : decode b_TuneSetterModel_inside 34 = .ok (.iconst 1, 1) := by decide +kernel
theorem d_TuneSetterModel_inside_35 : decode b_TuneSetterModel_inside 35 = .ok (.isub, 1) := by decide +kernel
theorem d_TuneSetterModel_inside_36 : decode b_TuneSetterModel_inside 36 = .ok (.iaload, 1) := by decide +kernel
theorem d_TuneSetterModel_inside_37 : decode b_TuneSetterModel_inside 37 = .ok (.aload_n 0, 1) := by decide +kernel
theorem d_TuneSetterModel_inside_38 : decode b_TuneSetterModel_inside 38 = .ok (.invokevirtual 214, 3) := by decide +kernel
theorem d_TuneSetterModel_inside_41 : decode b_TuneSetterModel_inside 41 = .ok (.if_icmp .gt 10, 3) := by decide +kernel
theorem d_TuneSetterModel_inside_44 : decode b_TuneSetterModel_inside 44 = .ok (.aload_n 0, 1) := by decide +kernel
theorem d_TuneSetterModel_inside_45 : decode b_TuneSetterModel_inside 45 = .ok (.getfield 103, 3) := by decide +kernel
theorem d_TuneSetterModel_inside_48 : decode b_TuneSetterModel_inside 48 = .ok (.ifCond .le 6, 3) := by decide +kernel
theorem d_TuneSetterModel_inside_51 : decode b_TuneSetterModel_inside 51 = .ok (.bipush (-5), 2) := by decide +kernel
theorem d_TuneSetterModel_inside_53 : decode b_TuneSetterModel_inside 53 = .ok (.ireturn, 1) := by decide +kernel
theorem d_TuneSetterModel_inside_54 : decode b_TuneSetterModel_inside 54 = .ok (.aload_n 0, 1) := by decide +kernel
theorem d_TuneSetterModel_inside_55 : decode b_TuneSetterModel_inside 55 = .ok (.iload_n 1, 1) := by decide +kernel
theorem d_TuneSetterModel_inside_56 : decode b_TuneSetterModel_inside 56 = .ok (.iload_n 2, 1) := by decide +kernel
theorem d_TuneSetterModel_inside_57 : decode b_TuneSetterModel_inside 57 = .ok (.invokevirtual 178, 3) := by decide +kernel
theorem d_TuneSetterModel_inside_60 : decode b_TuneSetterModel_inside 60 = .ok (.ireturn, 1) := by decide +kernel
def w_TuneSetterModel_inside : List Cond := .code y_TuneSetterModel_inside b_TuneSetterModel_inside 3 (some .int) :: WALL
theorem g_TuneSetterModel_inside : GoodIn WALL w_TuneSetterModel_inside := good_of mc_TuneSetterModel_inside
set_option maxHeartbeats 4000000 in
set_option maxRecDepth 100000 in
theorem c_TuneSetterModel_inside (l : Launch) (D : va_G) (cA a : Nat → Nat) (sz : Nat) (x1 : Int32) (x2 : Int32) (I : Nat → Int32) (A : Nat → Nat → Int32) (post : Int32 → (Nat → Int32) → (Nat → Nat → Int32) → Prop) (h : wp_TuneSetterModel_inside x1 x2 I A post) : Met l y_TuneSetterModel_inside w_TuneSetterModel_inside ({ frames := 5, cells := 0, slots := 0, locals := 104 }) (va_Pc [.ref (a 0), .int x1, .int x2] (PreR D cA a I A sz)) (va_Qi (fun r (u : StW) => post r u.1 u.2) (EndR D cA a) (AR a sz)) 0 0 (AR a sz) := by
  refine Met.ofW (cc := b_TuneSetterModel_inside) (maxL := 3) (ret := (some .int)) (by decide) rfl ?_
  intro p e s m args below meth c s₁ B hml hv
  obtain ⟨rfl, hsz, hP, hK, hD0⟩ := hv
  have hx := B.exec
  have hb := B.bytes
  have hr := B.returns
  have hts := atoms_spec (ws := w_TuneSetterModel_inside) B.pre
  have hw := wall_of hts
  have hown : s.vm.findClass R_TuneSetterModel = some m.cls := findClass_of_methodNamed B.named
  have hlocks := B.notSynchronized
  subst hsz
  have hD := hDR (sz := s.heap.size) hD0
  have hA : ∀ q : Nat, s.heap.size ≤ q → AR a s.heap.size q := fun q h => Or.inr h
  have hS : va_S (AR a s.heap.size) s.heap s.heap [] := va_S.rf
  have j26 : ∀ (y1 : Int32) (y2 : Int32) (I : Nat → Int32) (A : Nat → Nat → Int32) (H : Heap) (locs : List Loc) (ls : Array Slot), wp_TuneSetterModel_inside_26 post y1 y2 I A → va_P D cls (wR cA a I A) H → va_S (AR a s.heap.size) s.heap H locs → lv_has ls 3 [(0, .ref (a 0)), (1, .int y1), (2, .int y2)] → W p l e (headSpec w_TuneSetterModel_inside ({ frames := 5, cells := 0, slots := 0, locals := 104 })).room s m [.ref (a 0), .int x1, .int x2].toArray below meth c H locs 0 0 (MQ below (va_Qi (fun r (u : StW) => post r u.1 u.2) (EndR D cA a) (AR a s.heap.size)) [.ref (a 0), .int x1, .int x2].toArray s 0 0 (AR a s.heap.size)) (F0 m 26 ls []) := by
    intro y1 y2 I A H locs ls h hP hS hl
    unfold wp_TuneSetterModel_inside_26 at h
    refine lv_aload_n hx hb d_TuneSetterModel_inside_26 rfl (lv_at hl 0 rfl) ?_
    refine gR_TuneSetterModel_barTicks hx hb hw hown hK hP (hw _ m_TuneSetterModel_32) d_TuneSetterModel_inside_27 ?_
    refine lv_aload_n hx hb d_TuneSetterModel_inside_30 rfl (lv_at hl 0 rfl) ?_
    refine gR_TuneSetterModel_bars hx hb hw hown hK hP (hw _ m_TuneSetterModel_87) d_TuneSetterModel_inside_31 ?_
    refine lv_iconst (v := 1) hx hb d_TuneSetterModel_inside_34 ic_1 ?_
    refine lv_isub hx hb d_TuneSetterModel_inside_35 ?_
    obtain ⟨hin, h⟩ := h
    refine lR4 hx hb hK hP hin d_TuneSetterModel_inside_36 ?_
    refine lv_aload_n hx hb d_TuneSetterModel_inside_37 rfl (lv_at hl 0 rfl) ?_
    refine k_TuneSetterModel_full (rest := [.int (A 4 (((I 5) - 1).toNatClampNeg))]) ⟨hx, hb, hml, hown, hw⟩ hK hD hA hS hP hl.1 (hw _ m_TuneSetterModel_214) (Nat.le_of_ble_eq_true rfl) ⟨Nat.le_of_ble_eq_true rfl, Nat.le_of_ble_eq_true rfl⟩ ⟨Nat.zero_le _, Nat.zero_le _⟩ d_TuneSetterModel_inside_38 h (fun r38 I38 A38 H locs h hP hS => ?_)
    refine lv_icmp_gt (tgt := 51) hx hb d_TuneSetterModel_inside_41 rfl (fun q => ?_) (fun q => ?_)
    · have h := h.1 q
      refine lv_bipush (v := (-5)) hx hb d_TuneSetterModel_inside_51 bp_m5 ?_
      exact W.iret hx hb hr (fun t ht hW => ⟨⟨_, (I38, A38), rfl, h, endR_of ht hP⟩, hS.F ht⟩) hS.2.2 d_TuneSetterModel_inside_53
    · have h := h.2 q
      refine lv_aload_n hx hb d_TuneSetterModel_inside_44 rfl (lv_at hl 0 rfl) ?_
      refine gR_TuneSetterModel_triplet hx hb hw hown hK hP (hw _ m_TuneSetterModel_103) d_TuneSetterModel_inside_45 ?_
      refine lv_if_le (tgt := 54) hx hb d_TuneSetterModel_inside_48 rfl (fun q => ?_) (fun q => ?_)
      · have h := h.1 q
        refine lv_aload_n hx hb d_TuneSetterModel_inside_54 rfl (lv_at hl 0 rfl) ?_
        refine lv_iload_n hx hb d_TuneSetterModel_inside_55 rfl (lv_at hl 1 rfl) ?_
        refine lv_iload_n hx hb d_TuneSetterModel_inside_56 rfl (lv_at hl 2 rfl) ?_
        refine k_TuneSetterModel_beginLine y1 y2 (rest := []) ⟨hx, hb, hml, hown, hw⟩ hK hD hA hS hP hl.1 (hw _ m_TuneSetterModel_178) (Nat.le_of_ble_eq_true rfl) ⟨Nat.le_of_ble_eq_true rfl, Nat.le_of_ble_eq_true rfl⟩ ⟨Nat.zero_le _, Nat.zero_le _⟩ d_TuneSetterModel_inside_57 h (fun r57 I57 A57 H locs h hP hS => ?_)
        exact W.iret hx hb hr (fun t ht hW => ⟨⟨_, (I57, A57), rfl, h, endR_of ht hP⟩, hS.F ht⟩) hS.2.2 d_TuneSetterModel_inside_60
      · have h := h.2 q
        refine lv_bipush (v := (-5)) hx hb d_TuneSetterModel_inside_51 bp_m5 ?_
        exact W.iret hx hb hr (fun t ht hW => ⟨⟨_, (I38, A38), rfl, h, endR_of ht hP⟩, hS.F ht⟩) hS.2.2 d_TuneSetterModel_inside_53
  have hl := lv_entry ([.ref (a 0), .int x1, .int x2]) (n := 3) (Nat.le_of_ble_eq_true rfl)
  rw [lg_entry_eq]
  generalize (lg_sl ([.ref (a 0), .int x1, .int x2]) ++ List.replicate (3 - (lg_sl ([.ref (a 0), .int x1, .int x2])).length) Slot.unset).toArray = ls at hl ⊢
  have hl : lv_has ls 3 [(0, .ref (a 0)), (1, .int x1), (2, .int x2)] := hl
  unfold wp_TuneSetterModel_inside at h
  refine lv_iload_n hx hb d_TuneSetterModel_inside_0 rfl (lv_at hl 1 rfl) ?_
  refine lv_bipush (v := 32) hx hb d_TuneSetterModel_inside_1 bp_32 ?_
  refine lv_icmp_ne (tgt := 8) hx hb d_TuneSetterModel_inside_3 rfl (fun q => ?_) (fun q => ?_)
  · have h := h.2 q
    refine lv_iload_n hx hb d_TuneSetterModel_inside_8 rfl (lv_at hl 1 rfl) ?_
    refine lv_bipush (v := 124) hx hb d_TuneSetterModel_inside_9 bp_124 ?_
    refine lv_icmp_eq (tgt := 26) hx hb d_TuneSetterModel_inside_11 rfl (fun q => ?_) (fun q => ?_)
    · have h := h.1 q
      exact j26 x1 x2 I A _ _ _ h hP hS (lv_sub hl [0, 1, 2] rfl)
    · have h := h.2 q
      refine lv_iload_n hx hb d_TuneSetterModel_inside_14 rfl (lv_at hl 1 rfl) ?_
      refine lv_bipush (v := 58) hx hb d_TuneSetterModel_inside_15 bp_58 ?_
      refine lv_icmp_eq (tgt := 26) hx hb d_TuneSetterModel_inside_17 rfl (fun q => ?_) (fun q => ?_)
      · have h := h.1 q
        exact j26 x1 x2 I A _ _ _ h hP hS (lv_sub hl [0, 1, 2] rfl)
      · have h := h.2 q
        refine lv_aload_n hx hb d_TuneSetterModel_inside_20 rfl (lv_at hl 0 rfl) ?_
        refine lv_iload_n hx hb d_TuneSetterModel_inside_21 rfl (lv_at hl 1 rfl) ?_
        refine k_TuneSetterModel_beginItem x1 (rest := []) ⟨hx, hb, hml, hown, hw⟩ hK hD hA hS hP hl.1 (hw _ m_TuneSetterModel_196) (Nat.le_of_ble_eq_true rfl) ⟨Nat.le_of_ble_eq_true rfl, Nat.le_of_ble_eq_true rfl⟩ ⟨Nat.zero_le _, Nat.zero_le _⟩ d_TuneSetterModel_inside_22 h (fun r22 I22 A22 H locs h hP hS => ?_)
        exact W.iret hx hb hr (fun t ht hW => ⟨⟨_, (I22, A22), rfl, h, endR_of ht hP⟩, hS.F ht⟩) hS.2.2 d_TuneSetterModel_inside_25
  · have h := h.1 q
    refine lv_iconst (v := 0) hx hb d_TuneSetterModel_inside_6 ic_0 ?_
    exact W.iret hx hb hr (fun t ht hW => ⟨⟨_, (I, A), rfl, h, endR_of ht hP⟩, hS.F ht⟩) hS.2.2 d_TuneSetterModel_inside_7
theorem k_TuneSetterModel_inside {p : Program} {l : Launch} {e : Env} {R : Room} {s : State} {m : MethodId} {args : Array Value} {below : List Frame} {meth : Method} {c : Code} {H : Heap} {locs : List Loc} {cells slots : Nat} {Q : State → Prop} {cc : ByteArray} {pc nL idx : Nat} {own : String} {ls : Array Slot} {D : va_G} {cA a : Nat → Nat} {AA : Nat → Prop} {I : Nat → Int32} {A : Nat → Nat → Int32} {post : Int32 → (Nat → Int32) → (Nat → Nat → Int32) → Prop} (x1 : Int32) (x2 : Int32) {rest : List Value} (S : CallFix p m c cc nL s args WALL own) (hK : KR D cA a AA s) (hD : ∀ I A, va_D AA (wR cA a I A)) (hA : ∀ q : Nat, s.heap.size ≤ q → AA q) (hS : va_S AA s.heap H locs) (hP : va_P D cls (wR cA a I A) H) (hl1 : ls.size = nL) (hlink : (Cond.methodLink own idx y_TuneSetterModel_inside).before args s = true) (hst : (rest.map fun v => v.category).sum ≤ 8) (hR : ({ frames := 5, cells := 0, slots := 0, locals := 104 } : Room).frames + 1 ≤ R.frames ∧ 8 + (3 + 11) + ({ frames := 5, cells := 0, slots := 0, locals := 104 } : Room).locals ≤ R.locals) (hcs : cells ≤ R.cells ∧ slots ≤ R.slots) (hdg : decode cc pc = .ok (.invokevirtual idx, 3)) (h : wp_TuneSetterModel_inside x1 x2 I A post) (kk : ∀ (r : Int32) (I1 : Nat → Int32) (A1 : Nat → Nat → Int32) (H1 : Heap) (locs1 : List Loc), post r I1 A1 → va_P D cls (wR cA a I1 A1) H1 → va_S AA s.heap H1 locs1 → W p l e R s m args below meth c H1 locs1 cells slots Q (F0 m (pc + 3) ls (.int r :: rest))) : W p l e R s m args below meth c H locs cells slots Q (F0 m pc ls (.int x2 :: .int x1 :: .ref (a 0) :: rest)) :=
  va_calli (va_runV (As := [.int x1, .int x2]) (rest := rest) S (c_TuneSetterModel_inside l D cA a H.size x1 x2 I A post h) ⟨callB_of 2 S.2.2.2.2 g_TuneSetterModel_inside rfl rfl rfl (S.2.2.2.2 _ mi_TuneSetterModel) hlink ⟨by decide, by decide, by decide +kernel⟩ hR, S.2.2.2.2 _ mn_TuneSetterModel_inside, S.2.2.2.2 _ ms_TuneSetterModel_inside⟩ (preRV hK hD hA hS hP 0 rfl rfl) rfl rfl hl1 rfl (lv_room hst) hdg hcs) hS (fun q _ z => AR_le hD hA hS q z) (fun q z => AR_le hD hA hS q z) (fun r u t H1 locs1 ht _ hp hB _ _ hS1 => kk r u.1 u.2 H1 locs1 hp (of_endR ht hB) hS1)
def wp_TuneSetterModel_go_234 (post : Int32 → (Nat → Int32) → (Nat → Nat → Int32) → Prop) (y1 : Int32) (s0 : Int32) (s1 : Int32) (I : Nat → Int32) (A : Nat → Nat → Int32) : Prop := ((y1 = 44 → post 0 (upd (upd I 17 (s1 + s0)) 18 (-1)) A) ∧ (¬ y1 = 44 → post 0 (upd (upd I 17 (s1 + s0)) 18 1) A))
def wp_TuneSetterModel_go_128 (post : Int32 → (Nat → Int32) → (Nat → Nat → Int32) → Prop) (y1 : Int32) (I : Nat → Int32) (A : Nat → Nat → Int32) : Prop := (vp_in ((I 5) - 1) 8 ∧ post 0 (upd I 9 5) (upd2 A 3 (((I 5) - 1).toNatClampNeg) (y1 - 48)))
def wp_TuneSetterModel_go (x1 : Int32) (x2 : Int32) (I : Nat → Int32) (A : Nat → Nat → Int32) (post : Int32 → (Nat → Int32) → (Nat → Nat → Int32) → Prop) : Prop := (((I 9) = 0 → ((x1 = 32 → post 0 I A) ∧ (¬ x1 = 32 → ((x1 = 124 → (wp_TuneSetterModel_beginLine x1 x2 I A (fun r89 I89 A89 => post r89 I89 A89))) ∧ (¬ x1 = 124 → ((x1 = 58 → (wp_TuneSetterModel_beginLine x1 x2 I A (fun r89 I89 A89 => post r89 I89 A89))) ∧ (¬ x1 = 58 → (wp_TuneSetterModel_beginBar x1 x2 I A (fun r98 I98 A98 => post r98 I98 A98))))))))) ∧ ((I 9) = 1 → (wp_TuneSetterModel_goOnLine x1 x2 I A (fun r105 I105 A105 => post r105 I105 A105))) ∧ ((I 9) = 2 → (wp_TuneSetterModel_goOnLine x1 x2 I A (fun r105 I105 A105 => post r105 I105 A105))) ∧ ((I 9) = 3 → (wp_TuneSetterModel_behind x1 x2 I A (fun r112 I112 A112 => post r112 I112 A112))) ∧ ((I 9) = 4 → ((x1 = 49 → wp_TuneSetterModel_go_128 post x1 I A) ∧ (¬ x1 = 49 → ((x1 = 50 → wp_TuneSetterModel_go_128 post x1 I A) ∧ (¬ x1 = 50 → (wp_TuneSetterModel_openItem I A (fun I151 A151 => (wp_TuneSetterModel_openChord x1 I151 A151 (fun r156 I156 A156 => post r156 I156 A156))))))))) ∧ ((I 9) = 5 → ((x1 = 32 → post 0 I A) ∧ (¬ x1 = 32 → (wp_TuneSetterModel_beginItem x1 I A (fun r172 I172 A172 => post r172 I172 A172))))) ∧ ((I 9) = 6 → ((x1 = 51 → post 0 (upd I 9 7) A) ∧ (¬ x1 = 51 → post (-2) (upd I 9 7) A))) ∧ ((I 9) = 7 → ((x1 = 40 → post (-2) I A) ∧ (¬ x1 = 40 → (wp_TuneSetterModel_core x1 I A (fun r208 I208 A208 => post r208 I208 A208))))) ∧ ((I 9) = 8 → (wp_TuneSetterModel_goOnSign x1 I A (fun r214 I214 A214 => post r214 I214 A214))) ∧ ((I 9) = 9 → ((x1 = 44 → wp_TuneSetterModel_go_234 post x1 (-1) (I 17) I A) ∧ (¬ x1 = 44 → wp_TuneSetterModel_go_234 post x1 1 (I 17) I A))) ∧ ((I 9) = 10 → (wp_TuneSetterModel_inChord x1 I A (fun r257 I257 A257 => post r257 I257 A257))) ∧ (¬ (I 9) = 0 → ¬ (I 9) = 1 → ¬ (I 9) = 2 → ¬ (I 9) = 3 → ¬ (I 9) = 4 → ¬ (I 9) = 5 → ¬ (I 9) = 6 → ¬ (I 9) = 7 → ¬ (I 9) = 8 → ¬ (I 9) = 9 → ¬ (I 9) = 10 → (wp_TuneSetterModel_inside x1 x2 I A (fun r264 I264 A264 => post r264 I264 A264))))
theorem d_TuneSetterModel_go_0 : decode b_TuneSetterModel_go 0 = .ok (.aload_n 0, 1) := by decide +kernel
theorem d_TuneSetterModel_go_1 : decode b_TuneSetterModel_go 1 = .ok (.getfield 100, 3) := by decide +kernel
theorem d_TuneSetterModel_go_4 : decode b_TuneSetterModel_go 4 = .ok (.tableswitch 257 0 10 #[60, 98, 98, 105, 112, 156, 172, 191, 208, 214, 251], 60) := by decide +kernel
theorem d_TuneSetterModel_go_64 : decode b_TuneSetterModel_go 64 = .ok (.iload_n 1, 1) := by decide +kernel
theorem d_TuneSetterModel_go_65 : decode b_TuneSetterModel_go 65 = .ok (.bipush 32, 2) := by decide +kernel
theorem d_TuneSetterModel_go_67 : decode b_TuneSetterModel_go 67 = .ok (.if_icmp .ne 7, 3) := by decide +kernel
theorem d_TuneSetterModel_go_70 : decode b_TuneSetterModel_go 70 = .ok (.iconst 0, 1) := by decide +kernel
theorem d_TuneSetterModel_go_71 : decode b_TuneSetterModel_go 71 = .ok (.goto 30, 3) := by decide +kernel
theorem d_TuneSetterModel_go_74 : decode b_TuneSetterModel_go 74 = .ok (.iload_n 1, 1) := by decide +kernel
theorem d_TuneSetterModel_go_75 : decode b_TuneSetterModel_go 75 = .ok (.bipush 124, 2) := by decide +kernel
theorem d_TuneSetterModel_go_77 : decode b_TuneSetterModel_go 77 = .ok (.if_icmp .eq 9, 3) := by decide +kernel
theorem d_TuneSetterModel_go_80 : decode b_TuneSetterModel_go 80 = .ok (.iload_n 1, 1) := by decide +kernel
theorem d_TuneSetterModel_go_81 : decode b_TuneSetterModel_go 81 = .ok (.bipush 58, 2) := by decide +kernel
theorem d_TuneSetterModel_go_83 : decode b_TuneSetterModel_go 83 = .ok (.if_icmp .ne 12, 3) := by decide +kernel
theorem d_TuneSetterModel_go_86 : decode b_TuneSetterModel_go 86 = .ok (.aload_n 0, 1) := by decide +kernel
theorem d_TuneSetterModel_go_87 : decode b_TuneSetterModel_go 87 = .ok (.iload_n 1, 1) := by decide +kernel
theorem d_TuneSetterModel_go_88 : decode b_TuneSetterModel_go 88 = .ok (.iload_n 2, 1) := by decide +kernel
theorem d_TuneSetterModel_go_89 : decode b_TuneSetterModel_go 89 = .ok (.invokevirtual 178, 3) := by decide +kernel
theorem d_TuneSetterModel_go_92 : decode b_TuneSetterModel_go 92 = .ok (.goto 9, 3) := by decide +kernel
theorem d_TuneSetterModel_go_95 : decode b_TuneSetterModel_go 95 = .ok (.aload_n 0, 1) := by decide +kernel
theorem d_TuneSetterModel_go_96 : decode b_TuneSetterModel_go 96 = .ok (.iload_n 1, 1) := by decide +kernel
theorem d_TuneSetterModel_go_97 : decode b_TuneSetterModel_go 97 = .ok (.iload_n 2, 1) := by decide +kernel
theorem d_TuneSetterModel_go_98 : decode b_TuneSetterModel_go 98 = .ok (.invokevirtual 181, 3) := by decide +kernel
theorem d_TuneSetterModel_go_101 : decode b_TuneSetterModel_go 101 = .ok (.ireturn, 1) := by decide +kernel
theorem d_TuneSetterModel_go_102 : decode b_TuneSetterModel_go 102 = .ok (.aload_n 0, 1) := by decide +kernel
theorem d_TuneSetterModel_go_103 : decode b_TuneSetterModel_go 103 = .ok (.iload_n 1, 1) := by decide +kernel
theorem d_TuneSetterModel_go_104 : decode b_TuneSetterModel_go 104 = .ok (.iload_n 2, 1) := by decide +kernel
theorem d_TuneSetterModel_go_105 : decode b_TuneSetterModel_go 105 = .ok (.invokevirtual 184, 3) := by decide +kernel
theorem d_TuneSetterModel_go_108 : decode b_TuneSetterModel_go 108 = .ok (.ireturn, 1) := by decide +kernel
theorem d_TuneSetterModel_go_109 : decode b_TuneSetterModel_go 109 = .ok (.aload_n 0, 1) := by decide +kernel
theorem d_TuneSetterModel_go_110 : decode b_TuneSetterModel_go 110 = .ok (.iload_n 1, 1) := by decide +kernel
theorem d_TuneSetterModel_go_111 : decode b_TuneSetterModel_go 111 = .ok (.iload_n 2, 1) := by decide +kernel
theorem d_TuneSetterModel_go_112 : decode b_TuneSetterModel_go 112 = .ok (.invokevirtual 187, 3) := by decide +kernel
theorem d_TuneSetterModel_go_115 : decode b_TuneSetterModel_go 115 = .ok (.ireturn, 1) := by decide +kernel
theorem d_TuneSetterModel_go_116 : decode b_TuneSetterModel_go 116 = .ok (.iload_n 1, 1) := by decide +kernel
theorem d_TuneSetterModel_go_117 : decode b_TuneSetterModel_go 117 = .ok (.bipush 49, 2) := by decide +kernel
theorem d_TuneSetterModel_go_119 : decode b_TuneSetterModel_go 119 = .ok (.if_icmp .eq 9, 3) := by decide +kernel
theorem d_TuneSetterModel_go_122 : decode b_TuneSetterModel_go 122 = .ok (.iload_n 1, 1) := by decide +kernel
theorem d_TuneSetterModel_go_123 : decode b_TuneSetterModel_go 123 = .ok (.bipush 50, 2) := by decide +kernel
theorem d_TuneSetterModel_go_125 : decode b_TuneSetterModel_go 125 = .ok (.if_icmp .ne 25, 3) := by decide +kernel
theorem d_TuneSetterModel_go_128 : decode b_TuneSetterModel_go 128 = .ok (.aload_n 0, 1) := by decide +kernel
theorem d_TuneSetterModel_go_129 : decode b_TuneSetterModel_go 129 = .ok (.getfield 29, 3) := by decide +kernel
theorem d_TuneSetterModel_go_132 : decode b_TuneSetterModel_go 132 = .ok (.aload_n 0, 1) := by decide +kernel
theorem d_TuneSetterModel_go_133 : decode b_TuneSetterModel_go 133 = .ok (.getfield 87, 3) := by decide +kernel
theorem d_TuneSetterModel_go_136 : decode b_TuneSetterModel_go 136 = .ok (.iconst 1, 1) := by decide +kernel
theorem d_TuneSetterModel_go_137 : decode b_TuneSetterModel_go 137 = .ok (.isub, 1) := by decide +kernel
theorem d_TuneSetterModel_go_138 : decode b_TuneSetterModel_go 138 = .ok (.iload_n 1, 1) := by decide +kernel
theorem d_TuneSetterModel_go_139 : decode b_TuneSetterModel_go 139 = .ok (.bipush 48, 2) := by decide +kernel
theorem d_TuneSetterModel_go_141 : decode b_TuneSetterModel_go 141 = .ok (.isub, 1) := by decide +kernel
theorem d_TuneSetterModel_go_142 : decode b_TuneSetterModel_go 142 = .ok (.iastore, 1) := by decide +kernel
theorem d_TuneSetterModel_go_143 : decode b_TuneSetterModel_go 143 = .ok (.aload_n 0, 1) := by decide +kernel
theorem d_TuneSetterModel_go_144 : decode b_TuneSetterModel_go 144 = .ok (.iconst 5, 1) := by decide +kernel
theorem d_TuneSetterModel_go_145 : decode b_TuneSetterModel_go 145 = .ok (.putfield 100, 3) := by decide +kernel
theorem d_TuneSetterModel_go_148 : decode b_TuneSetterModel_go 148 = .ok (.iconst 0, 1) := by decide +kernel
theorem d_TuneSetterModel_go_149 : decode b_TuneSetterModel_go 149 = .ok (.ireturn, 1) := by decide +kernel
theorem d_TuneSetterModel_go_150 : decode b_TuneSetterModel_go 150 = .ok (.aload_n 0, 1) := by decide +kernel
theorem d_TuneSetterModel_go_151 : decode b_TuneSetterModel_go 151 = .ok (.invokevirtual 190, 3) := by decide +kernel
theorem d_TuneSetterModel_go_154 : decode b_TuneSetterModel_go 154 = .ok (.aload_n 0, 1) := by decide +kernel
theorem d_TuneSetterModel_go_155 : decode b_TuneSetterModel_go 155 = .ok (.iload_n 1, 1) := by decide +kernel
theorem d_TuneSetterModel_go_156 : decode b_TuneSetterModel_go 156 = .ok (.invokevirtual 193, 3) := by decide +kernel
theorem d_TuneSetterModel_go_159 : decode b_TuneSetterModel_go 159 = .ok (.ireturn, 1) := by decide +kernel
theorem d_TuneSetterModel_go_160 : decode b_TuneSetterModel_go 160 = .ok (.iload_n 1, 1) := by decide +kernel
theorem d_TuneSetterModel_go_161 : decode b_TuneSetterModel_go 161 = .ok (.bipush 32, 2) := by decide +kernel
theorem d_TuneSetterModel_go_163 : decode b_TuneSetterModel_go 163 = .ok (.if_icmp .ne 7, 3) := by decide +kernel
theorem d_TuneSetterModel_go_166 : decode b_TuneSetterModel_go 166 = .ok (.iconst 0, 1) := by decide +kernel
theorem d_TuneSetterModel_go_167 : decode b_TuneSetterModel_go 167 = .ok (.goto 8, 3) := by decide +kernel
theorem d_TuneSetterModel_go_170 : decode b_TuneSetterModel_go 170 = .ok (.aload_n 0, 1) := by decide +kernel
theorem d_TuneSetterModel_go_171 : decode b_TuneSetterModel_go 171 = .ok (.iload_n 1, 1) := by decide +kernel
theorem d_TuneSetterModel_go_172 : decode b_TuneSetterModel_go 172 = .ok (.invokevirtual 196, 3) := by decide +kernel
theorem d_TuneSetterModel_go_175 : decode b_TuneSetterModel_go 175 = .ok (.ireturn, 1) := by decide +kernel
theorem d_TuneSetterModel_go_176 : decode b_TuneSetterModel_go 176 = .ok (.aload_n 0, 1) := by decide +kernel
theorem d_TuneSetterModel_go_177 : decode b_TuneSetterModel_go 177 = .ok (.bipush 7, 2) := by decide +kernel
theorem d_TuneSetterModel_go_179 : decode b_TuneSetterModel_go 179 = .ok (.putfield 100, 3) := by decide +kernel
theorem d_TuneSetterModel_go_182 : decode b_TuneSetterModel_go 182 = .ok (.iload_n 1, 1) := by decide +kernel
theorem d_TuneSetterModel_go_183 : decode b_TuneSetterModel_go 183 = .ok (.bipush 51, 2) := by decide +kernel
theorem d_TuneSetterModel_go_185 : decode b_TuneSetterModel_go 185 = .ok (.if_icmp .ne 7, 3) := by decide +kernel
theorem d_TuneSetterModel_go_188 : decode b_TuneSetterModel_go 188 = .ok (.iconst 0, 1) := by decide +kernel
theorem d_TuneSetterModel_go_189 : decode b_TuneSetterModel_go 189 = .ok (.goto 5, 3) := by decide +kernel
theorem d_TuneSetterModel_go_192 : decode b_TuneSetterModel_go 192 = .ok (.bipush (-2), 2) := by decide +kernel
theorem d_TuneSetterModel_go_194 : decode b_TuneSetterModel_go 194 = .ok (.ireturn, 1) := by decide +kernel
theorem d_TuneSetterModel_go_195 : decode b_TuneSetterModel_go 195 = .ok (.iload_n 1, 1) := by decide +kernel
theorem d_TuneSetterModel_go_196 : decode b_TuneSetterModel_go 196 = .ok (.bipush 40, 2) := by decide +kernel
theorem d_TuneSetterModel_go_198 : decode b_TuneSetterModel_go 198 = .ok (.if_icmp .ne 8, 3) := by decide +kernel
theorem d_TuneSetterModel_go_201 : decode b_TuneSetterModel_go 201 = .ok (.bipush (-2), 2) := by decide +kernel
theorem d_TuneSetterModel_go_203 : decode b_TuneSetterModel_go 203 = .ok (.goto 8, 3) := by decide +kernel
theorem d_TuneSetterModel_go_206 : decode b_TuneSetterModel_go 206 = .ok (.aload_n 0, 1) := by decide +kernel
theorem d_TuneSetterModel_go_207 : decode b_TuneSetterModel_go 207 = .ok (.iload_n 1, 1) := by decide +kernel
theorem d_TuneSetterModel_go_208 : decode b_TuneSetterModel_go 208 = .ok (.invokevirtual 199, 3) := by decide +kernel
theorem d_TuneSetterModel_go_211 : decode b_TuneSetterModel_go 211 = .ok (.ireturn, 1) := by decide +kernel
theorem d_TuneSetterModel_go_212 : decode b_TuneSetterModel_go 212 = .ok (.aload_n 0, 1) := by decide +kernel
theorem d_TuneSetterModel_go_213 : decode b_TuneSetterModel_go 213 = .ok (.iload_n 1, 1) := by decide +kernel
theorem d_TuneSetterModel_go_214 : decode b_TuneSetterModel_go 214 = .ok (.invokevirtual 202, 3) := by decide +kernel
theorem d_TuneSetterModel_go_217 : decode b_TuneSetterModel_go 217 = .ok (.ireturn, 1) := by decide +kernel
theorem d_TuneSetterModel_go_218 : decode b_TuneSetterModel_go 218 = .ok (.aload_n 0, 1) := by decide +kernel
theorem d_TuneSetterModel_go_219 : decode b_TuneSetterModel_go 219 = .ok (.dup, 1) := by decide +kernel
theorem d_TuneSetterModel_go_220 : decode b_TuneSetterModel_go 220 = .ok (.getfield 205, 3) := by decide +kernel
theorem d_TuneSetterModel_go_223 : decode b_TuneSetterModel_go 223 = .ok (.iload_n 1, 1) := by decide +kernel
theorem d_TuneSetterModel_go_224 : decode b_TuneSetterModel_go 224 = .ok (.bipush 44, 2) := by decide +kernel
theorem d_TuneSetterModel_go_226 : decode b_TuneSetterModel_go 226 = .ok (.if_icmp .ne 7, 3) := by decide +kernel
theorem d_TuneSetterModel_go_229 : decode b_TuneSetterModel_go 229 = .ok (.iconst (-1), 1) := by decide +kernel
theorem d_TuneSetterModel_go_230 : decode b_TuneSetterModel_go 230 = .ok (.goto 4, 3) := by decide +kernel
theorem d_TuneSetterModel_go_233 : decode b_TuneSetterModel_go 233 = .ok (.iconst 1, 1) := by decide +kernel
theorem d_TuneSetterModel_go_234 : decode b_TuneSetterModel_go 234 = .ok (.iadd, 1) := by decide +kernel
theorem d_TuneSetterModel_go_235 : decode b_TuneSetterModel_go 235 = .ok (.putfield 205, 3) := by decide +kernel
theorem d_TuneSetterModel_go_238 : decode b_TuneSetterModel_go 238 = .ok (.aload_n 0, 1) := by decide +kernel
theorem d_TuneSetterModel_go_239 : decode b_TuneSetterModel_go 239 = .ok (.iload_n 1, 1) := by decide +kernel
theorem d_TuneSetterModel_go_240 : decode b_TuneSetterModel_go 240 = .ok (.bipush 44, 2) := by decide +kernel
theorem d_TuneSetterModel_go_242 : decode b_TuneSetterModel_go 242 = .ok (.if_icmp .ne 7, 3) := by decide +kernel
theorem d_TuneSetterModel_go_245 : decode b_TuneSetterModel_go 245 = .ok (.iconst (-1), 1) := by decide +kernel
theorem d_TuneSetterModel_go_246 : decode b_TuneSetterModel_go 246 = .ok (.goto 4, 3) := by decide +kernel
theorem d_TuneSetterModel_go_249 : decode b_TuneSetterModel_go 249 = .ok (.iconst 1, 1) := by decide +kernel
theorem d_TuneSetterModel_go_250 : decode b_TuneSetterModel_go 250 = .ok (.putfield 122, 3) := by decide +kernel
theorem d_TuneSetterModel_go_253 : decode b_TuneSetterModel_go 253 = .ok (.iconst 0, 1) := by decide +kernel
theorem d_TuneSetterModel_go_254 : decode b_TuneSetterModel_go 254 = .ok (.ireturn, 1) := by decide +kernel
theorem d_TuneSetterModel_go_255 : decode b_TuneSetterModel_go 255 = .ok (.aload_n 0, 1) := by decide +kernel
theorem d_TuneSetterModel_go_256 : decode b_TuneSetterModel_go 256 = .ok (.iload_n 1, 1) := by decide +kernel
theorem d_TuneSetterModel_go_257 : decode b_TuneSetterModel_go 257 = .ok (.invokevirtual 172, 3) := by decide +kernel
theorem d_TuneSetterModel_go_260 : decode b_TuneSetterModel_go 260 = .ok (.ireturn, 1) := by decide +kernel
theorem d_TuneSetterModel_go_261 : decode b_TuneSetterModel_go 261 = .ok (.aload_n 0, 1) := by decide +kernel
theorem d_TuneSetterModel_go_262 : decode b_TuneSetterModel_go 262 = .ok (.iload_n 1, 1) := by decide +kernel
theorem d_TuneSetterModel_go_263 : decode b_TuneSetterModel_go 263 = .ok (.iload_n 2, 1) := by decide +kernel
theorem d_TuneSetterModel_go_264 : decode b_TuneSetterModel_go 264 = .ok (.invokevirtual 166, 3) := by decide +kernel
theorem d_TuneSetterModel_go_267 : decode b_TuneSetterModel_go 267 = .ok (.ireturn, 1) := by decide +kernel
def w_TuneSetterModel_go : List Cond := .code y_TuneSetterModel_go b_TuneSetterModel_go 3 (some .int) :: WALL
theorem g_TuneSetterModel_go : GoodIn WALL w_TuneSetterModel_go := good_of mc_TuneSetterModel_go
set_option maxHeartbeats 4000000 in
set_option maxRecDepth 100000 in
theorem c_TuneSetterModel_go (l : Launch) (D : va_G) (cA a : Nat → Nat) (sz : Nat) (x1 : Int32) (x2 : Int32) (I : Nat → Int32) (A : Nat → Nat → Int32) (post : Int32 → (Nat → Int32) → (Nat → Nat → Int32) → Prop) (h : wp_TuneSetterModel_go x1 x2 I A post) : Met l y_TuneSetterModel_go w_TuneSetterModel_go ({ frames := 8, cells := 0, slots := 0, locals := 173 }) (va_Pc [.ref (a 0), .int x1, .int x2] (PreR D cA a I A sz)) (va_Qi (fun r (u : StW) => post r u.1 u.2) (EndR D cA a) (AR a sz)) 0 0 (AR a sz) := by
  refine Met.ofW (cc := b_TuneSetterModel_go) (maxL := 3) (ret := (some .int)) (by decide) rfl ?_
  intro p e s m args below meth c s₁ B hml hv
  obtain ⟨rfl, hsz, hP, hK, hD0⟩ := hv
  have hx := B.exec
  have hb := B.bytes
  have hr := B.returns
  have hts := atoms_spec (ws := w_TuneSetterModel_go) B.pre
  have hw := wall_of hts
  have hown : s.vm.findClass R_TuneSetterModel = some m.cls := findClass_of_methodNamed B.named
  have hlocks := B.notSynchronized
  subst hsz
  have hD := hDR (sz := s.heap.size) hD0
  have hA : ∀ q : Nat, s.heap.size ≤ q → AR a s.heap.size q := fun q h => Or.inr h
  have hS : va_S (AR a s.heap.size) s.heap s.heap [] := va_S.rf
  have j234 : ∀ (y1 : Int32) (s0 : Int32) (s1 : Int32) (I : Nat → Int32) (A : Nat → Nat → Int32) (H : Heap) (locs : List Loc) (ls : Array Slot), wp_TuneSetterModel_go_234 post y1 s0 s1 I A → va_P D cls (wR cA a I A) H → va_S (AR a s.heap.size) s.heap H locs → lv_has ls 3 [(0, .ref (a 0)), (1, .int y1)] → W p l e (headSpec w_TuneSetterModel_go ({ frames := 8, cells := 0, slots := 0, locals := 173 })).room s m [.ref (a 0), .int x1, .int x2].toArray below meth c H locs 0 0 (MQ below (va_Qi (fun r (u : StW) => post r u.1 u.2) (EndR D cA a) (AR a s.heap.size)) [.ref (a 0), .int x1, .int x2].toArray s 0 0 (AR a s.heap.size)) (F0 m 234 ls [.int s0, .int s1, .ref (a 0)]) := by
    intro y1 s0 s1 I A H locs ls h hP hS hl
    unfold wp_TuneSetterModel_go_234 at h
    refine lv_iadd hx hb d_TuneSetterModel_go_234 ?_
    refine pR_TuneSetterModel_octave hx hb hw hown hK hD hS hP (hw _ m_TuneSetterModel_205) d_TuneSetterModel_go_235 (fun H locs hP hS => ?_)
    refine lv_aload_n hx hb d_TuneSetterModel_go_238 rfl (lv_at hl 0 rfl) ?_
    refine lv_iload_n hx hb d_TuneSetterModel_go_239 rfl (lv_at hl 1 rfl) ?_
    refine lv_bipush (v := 44) hx hb d_TuneSetterModel_go_240 bp_44 ?_
    refine lv_icmp_ne (tgt := 249) hx hb d_TuneSetterModel_go_242 rfl (fun q => ?_) (fun q => ?_)
    · have h := h.2 q
      refine lv_iconst (v := 1) hx hb d_TuneSetterModel_go_249 ic_1 ?_
      refine pR_TuneSetterModel_marks hx hb hw hown hK hD hS hP (hw _ m_TuneSetterModel_122) d_TuneSetterModel_go_250 (fun H locs hP hS => ?_)
      refine lv_iconst (v := 0) hx hb d_TuneSetterModel_go_253 ic_0 ?_
      exact W.iret hx hb hr (fun t ht hW => ⟨⟨_, ((upd (upd I 17 (s1 + s0)) 18 1), A), rfl, h, endR_of ht hP⟩, hS.F ht⟩) hS.2.2 d_TuneSetterModel_go_254
    · have h := h.1 q
      refine lv_iconst (v := (-1)) hx hb d_TuneSetterModel_go_245 ic_m1 ?_
      refine lv_goto (tgt := 250) hx hb d_TuneSetterModel_go_246 rfl ?_
      refine pR_TuneSetterModel_marks hx hb hw hown hK hD hS hP (hw _ m_TuneSetterModel_122) d_TuneSetterModel_go_250 (fun H locs hP hS => ?_)
      refine lv_iconst (v := 0) hx hb d_TuneSetterModel_go_253 ic_0 ?_
      exact W.iret hx hb hr (fun t ht hW => ⟨⟨_, ((upd (upd I 17 (s1 + s0)) 18 (-1)), A), rfl, h, endR_of ht hP⟩, hS.F ht⟩) hS.2.2 d_TuneSetterModel_go_254
  have j128 : ∀ (y1 : Int32) (I : Nat → Int32) (A : Nat → Nat → Int32) (H : Heap) (locs : List Loc) (ls : Array Slot), wp_TuneSetterModel_go_128 post y1 I A → va_P D cls (wR cA a I A) H → va_S (AR a s.heap.size) s.heap H locs → lv_has ls 3 [(0, .ref (a 0)), (1, .int y1)] → W p l e (headSpec w_TuneSetterModel_go ({ frames := 8, cells := 0, slots := 0, locals := 173 })).room s m [.ref (a 0), .int x1, .int x2].toArray below meth c H locs 0 0 (MQ below (va_Qi (fun r (u : StW) => post r u.1 u.2) (EndR D cA a) (AR a s.heap.size)) [.ref (a 0), .int x1, .int x2].toArray s 0 0 (AR a s.heap.size)) (F0 m 128 ls []) := by
    intro y1 I A H locs ls h hP hS hl
    unfold wp_TuneSetterModel_go_128 at h
    refine lv_aload_n hx hb d_TuneSetterModel_go_128 rfl (lv_at hl 0 rfl) ?_
    refine gR_TuneSetterModel_ending hx hb hw hown hK hP (hw _ m_TuneSetterModel_29) d_TuneSetterModel_go_129 ?_
    refine lv_aload_n hx hb d_TuneSetterModel_go_132 rfl (lv_at hl 0 rfl) ?_
    refine gR_TuneSetterModel_bars hx hb hw hown hK hP (hw _ m_TuneSetterModel_87) d_TuneSetterModel_go_133 ?_
    refine lv_iconst (v := 1) hx hb d_TuneSetterModel_go_136 ic_1 ?_
    refine lv_isub hx hb d_TuneSetterModel_go_137 ?_
    refine lv_iload_n hx hb d_TuneSetterModel_go_138 rfl (lv_at hl 1 rfl) ?_
    refine lv_bipush (v := 48) hx hb d_TuneSetterModel_go_139 bp_48 ?_
    refine lv_isub hx hb d_TuneSetterModel_go_141 ?_
    obtain ⟨hin, h⟩ := h
    refine sR3 hx hb hK hD hS hP hin d_TuneSetterModel_go_142 (fun H locs hP hS => ?_)
    refine lv_aload_n hx hb d_TuneSetterModel_go_143 rfl (lv_at hl 0 rfl) ?_
    refine lv_iconst (v := 5) hx hb d_TuneSetterModel_go_144 ic_5 ?_
    refine pR_TuneSetterModel_state hx hb hw hown hK hD hS hP (hw _ m_TuneSetterModel_100) d_TuneSetterModel_go_145 (fun H locs hP hS => ?_)
    refine lv_iconst (v := 0) hx hb d_TuneSetterModel_go_148 ic_0 ?_
    exact W.iret hx hb hr (fun t ht hW => ⟨⟨_, ((upd I 9 5), (upd2 A 3 (((I 5) - 1).toNatClampNeg) (y1 - 48))), rfl, h, endR_of ht hP⟩, hS.F ht⟩) hS.2.2 d_TuneSetterModel_go_149
  have hl := lv_entry ([.ref (a 0), .int x1, .int x2]) (n := 3) (Nat.le_of_ble_eq_true rfl)
  rw [lg_entry_eq]
  generalize (lg_sl ([.ref (a 0), .int x1, .int x2]) ++ List.replicate (3 - (lg_sl ([.ref (a 0), .int x1, .int x2])).length) Slot.unset).toArray = ls at hl ⊢
  have hl : lv_has ls 3 [(0, .ref (a 0)), (1, .int x1), (2, .int x2)] := hl
  unfold wp_TuneSetterModel_go at h
  refine lv_aload_n hx hb d_TuneSetterModel_go_0 rfl (lv_at hl 0 rfl) ?_
  refine gR_TuneSetterModel_state hx hb hw hown hK hP (hw _ m_TuneSetterModel_100) d_TuneSetterModel_go_1 ?_
  by_cases q0 : (I 9) = 0
  · have h := h.1 q0
    refine lv_tableIn (off := 60) (tgt := 64) hx hb d_TuneSetterModel_go_4 (by rw [q0]; decide) (by rw [q0]; decide) (by rw [q0]; rfl) rfl ?_
    refine lv_iload_n hx hb d_TuneSetterModel_go_64 rfl (lv_at hl 1 rfl) ?_
    refine lv_bipush (v := 32) hx hb d_TuneSetterModel_go_65 bp_32 ?_
    refine lv_icmp_ne (tgt := 74) hx hb d_TuneSetterModel_go_67 rfl (fun q => ?_) (fun q => ?_)
    · have h := h.2 q
      refine lv_iload_n hx hb d_TuneSetterModel_go_74 rfl (lv_at hl 1 rfl) ?_
      refine lv_bipush (v := 124) hx hb d_TuneSetterModel_go_75 bp_124 ?_
      refine lv_icmp_eq (tgt := 86) hx hb d_TuneSetterModel_go_77 rfl (fun q => ?_) (fun q => ?_)
      · have h := h.1 q
        refine lv_aload_n hx hb d_TuneSetterModel_go_86 rfl (lv_at hl 0 rfl) ?_
        refine lv_iload_n hx hb d_TuneSetterModel_go_87 rfl (lv_at hl 1 rfl) ?_
        refine lv_iload_n hx hb d_TuneSetterModel_go_88 rfl (lv_at hl 2 rfl) ?_
        refine k_TuneSetterModel_beginLine x1 x2 (rest := []) ⟨hx, hb, hml, hown, hw⟩ hK hD hA hS hP hl.1 (hw _ m_TuneSetterModel_178) (Nat.le_of_ble_eq_true rfl) ⟨Nat.le_of_ble_eq_true rfl, Nat.le_of_ble_eq_true rfl⟩ ⟨Nat.zero_le _, Nat.zero_le _⟩ d_TuneSetterModel_go_89 h (fun r89 I89 A89 H locs h hP hS => ?_)
        refine lv_goto (tgt := 101) hx hb d_TuneSetterModel_go_92 rfl ?_
        exact W.iret hx hb hr (fun t ht hW => ⟨⟨_, (I89, A89), rfl, h, endR_of ht hP⟩, hS.F ht⟩) hS.2.2 d_TuneSetterModel_go_101
      · have h := h.2 q
        refine lv_iload_n hx hb d_TuneSetterModel_go_80 rfl (lv_at hl 1 rfl) ?_
        refine lv_bipush (v := 58) hx hb d_TuneSetterModel_go_81 bp_58 ?_
        refine lv_icmp_ne (tgt := 95) hx hb d_TuneSetterModel_go_83 rfl (fun q => ?_) (fun q => ?_)
        · have h := h.2 q
          refine lv_aload_n hx hb d_TuneSetterModel_go_95 rfl (lv_at hl 0 rfl) ?_
          refine lv_iload_n hx hb d_TuneSetterModel_go_96 rfl (lv_at hl 1 rfl) ?_
          refine lv_iload_n hx hb d_TuneSetterModel_go_97 rfl (lv_at hl 2 rfl) ?_
          refine k_TuneSetterModel_beginBar x1 x2 (rest := []) ⟨hx, hb, hml, hown, hw⟩ hK hD hA hS hP hl.1 (hw _ m_TuneSetterModel_181) (Nat.le_of_ble_eq_true rfl) ⟨Nat.le_of_ble_eq_true rfl, Nat.le_of_ble_eq_true rfl⟩ ⟨Nat.zero_le _, Nat.zero_le _⟩ d_TuneSetterModel_go_98 h (fun r98 I98 A98 H locs h hP hS => ?_)
          exact W.iret hx hb hr (fun t ht hW => ⟨⟨_, (I98, A98), rfl, h, endR_of ht hP⟩, hS.F ht⟩) hS.2.2 d_TuneSetterModel_go_101
        · have h := h.1 q
          refine lv_aload_n hx hb d_TuneSetterModel_go_86 rfl (lv_at hl 0 rfl) ?_
          refine lv_iload_n hx hb d_TuneSetterModel_go_87 rfl (lv_at hl 1 rfl) ?_
          refine lv_iload_n hx hb d_TuneSetterModel_go_88 rfl (lv_at hl 2 rfl) ?_
          refine k_TuneSetterModel_beginLine x1 x2 (rest := []) ⟨hx, hb, hml, hown, hw⟩ hK hD hA hS hP hl.1 (hw _ m_TuneSetterModel_178) (Nat.le_of_ble_eq_true rfl) ⟨Nat.le_of_ble_eq_true rfl, Nat.le_of_ble_eq_true rfl⟩ ⟨Nat.zero_le _, Nat.zero_le _⟩ d_TuneSetterModel_go_89 h (fun r89 I89 A89 H locs h hP hS => ?_)
          refine lv_goto (tgt := 101) hx hb d_TuneSetterModel_go_92 rfl ?_
          exact W.iret hx hb hr (fun t ht hW => ⟨⟨_, (I89, A89), rfl, h, endR_of ht hP⟩, hS.F ht⟩) hS.2.2 d_TuneSetterModel_go_101
    · have h := h.1 q
      refine lv_iconst (v := 0) hx hb d_TuneSetterModel_go_70 ic_0 ?_
      refine lv_goto (tgt := 101) hx hb d_TuneSetterModel_go_71 rfl ?_
      exact W.iret hx hb hr (fun t ht hW => ⟨⟨_, (I, A), rfl, h, endR_of ht hP⟩, hS.F ht⟩) hS.2.2 d_TuneSetterModel_go_101
  by_cases q1 : (I 9) = 1
  · have h := h.2.1 q1
    refine lv_tableIn (off := 98) (tgt := 102) hx hb d_TuneSetterModel_go_4 (by rw [q1]; decide) (by rw [q1]; decide) (by rw [q1]; rfl) rfl ?_
    refine lv_aload_n hx hb d_TuneSetterModel_go_102 rfl (lv_at hl 0 rfl) ?_
    refine lv_iload_n hx hb d_TuneSetterModel_go_103 rfl (lv_at hl 1 rfl) ?_
    refine lv_iload_n hx hb d_TuneSetterModel_go_104 rfl (lv_at hl 2 rfl) ?_
    refine k_TuneSetterModel_goOnLine x1 x2 (rest := []) ⟨hx, hb, hml, hown, hw⟩ hK hD hA hS hP hl.1 (hw _ m_TuneSetterModel_184) (Nat.le_of_ble_eq_true rfl) ⟨Nat.le_of_ble_eq_true rfl, Nat.le_of_ble_eq_true rfl⟩ ⟨Nat.zero_le _, Nat.zero_le _⟩ d_TuneSetterModel_go_105 h (fun r105 I105 A105 H locs h hP hS => ?_)
    exact W.iret hx hb hr (fun t ht hW => ⟨⟨_, (I105, A105), rfl, h, endR_of ht hP⟩, hS.F ht⟩) hS.2.2 d_TuneSetterModel_go_108
  by_cases q2 : (I 9) = 2
  · have h := h.2.2.1 q2
    refine lv_tableIn (off := 98) (tgt := 102) hx hb d_TuneSetterModel_go_4 (by rw [q2]; decide) (by rw [q2]; decide) (by rw [q2]; rfl) rfl ?_
    refine lv_aload_n hx hb d_TuneSetterModel_go_102 rfl (lv_at hl 0 rfl) ?_
    refine lv_iload_n hx hb d_TuneSetterModel_go_103 rfl (lv_at hl 1 rfl) ?_
    refine lv_iload_n hx hb d_TuneSetterModel_go_104 rfl (lv_at hl 2 rfl) ?_
    refine k_TuneSetterModel_goOnLine x1 x2 (rest := []) ⟨hx, hb, hml, hown, hw⟩ hK hD hA hS hP hl.1 (hw _ m_TuneSetterModel_184) (Nat.le_of_ble_eq_true rfl) ⟨Nat.le_of_ble_eq_true rfl, Nat.le_of_ble_eq_true rfl⟩ ⟨Nat.zero_le _, Nat.zero_le _⟩ d_TuneSetterModel_go_105 h (fun r105 I105 A105 H locs h hP hS => ?_)
    exact W.iret hx hb hr (fun t ht hW => ⟨⟨_, (I105, A105), rfl, h, endR_of ht hP⟩, hS.F ht⟩) hS.2.2 d_TuneSetterModel_go_108
  by_cases q3 : (I 9) = 3
  · have h := h.2.2.2.1 q3
    refine lv_tableIn (off := 105) (tgt := 109) hx hb d_TuneSetterModel_go_4 (by rw [q3]; decide) (by rw [q3]; decide) (by rw [q3]; rfl) rfl ?_
    refine lv_aload_n hx hb d_TuneSetterModel_go_109 rfl (lv_at hl 0 rfl) ?_
    refine lv_iload_n hx hb d_TuneSetterModel_go_110 rfl (lv_at hl 1 rfl) ?_
    refine lv_iload_n hx hb d_TuneSetterModel_go_111 rfl (lv_at hl 2 rfl) ?_
    refine k_TuneSetterModel_behind x1 x2 (rest := []) ⟨hx, hb, hml, hown, hw⟩ hK hD hA hS hP hl.1 (hw _ m_TuneSetterModel_187) (Nat.le_of_ble_eq_true rfl) ⟨Nat.le_of_ble_eq_true rfl, Nat.le_of_ble_eq_true rfl⟩ ⟨Nat.zero_le _, Nat.zero_le _⟩ d_TuneSetterModel_go_112 h (fun r112 I112 A112 H locs h hP hS => ?_)
    exact W.iret hx hb hr (fun t ht hW => ⟨⟨_, (I112, A112), rfl, h, endR_of ht hP⟩, hS.F ht⟩) hS.2.2 d_TuneSetterModel_go_115
  by_cases q4 : (I 9) = 4
  · have h := h.2.2.2.2.1 q4
    refine lv_tableIn (off := 112) (tgt := 116) hx hb d_TuneSetterModel_go_4 (by rw [q4]; decide) (by rw [q4]; decide) (by rw [q4]; rfl) rfl ?_
    refine lv_iload_n hx hb d_TuneSetterModel_go_116 rfl (lv_at hl 1 rfl) ?_
    refine lv_bipush (v := 49) hx hb d_TuneSetterModel_go_117 bp_49 ?_
    refine lv_icmp_eq (tgt := 128) hx hb d_TuneSetterModel_go_119 rfl (fun q => ?_) (fun q => ?_)
    · have h := h.1 q
      exact j128 x1 I A _ _ _ h hP hS (lv_sub hl [0, 1] rfl)
    · have h := h.2 q
      refine lv_iload_n hx hb d_TuneSetterModel_go_122 rfl (lv_at hl 1 rfl) ?_
      refine lv_bipush (v := 50) hx hb d_TuneSetterModel_go_123 bp_50 ?_
      refine lv_icmp_ne (tgt := 150) hx hb d_TuneSetterModel_go_125 rfl (fun q => ?_) (fun q => ?_)
      · have h := h.2 q
        refine lv_aload_n hx hb d_TuneSetterModel_go_150 rfl (lv_at hl 0 rfl) ?_
        refine k_TuneSetterModel_openItem (rest := []) ⟨hx, hb, hml, hown, hw⟩ hK hD hA hS hP hl.1 (hw _ m_TuneSetterModel_190) (Nat.le_of_ble_eq_true rfl) ⟨Nat.le_of_ble_eq_true rfl, Nat.le_of_ble_eq_true rfl⟩ ⟨Nat.zero_le _, Nat.zero_le _⟩ d_TuneSetterModel_go_151 h (fun I151 A151 H locs h hP hS => ?_)
        refine lv_aload_n hx hb d_TuneSetterModel_go_154 rfl (lv_at hl 0 rfl) ?_
        refine lv_iload_n hx hb d_TuneSetterModel_go_155 rfl (lv_at hl 1 rfl) ?_
        refine k_TuneSetterModel_openChord x1 (rest := []) ⟨hx, hb, hml, hown, hw⟩ hK hD hA hS hP hl.1 (hw _ m_TuneSetterModel_193) (Nat.le_of_ble_eq_true rfl) ⟨Nat.le_of_ble_eq_true rfl, Nat.le_of_ble_eq_true rfl⟩ ⟨Nat.zero_le _, Nat.zero_le _⟩ d_TuneSetterModel_go_156 h (fun r156 I156 A156 H locs h hP hS => ?_)
        exact W.iret hx hb hr (fun t ht hW => ⟨⟨_, (I156, A156), rfl, h, endR_of ht hP⟩, hS.F ht⟩) hS.2.2 d_TuneSetterModel_go_159
      · have h := h.1 q
        exact j128 x1 I A _ _ _ h hP hS (lv_sub hl [0, 1] rfl)
  by_cases q5 : (I 9) = 5
  · have h := h.2.2.2.2.2.1 q5
    refine lv_tableIn (off := 156) (tgt := 160) hx hb d_TuneSetterModel_go_4 (by rw [q5]; decide) (by rw [q5]; decide) (by rw [q5]; rfl) rfl ?_
    refine lv_iload_n hx hb d_TuneSetterModel_go_160 rfl (lv_at hl 1 rfl) ?_
    refine lv_bipush (v := 32) hx hb d_TuneSetterModel_go_161 bp_32 ?_
    refine lv_icmp_ne (tgt := 170) hx hb d_TuneSetterModel_go_163 rfl (fun q => ?_) (fun q => ?_)
    · have h := h.2 q
      refine lv_aload_n hx hb d_TuneSetterModel_go_170 rfl (lv_at hl 0 rfl) ?_
      refine lv_iload_n hx hb d_TuneSetterModel_go_171 rfl (lv_at hl 1 rfl) ?_
      refine k_TuneSetterModel_beginItem x1 (rest := []) ⟨hx, hb, hml, hown, hw⟩ hK hD hA hS hP hl.1 (hw _ m_TuneSetterModel_196) (Nat.le_of_ble_eq_true rfl) ⟨Nat.le_of_ble_eq_true rfl, Nat.le_of_ble_eq_true rfl⟩ ⟨Nat.zero_le _, Nat.zero_le _⟩ d_TuneSetterModel_go_172 h (fun r172 I172 A172 H locs h hP hS => ?_)
      exact W.iret hx hb hr (fun t ht hW => ⟨⟨_, (I172, A172), rfl, h, endR_of ht hP⟩, hS.F ht⟩) hS.2.2 d_TuneSetterModel_go_175
    · have h := h.1 q
      refine lv_iconst (v := 0) hx hb d_TuneSetterModel_go_166 ic_0 ?_
      refine lv_goto (tgt := 175) hx hb d_TuneSetterModel_go_167 rfl ?_
      exact W.iret hx hb hr (fun t ht hW => ⟨⟨_, (I, A), rfl, h, endR_of ht hP⟩, hS.F ht⟩) hS.2.2 d_TuneSetterModel_go_175
  by_cases q6 : (I 9) = 6
  · have h := h.2.2.2.2.2.2.1 q6
    refine lv_tableIn (off := 172) (tgt := 176) hx hb d_TuneSetterModel_go_4 (by rw [q6]; decide) (by rw [q6]; decide) (by rw [q6]; rfl) rfl ?_
    refine lv_aload_n hx hb d_TuneSetterModel_go_176 rfl (lv_at hl 0 rfl) ?_
    refine lv_bipush (v := 7) hx hb d_TuneSetterModel_go_177 bp_7 ?_
    refine pR_TuneSetterModel_state hx hb hw hown hK hD hS hP (hw _ m_TuneSetterModel_100) d_TuneSetterModel_go_179 (fun H locs hP hS => ?_)
    refine lv_iload_n hx hb d_TuneSetterModel_go_182 rfl (lv_at hl 1 rfl) ?_
    refine lv_bipush (v := 51) hx hb d_TuneSetterModel_go_183 bp_51 ?_
    refine lv_icmp_ne (tgt := 192) hx hb d_TuneSetterModel_go_185 rfl (fun q => ?_) (fun q => ?_)
    · have h := h.2 q
      refine lv_bipush (v := (-2)) hx hb d_TuneSetterModel_go_192 bp_m2 ?_
      exact W.iret hx hb hr (fun t ht hW => ⟨⟨_, ((upd I 9 7), A), rfl, h, endR_of ht hP⟩, hS.F ht⟩) hS.2.2 d_TuneSetterModel_go_194
    · have h := h.1 q
      refine lv_iconst (v := 0) hx hb d_TuneSetterModel_go_188 ic_0 ?_
      refine lv_goto (tgt := 194) hx hb d_TuneSetterModel_go_189 rfl ?_
      exact W.iret hx hb hr (fun t ht hW => ⟨⟨_, ((upd I 9 7), A), rfl, h, endR_of ht hP⟩, hS.F ht⟩) hS.2.2 d_TuneSetterModel_go_194
  by_cases q7 : (I 9) = 7
  · have h := h.2.2.2.2.2.2.2.1 q7
    refine lv_tableIn (off := 191) (tgt := 195) hx hb d_TuneSetterModel_go_4 (by rw [q7]; decide) (by rw [q7]; decide) (by rw [q7]; rfl) rfl ?_
    refine lv_iload_n hx hb d_TuneSetterModel_go_195 rfl (lv_at hl 1 rfl) ?_
    refine lv_bipush (v := 40) hx hb d_TuneSetterModel_go_196 bp_40 ?_
    refine lv_icmp_ne (tgt := 206) hx hb d_TuneSetterModel_go_198 rfl (fun q => ?_) (fun q => ?_)
    · have h := h.2 q
      refine lv_aload_n hx hb d_TuneSetterModel_go_206 rfl (lv_at hl 0 rfl) ?_
      refine lv_iload_n hx hb d_TuneSetterModel_go_207 rfl (lv_at hl 1 rfl) ?_
      refine k_TuneSetterModel_core x1 (rest := []) ⟨hx, hb, hml, hown, hw⟩ hK hD hA hS hP hl.1 (hw _ m_TuneSetterModel_199) (Nat.le_of_ble_eq_true rfl) ⟨Nat.le_of_ble_eq_true rfl, Nat.le_of_ble_eq_true rfl⟩ ⟨Nat.zero_le _, Nat.zero_le _⟩ d_TuneSetterModel_go_208 h (fun r208 I208 A208 H locs h hP hS => ?_)
      exact W.iret hx hb hr (fun t ht hW => ⟨⟨_, (I208, A208), rfl, h, endR_of ht hP⟩, hS.F ht⟩) hS.2.2 d_TuneSetterModel_go_211
    · have h := h.1 q
      refine lv_bipush (v := (-2)) hx hb d_TuneSetterModel_go_201 bp_m2 ?_
      refine lv_goto (tgt := 211) hx hb d_TuneSetterModel_go_203 rfl ?_
      exact W.iret hx hb hr (fun t ht hW => ⟨⟨_, (I, A), rfl, h, endR_of ht hP⟩, hS.F ht⟩) hS.2.2 d_TuneSetterModel_go_211
  by_cases q8 : (I 9) = 8
  · have h := h.2.2.2.2.2.2.2.2.1 q8
    refine lv_tableIn (off := 208) (tgt := 212) hx hb d_TuneSetterModel_go_4 (by rw [q8]; decide) (by rw [q8]; decide) (by rw [q8]; rfl) rfl ?_
    refine lv_aload_n hx hb d_TuneSetterModel_go_212 rfl (lv_at hl 0 rfl) ?_
    refine lv_iload_n hx hb d_TuneSetterModel_go_213 rfl (lv_at hl 1 rfl) ?_
    refine k_TuneSetterModel_goOnSign x1 (rest := []) ⟨hx, hb, hml, hown, hw⟩ hK hD hA hS hP hl.1 (hw _ m_TuneSetterModel_202) (Nat.le_of_ble_eq_true rfl) ⟨Nat.le_of_ble_eq_true rfl, Nat.le_of_ble_eq_true rfl⟩ ⟨Nat.zero_le _, Nat.zero_le _⟩ d_TuneSetterModel_go_214 h (fun r214 I214 A214 H locs h hP hS => ?_)
    exact W.iret hx hb hr (fun t ht hW => ⟨⟨_, (I214, A214), rfl, h, endR_of ht hP⟩, hS.F ht⟩) hS.2.2 d_TuneSetterModel_go_217
  by_cases q9 : (I 9) = 9
  · have h := h.2.2.2.2.2.2.2.2.2.1 q9
    refine lv_tableIn (off := 214) (tgt := 218) hx hb d_TuneSetterModel_go_4 (by rw [q9]; decide) (by rw [q9]; decide) (by rw [q9]; rfl) rfl ?_
    refine lv_aload_n hx hb d_TuneSetterModel_go_218 rfl (lv_at hl 0 rfl) ?_
    refine lv_dup hx hb d_TuneSetterModel_go_219 rfl ?_
    refine gR_TuneSetterModel_octave hx hb hw hown hK hP (hw _ m_TuneSetterModel_205) d_TuneSetterModel_go_220 ?_
    refine lv_iload_n hx hb d_TuneSetterModel_go_223 rfl (lv_at hl 1 rfl) ?_
    refine lv_bipush (v := 44) hx hb d_TuneSetterModel_go_224 bp_44 ?_
    refine lv_icmp_ne (tgt := 233) hx hb d_TuneSetterModel_go_226 rfl (fun q => ?_) (fun q => ?_)
    · have h := h.2 q
      refine lv_iconst (v := 1) hx hb d_TuneSetterModel_go_233 ic_1 ?_
      exact j234 x1 1 (I 17) I A _ _ _ h hP hS (lv_sub hl [0, 1] rfl)
    · have h := h.1 q
      refine lv_iconst (v := (-1)) hx hb d_TuneSetterModel_go_229 ic_m1 ?_
      refine lv_goto (tgt := 234) hx hb d_TuneSetterModel_go_230 rfl ?_
      exact j234 x1 (-1) (I 17) I A _ _ _ h hP hS (lv_sub hl [0, 1] rfl)
  by_cases q10 : (I 9) = 10
  · have h := h.2.2.2.2.2.2.2.2.2.2.1 q10
    refine lv_tableIn (off := 251) (tgt := 255) hx hb d_TuneSetterModel_go_4 (by rw [q10]; decide) (by rw [q10]; decide) (by rw [q10]; rfl) rfl ?_
    refine lv_aload_n hx hb d_TuneSetterModel_go_255 rfl (lv_at hl 0 rfl) ?_
    refine lv_iload_n hx hb d_TuneSetterModel_go_256 rfl (lv_at hl 1 rfl) ?_
    refine k_TuneSetterModel_inChord x1 (rest := []) ⟨hx, hb, hml, hown, hw⟩ hK hD hA hS hP hl.1 (hw _ m_TuneSetterModel_172) (Nat.le_of_ble_eq_true rfl) ⟨Nat.le_of_ble_eq_true rfl, Nat.le_of_ble_eq_true rfl⟩ ⟨Nat.zero_le _, Nat.zero_le _⟩ d_TuneSetterModel_go_257 h (fun r257 I257 A257 H locs h hP hS => ?_)
    exact W.iret hx hb hr (fun t ht hW => ⟨⟨_, (I257, A257), rfl, h, endR_of ht hP⟩, hS.F ht⟩) hS.2.2 d_TuneSetterModel_go_260
  · have h := h.2.2.2.2.2.2.2.2.2.2.2 q0 q1 q2 q3 q4 q5 q6 q7 q8 q9 q10
    have z0 := lv_neT (a := 0) q0 (by decide)
    have z1 := lv_neT (a := 1) q1 (by decide)
    have z2 := lv_neT (a := 2) q2 (by decide)
    have z3 := lv_neT (a := 3) q3 (by decide)
    have z4 := lv_neT (a := 4) q4 (by decide)
    have z5 := lv_neT (a := 5) q5 (by decide)
    have z6 := lv_neT (a := 6) q6 (by decide)
    have z7 := lv_neT (a := 7) q7 (by decide)
    have z8 := lv_neT (a := 8) q8 (by decide)
    have z9 := lv_neT (a := 9) q9 (by decide)
    have z10 := lv_neT (a := 10) q10 (by decide)
    refine lv_tableOut (tgt := 261) hx hb d_TuneSetterModel_go_4 (by omega) rfl ?_
    refine lv_aload_n hx hb d_TuneSetterModel_go_261 rfl (lv_at hl 0 rfl) ?_
    refine lv_iload_n hx hb d_TuneSetterModel_go_262 rfl (lv_at hl 1 rfl) ?_
    refine lv_iload_n hx hb d_TuneSetterModel_go_263 rfl (lv_at hl 2 rfl) ?_
    refine k_TuneSetterModel_inside x1 x2 (rest := []) ⟨hx, hb, hml, hown, hw⟩ hK hD hA hS hP hl.1 (hw _ m_TuneSetterModel_166) (Nat.le_of_ble_eq_true rfl) ⟨Nat.le_of_ble_eq_true rfl, Nat.le_of_ble_eq_true rfl⟩ ⟨Nat.zero_le _, Nat.zero_le _⟩ d_TuneSetterModel_go_264 h (fun r264 I264 A264 H locs h hP hS => ?_)
    exact W.iret hx hb hr (fun t ht hW => ⟨⟨_, (I264, A264), rfl, h, endR_of ht hP⟩, hS.F ht⟩) hS.2.2 d_TuneSetterModel_go_267
theorem k_TuneSetterModel_go {p : Program} {l : Launch} {e : Env} {R : Room} {s : State} {m : MethodId} {args : Array Value} {below : List Frame} {meth : Method} {c : Code} {H : Heap} {locs : List Loc} {cells slots : Nat} {Q : State → Prop} {cc : ByteArray} {pc nL idx : Nat} {own : String} {ls : Array Slot} {D : va_G} {cA a : Nat → Nat} {AA : Nat → Prop} {I : Nat → Int32} {A : Nat → Nat → Int32} {post : Int32 → (Nat → Int32) → (Nat → Nat → Int32) → Prop} (x1 : Int32) (x2 : Int32) {rest : List Value} (S : CallFix p m c cc nL s args WALL own) (hK : KR D cA a AA s) (hD : ∀ I A, va_D AA (wR cA a I A)) (hA : ∀ q : Nat, s.heap.size ≤ q → AA q) (hS : va_S AA s.heap H locs) (hP : va_P D cls (wR cA a I A) H) (hl1 : ls.size = nL) (hlink : (Cond.methodLink own idx y_TuneSetterModel_go).before args s = true) (hst : (rest.map fun v => v.category).sum ≤ 8) (hR : ({ frames := 8, cells := 0, slots := 0, locals := 173 } : Room).frames + 1 ≤ R.frames ∧ 8 + (3 + 11) + ({ frames := 8, cells := 0, slots := 0, locals := 173 } : Room).locals ≤ R.locals) (hcs : cells ≤ R.cells ∧ slots ≤ R.slots) (hdg : decode cc pc = .ok (.invokevirtual idx, 3)) (h : wp_TuneSetterModel_go x1 x2 I A post) (kk : ∀ (r : Int32) (I1 : Nat → Int32) (A1 : Nat → Nat → Int32) (H1 : Heap) (locs1 : List Loc), post r I1 A1 → va_P D cls (wR cA a I1 A1) H1 → va_S AA s.heap H1 locs1 → W p l e R s m args below meth c H1 locs1 cells slots Q (F0 m (pc + 3) ls (.int r :: rest))) : W p l e R s m args below meth c H locs cells slots Q (F0 m pc ls (.int x2 :: .int x1 :: .ref (a 0) :: rest)) :=
  va_calli (va_runV (As := [.int x1, .int x2]) (rest := rest) S (c_TuneSetterModel_go l D cA a H.size x1 x2 I A post h) ⟨callB_of 2 S.2.2.2.2 g_TuneSetterModel_go rfl rfl rfl (S.2.2.2.2 _ mi_TuneSetterModel) hlink ⟨by decide, by decide, by decide +kernel⟩ hR, S.2.2.2.2 _ mn_TuneSetterModel_go, S.2.2.2.2 _ ms_TuneSetterModel_go⟩ (preRV hK hD hA hS hP 0 rfl rfl) rfl rfl hl1 rfl (lv_room hst) hdg hcs) hS (fun q _ z => AR_le hD hA hS q z) (fun q z => AR_le hD hA hS q z) (fun r u t H1 locs1 ht _ hp hB _ _ hS1 => kk r u.1 u.2 H1 locs1 hp (of_endR ht hB) hS1)
def wp_TuneSetterModel_count (x1 : Int32) (I : Nat → Int32) (A : Nat → Nat → Int32) (post : (Nat → Int32) → (Nat → Nat → Int32) → Prop) : Prop := ((x1 = 47 → post (upd I 21 1) A) ∧ (¬ x1 = 47 → (((I 21) = 0 → post (upd (upd I 19 ((((10 : Int32) * (I 19)) + x1) - 48)) 20 ((I 20) + 1)) A) ∧ (¬ (I 21) = 0 → post (upd (upd I 22 ((((10 : Int32) * (I 22)) + x1) - 48)) 23 ((I 23) + 1)) A))))
theorem d_TuneSetterModel_count_0 : decode b_TuneSetterModel_count 0 = .ok (.iload_n 1, 1) := by decide +kernel
theorem d_TuneSetterModel_count_1 : decode b_TuneSetterModel_count 1 = .ok (.bipush 47, 2) := by decide +kernel
theorem d_TuneSetterModel_count_3 : decode b_TuneSetterModel_count 3 = .ok (.if_icmp .ne 11, 3) := by decide +kernel
theorem d_TuneSetterModel_count_6 : decode b_TuneSetterModel_count 6 = .ok (.aload_n 0, 1) := by decide +kernel
theorem d_TuneSetterModel_count_7 : decode b_TuneSetterModel_count 7 = .ok (.iconst 1, 1) := by decide +kernel
theorem d_TuneSetterModel_count_8 : decode b_TuneSetterModel_count 8 = .ok (.putfield 125, 3) := by decide +kernel
theorem d_TuneSetterModel_count_11 : decode b_TuneSetterModel_count 11 = .ok (.goto 65, 3) := by decide +kernel
theorem d_TuneSetterModel_count_14 : decode b_TuneSetterModel_count 14 = .ok (.aload_n 0, 1) := by decide +kernel
theorem d_TuneSetterModel_count_15 : decode b_TuneSetterModel_count 15 = .ok (.getfield 125, 3) := by decide +kernel
theorem d_TuneSetterModel_count_18 : decode b_TuneSetterModel_count 18 = .ok (.ifCond .eq 32, 3) := by decide +kernel
theorem d_TuneSetterModel_count_21 : decode b_TuneSetterModel_count 21 = .ok (.aload_n 0, 1) := by decide +kernel
theorem d_TuneSetterModel_count_22 : decode b_TuneSetterModel_count 22 = .ok (.bipush 10, 2) := by decide +kernel
theorem d_TuneSetterModel_count_24 : decode b_TuneSetterModel_count 24 = .ok (.aload_n 0, 1) := by decide +kernel
theorem d_TuneSetterModel_count_25 : decode b_TuneSetterModel_count 25 = .ok (.getfield 235, 3) := by decide +kernel
theorem d_TuneSetterModel_count_28 : decode b_TuneSetterModel_count 28 = .ok (.imul, 1) := by decide +kernel
theorem d_TuneSetterModel_count_29 : decode b_TuneSetterModel_count 29 = .ok (.iload_n 1, 1) := by decide +kernel
theorem d_TuneSetterModel_count_30 : decode b_TuneSetterModel_count 30 = .ok (.iadd, 1) := by decide +kernel
theorem d_TuneSetterModel_count_31 : decode b_TuneSetterModel_count 31 = .ok (.bipush 48, 2) := by decide +kernel
theorem d_TuneSetterModel_count_33 : decode b_TuneSetterModel_count 33 = .ok (.isub, 1) := by decide +kernel
theorem d_TuneSetterModel_count_34 : decode b_TuneSetterModel_count 34 = .ok (.putfield 235, 3) := by decide +kernel
theorem d_TuneSetterModel_count_37 : decode b_TuneSetterModel_count 37 = .ok (.aload_n 0, 1) := by decide +kernel
theorem d_TuneSetterModel_count_38 : decode b_TuneSetterModel_count 38 = .ok (.dup, 1) := by decide +kernel
theorem d_TuneSetterModel_count_39 : decode b_TuneSetterModel_count 39 = .ok (.getfield 131, 3) := by decide +kernel
theorem d_TuneSetterModel_count_42 : decode b_TuneSetterModel_count 42 = .ok (.iconst 1, 1) := by decide +kernel
theorem d_TuneSetterModel_count_43 : decode b_TuneSetterModel_count 43 = .ok (.iadd, 1) := by decide +kernel
theorem d_TuneSetterModel_count_44 : decode b_TuneSetterModel_count 44 = .ok (.putfield 131, 3) := by decide +kernel
theorem d_TuneSetterModel_count_47 : decode b_TuneSetterModel_count 47 = .ok (.goto 29, 3) := by decide +kernel
theorem d_TuneSetterModel_count_50 : decode b_TuneSetterModel_count 50 = .ok (.aload_n 0, 1) := by decide +kernel
theorem d_TuneSetterModel_count_51 : decode b_TuneSetterModel_count 51 = .ok (.bipush 10, 2) := by decide +kernel
theorem d_TuneSetterModel_count_53 : decode b_TuneSetterModel_count 53 = .ok (.aload_n 0, 1) := by decide +kernel
theorem d_TuneSetterModel_count_54 : decode b_TuneSetterModel_count 54 = .ok (.getfield 232, 3) := by decide +kernel
theorem d_TuneSetterModel_count_57 : decode b_TuneSetterModel_count 57 = .ok (.imul, 1) := by decide +kernel
theorem d_TuneSetterModel_count_58 : decode b_TuneSetterModel_count 58 = .ok (.iload_n 1, 1) := by decide +kernel
theorem d_TuneSetterModel_count_59 : decode b_TuneSetterModel_count 59 = .ok (.iadd, 1) := by decide +kernel
theorem d_TuneSetterModel_count_60 : decode b_TuneSetterModel_count 60 = .ok (.bipush 48, 2) := by decide +kernel
theorem d_TuneSetterModel_count_62 : decode b_TuneSetterModel_count 62 = .ok (.isub, 1) := by decide +kernel
theorem d_TuneSetterModel_count_63 : decode b_TuneSetterModel_count 63 = .ok (.putfield 232, 3) := by decide +kernel
theorem d_TuneSetterModel_count_66 : decode b_TuneSetterModel_count 66 = .ok (.aload_n 0, 1) := by decide +kernel
theorem d_TuneSetterModel_count_67 : decode b_TuneSetterModel_count 67 = .ok (.dup, 1) := by decide +kernel
theorem d_TuneSetterModel_count_68 : decode b_TuneSetterModel_count 68 = .ok (.getfield 134, 3) := by decide +kernel
theorem d_TuneSetterModel_count_71 : decode b_TuneSetterModel_count 71 = .ok (.iconst 1, 1) := by decide +kernel
theorem d_TuneSetterModel_count_72 : decode b_TuneSetterModel_count 72 = .ok (.iadd, 1) := by decide +kernel
theorem d_TuneSetterModel_count_73 : decode b_TuneSetterModel_count 73 = .ok (.putfield 134, 3) := by decide +kernel
theorem d_TuneSetterModel_count_76 : decode b_TuneSetterModel_count 76 = .ok (.return_, 1) := by decide +kernel
def w_TuneSetterModel_count : List Cond := .code y_TuneSetterModel_count b_TuneSetterModel_count 2 none :: WALL
theorem g_TuneSetterModel_count : GoodIn WALL w_TuneSetterModel_count := good_of mc_TuneSetterModel_count
set_option maxHeartbeats 4000000 in
set_option maxRecDepth 100000 in
theorem c_TuneSetterModel_count (l : Launch) (D : va_G) (cA a : Nat → Nat) (sz : Nat) (x1 : Int32) (I : Nat → Int32) (A : Nat → Nat → Int32) (post : (Nat → Int32) → (Nat → Nat → Int32) → Prop) (h : wp_TuneSetterModel_count x1 I A post) : Met l y_TuneSetterModel_count w_TuneSetterModel_count ({ frames := 0, cells := 0, slots := 0, locals := 0 }) (va_Pc [.ref (a 0), .int x1] (PreR D cA a I A sz)) (va_Qv (fun (u : StW) => post u.1 u.2) (EndR D cA a) (AR a sz)) 0 0 (AR a sz) := by
  refine Met.ofW (cc := b_TuneSetterModel_count) (maxL := 2) (ret := none) (by decide) rfl ?_
  intro p e s m args below meth c s₁ B hml hv
  obtain ⟨rfl, hsz, hP, hK, hD0⟩ := hv
  have hx := B.exec
  have hb := B.bytes
  have hr := B.returns
  have hts := atoms_spec (ws := w_TuneSetterModel_count) B.pre
  have hw := wall_of hts
  have hown : s.vm.findClass R_TuneSetterModel = some m.cls := findClass_of_methodNamed B.named
  have hlocks := B.notSynchronized
  subst hsz
  have hD := hDR (sz := s.heap.size) hD0
  have hA : ∀ q : Nat, s.heap.size ≤ q → AR a s.heap.size q := fun q h => Or.inr h
  have hS : va_S (AR a s.heap.size) s.heap s.heap [] := va_S.rf
  have hl := lv_entry ([.ref (a 0), .int x1]) (n := 2) (Nat.le_of_ble_eq_true rfl)
  rw [lg_entry_eq]
  generalize (lg_sl ([.ref (a 0), .int x1]) ++ List.replicate (2 - (lg_sl ([.ref (a 0), .int x1])).length) Slot.unset).toArray = ls at hl ⊢
  have hl : lv_has ls 2 [(0, .ref (a 0)), (1, .int x1)] := hl
  unfold wp_TuneSetterModel_count at h
  refine lv_iload_n hx hb d_TuneSetterModel_count_0 rfl (lv_at hl 1 rfl) ?_
  refine lv_bipush (v := 47) hx hb d_TuneSetterModel_count_1 bp_47 ?_
  refine lv_icmp_ne (tgt := 14) hx hb d_TuneSetterModel_count_3 rfl (fun q => ?_) (fun q => ?_)
  · have h := h.2 q
    refine lv_aload_n hx hb d_TuneSetterModel_count_14 rfl (lv_at hl 0 rfl) ?_
    refine gR_TuneSetterModel_slash hx hb hw hown hK hP (hw _ m_TuneSetterModel_125) d_TuneSetterModel_count_15 ?_
    refine lv_if_eq (tgt := 50) hx hb d_TuneSetterModel_count_18 rfl (fun q => ?_) (fun q => ?_)
    · have h := h.1 q
      refine lv_aload_n hx hb d_TuneSetterModel_count_50 rfl (lv_at hl 0 rfl) ?_
      refine lv_bipush (v := 10) hx hb d_TuneSetterModel_count_51 bp_10 ?_
      refine lv_aload_n hx hb d_TuneSetterModel_count_53 rfl (lv_at hl 0 rfl) ?_
      refine gR_TuneSetterModel_top hx hb hw hown hK hP (hw _ m_TuneSetterModel_232) d_TuneSetterModel_count_54 ?_
      refine lv_imul hx hb d_TuneSetterModel_count_57 ?_
      refine lv_iload_n hx hb d_TuneSetterModel_count_58 rfl (lv_at hl 1 rfl) ?_
      refine lv_iadd hx hb d_TuneSetterModel_count_59 ?_
      refine lv_bipush (v := 48) hx hb d_TuneSetterModel_count_60 bp_48 ?_
      refine lv_isub hx hb d_TuneSetterModel_count_62 ?_
      refine pR_TuneSetterModel_top hx hb hw hown hK hD hS hP (hw _ m_TuneSetterModel_232) d_TuneSetterModel_count_63 (fun H locs hP hS => ?_)
      refine lv_aload_n hx hb d_TuneSetterModel_count_66 rfl (lv_at hl 0 rfl) ?_
      refine lv_dup hx hb d_TuneSetterModel_count_67 rfl ?_
      refine gR_TuneSetterModel_topDigits hx hb hw hown hK hP (hw _ m_TuneSetterModel_134) d_TuneSetterModel_count_68 ?_
      refine lv_iconst (v := 1) hx hb d_TuneSetterModel_count_71 ic_1 ?_
      refine lv_iadd hx hb d_TuneSetterModel_count_72 ?_
      refine pR_TuneSetterModel_topDigits hx hb hw hown hK hD hS hP (hw _ m_TuneSetterModel_134) d_TuneSetterModel_count_73 (fun H locs hP hS => ?_)
      exact W.vret hx hb hr (fun t ht hW => ⟨⟨((upd (upd I 19 ((((10 : Int32) * (I 19)) + x1) - 48)) 20 ((I 20) + 1)), A), rfl, h, endR_of ht hP⟩, hS.F ht⟩) hS.2.2 d_TuneSetterModel_count_76
    · have h := h.2 q
      refine lv_aload_n hx hb d_TuneSetterModel_count_21 rfl (lv_at hl 0 rfl) ?_
      refine lv_bipush (v := 10) hx hb d_TuneSetterModel_count_22 bp_10 ?_
      refine lv_aload_n hx hb d_TuneSetterModel_count_24 rfl (lv_at hl 0 rfl) ?_
      refine gR_TuneSetterModel_below hx hb hw hown hK hP (hw _ m_TuneSetterModel_235) d_TuneSetterModel_count_25 ?_
      refine lv_imul hx hb d_TuneSetterModel_count_28 ?_
      refine lv_iload_n hx hb d_TuneSetterModel_count_29 rfl (lv_at hl 1 rfl) ?_
      refine lv_iadd hx hb d_TuneSetterModel_count_30 ?_
      refine lv_bipush (v := 48) hx hb d_TuneSetterModel_count_31 bp_48 ?_
      refine lv_isub hx hb d_TuneSetterModel_count_33 ?_
      refine pR_TuneSetterModel_below hx hb hw hown hK hD hS hP (hw _ m_TuneSetterModel_235) d_TuneSetterModel_count_34 (fun H locs hP hS => ?_)
      refine lv_aload_n hx hb d_TuneSetterModel_count_37 rfl (lv_at hl 0 rfl) ?_
      refine lv_dup hx hb d_TuneSetterModel_count_38 rfl ?_
      refine gR_TuneSetterModel_belowDigits hx hb hw hown hK hP (hw _ m_TuneSetterModel_131) d_TuneSetterModel_count_39 ?_
      refine lv_iconst (v := 1) hx hb d_TuneSetterModel_count_42 ic_1 ?_
      refine lv_iadd hx hb d_TuneSetterModel_count_43 ?_
      refine pR_TuneSetterModel_belowDigits hx hb hw hown hK hD hS hP (hw _ m_TuneSetterModel_131) d_TuneSetterModel_count_44 (fun H locs hP hS => ?_)
      refine lv_goto (tgt := 76) hx hb d_TuneSetterModel_count_47 rfl ?_
      exact W.vret hx hb hr (fun t ht hW => ⟨⟨((upd (upd I 22 ((((10 : Int32) * (I 22)) + x1) - 48)) 23 ((I 23) + 1)), A), rfl, h, endR_of ht hP⟩, hS.F ht⟩) hS.2.2 d_TuneSetterModel_count_76
  · have h := h.1 q
    refine lv_aload_n hx hb d_TuneSetterModel_count_6 rfl (lv_at hl 0 rfl) ?_
    refine lv_iconst (v := 1) hx hb d_TuneSetterModel_count_7 ic_1 ?_
    refine pR_TuneSetterModel_slash hx hb hw hown hK hD hS hP (hw _ m_TuneSetterModel_125) vz1 d_TuneSetterModel_count_8 (fun H locs hP hS => ?_)
    refine lv_goto (tgt := 76) hx hb d_TuneSetterModel_count_11 rfl ?_
    exact W.vret hx hb hr (fun t ht hW => ⟨⟨((upd I 21 1), A), rfl, h, endR_of ht hP⟩, hS.F ht⟩) hS.2.2 d_TuneSetterModel_count_76
theorem k_TuneSetterModel_count {p : Program} {l : Launch} {e : Env} {R : Room} {s : State} {m : MethodId} {args : Array Value} {below : List Frame} {meth : Method} {c : Code} {H : Heap} {locs : List Loc} {cells slots : Nat} {Q : State → Prop} {cc : ByteArray} {pc nL idx : Nat} {own : String} {ls : Array Slot} {D : va_G} {cA a : Nat → Nat} {AA : Nat → Prop} {I : Nat → Int32} {A : Nat → Nat → Int32} {post : (Nat → Int32) → (Nat → Nat → Int32) → Prop} (x1 : Int32) {rest : List Value} (S : CallFix p m c cc nL s args WALL own) (hK : KR D cA a AA s) (hD : ∀ I A, va_D AA (wR cA a I A)) (hA : ∀ q : Nat, s.heap.size ≤ q → AA q) (hS : va_S AA s.heap H locs) (hP : va_P D cls (wR cA a I A) H) (hl1 : ls.size = nL) (hlink : (Cond.methodLink own idx y_TuneSetterModel_count).before args s = true) (hst : (rest.map fun v => v.category).sum ≤ 8) (hR : ({ frames := 0, cells := 0, slots := 0, locals := 0 } : Room).frames + 1 ≤ R.frames ∧ 8 + (2 + 11) + ({ frames := 0, cells := 0, slots := 0, locals := 0 } : Room).locals ≤ R.locals) (hcs : cells ≤ R.cells ∧ slots ≤ R.slots) (hdg : decode cc pc = .ok (.invokevirtual idx, 3)) (h : wp_TuneSetterModel_count x1 I A post) (kk : ∀ (I1 : Nat → Int32) (A1 : Nat → Nat → Int32) (H1 : Heap) (locs1 : List Loc), post I1 A1 → va_P D cls (wR cA a I1 A1) H1 → va_S AA s.heap H1 locs1 → W p l e R s m args below meth c H1 locs1 cells slots Q (F0 m (pc + 3) ls rest)) : W p l e R s m args below meth c H locs cells slots Q (F0 m pc ls (.int x1 :: .ref (a 0) :: rest)) :=
  va_callv (va_runV (As := [.int x1]) (rest := rest) S (c_TuneSetterModel_count l D cA a H.size x1 I A post h) ⟨callB_of 1 S.2.2.2.2 g_TuneSetterModel_count rfl rfl rfl (S.2.2.2.2 _ mi_TuneSetterModel) hlink ⟨by decide, by decide, by decide +kernel⟩ hR, S.2.2.2.2 _ mn_TuneSetterModel_count, S.2.2.2.2 _ ms_TuneSetterModel_count⟩ (preRV hK hD hA hS hP 0 rfl rfl) rfl rfl hl1 rfl (lv_room hst) hdg hcs) hS (fun q _ z => AR_le hD hA hS q z) (fun q z => AR_le hD hA hS q z) (fun u t H1 locs1 ht _ hp hB _ _ hS1 => kk u.1 u.2 H1 locs1 hp (of_endR ht hB) hS1)

def wp_TuneSetterModel_metre_32 (post : Int32 → (Nat → Int32) → (Nat → Nat → Int32) → Prop) (y1 : Int32) (y2 : Int32) (s0 : Int32) (I : Nat → Int32) (A : Nat → Nat → Int32) : Prop := ((s0 = 0 → ((s0 = 0 → (vz s0 ∧ post s0 (upd (upd I 0 (I 0)) 1 (I 1)) A)) ∧ (¬ s0 = 0 → (vz s0 ∧ post s0 (upd (upd I 0 (I 0)) 1 y2) A)))) ∧ (¬ s0 = 0 → ((s0 = 0 → (vz s0 ∧ post s0 (upd (upd I 0 y1) 1 (I 1)) A)) ∧ (¬ s0 = 0 → (vz s0 ∧ post s0 (upd (upd I 0 y1) 1 y2) A)))))
def wp_TuneSetterModel_metre (x1 : Int32) (x2 : Int32) (I : Nat → Int32) (A : Nat → Nat → Int32) (post : Int32 → (Nat → Int32) → (Nat → Nat → Int32) → Prop) : Prop := ((x1 < 1 → wp_TuneSetterModel_metre_32 post x1 x2 0 I A) ∧ (¬ x1 < 1 → ((12 < x1 → wp_TuneSetterModel_metre_32 post x1 x2 0 I A) ∧ (¬ 12 < x1 → ((x2 = 2 → wp_TuneSetterModel_metre_32 post x1 x2 1 I A) ∧ (¬ x2 = 2 → ((x2 = 4 → wp_TuneSetterModel_metre_32 post x1 x2 1 I A) ∧ (¬ x2 = 4 → ((x2 = 8 → wp_TuneSetterModel_metre_32 post x1 x2 1 I A) ∧ (¬ x2 = 8 → wp_TuneSetterModel_metre_32 post x1 x2 0 I A))))))))))
theorem d_TuneSetterModel_metre_0 : decode b_TuneSetterModel_metre 0 = .ok (.iload_n 1, 1) := by decide +kernel
theorem d_TuneSetterModel_metre_1 : decode b_TuneSetterModel_metre 1 = .ok (.iconst 1, 1) := by decide +kernel
theorem d_TuneSetterModel_metre_2 : decode b_TuneSetterModel_metre 2 = .ok (.if_icmp .lt 29, 3) := by decide +kernel
theorem d_TuneSetterModel_metre_5 : decode b_TuneSetterModel_metre 5 = .ok (.iload_n 1, 1) := by decide +kernel
theorem d_TuneSetterModel_metre_6 : decode b_TuneSetterModel_metre 6 = .ok (.bipush 12, 2) := by decide +kernel
theorem d_TuneSetterModel_metre_8 : decode b_TuneSetterModel_metre 8 = .ok (.if_icmp .gt 23, 3) := by decide +kernel
theorem d_TuneSetterModel_metre_11 : decode b_TuneSetterModel_metre 11 = .ok (.iload_n 2, 1) := by decide +kernel
theorem d_TuneSetterModel_metre_12 : decode b_TuneSetterModel_metre 12 = .ok (.iconst 2, 1) := by decide +kernel
theorem d_TuneSetterModel_metre_13 : decode b_TuneSetterModel_metre 13 = .ok (.if_icmp .eq 14, 3) := by decide +kernel
theorem d_TuneSetterModel_metre_16 : decode b_TuneSetterModel_metre 16 = .ok (.iload_n 2, 1) := by decide +kernel
theorem d_TuneSetterModel_metre_17 : decode b_TuneSetterModel_metre 17 = .ok (.iconst 4, 1) := by decide +kernel
theorem d_TuneSetterModel_metre_18 : decode b_TuneSetterModel_metre 18 = .ok (.if_icmp .eq 9, 3) := by decide +kernel
theorem d_TuneSetterModel_metre_21 : decode b_TuneSetterModel_metre 21 = .ok (.iload_n 2, 1) := by decide +kernel
theorem d_TuneSetterModel_metre_22 : decode b_TuneSetterModel_metre 22 = .ok (.bipush 8, 2) := by decide +kernel
theorem d_TuneSetterModel_metre_24 : decode b_TuneSetterModel_metre 24 = .ok (.if_icmp .ne 7, 3) := by decide +kernel
theorem d_TuneSetterModel_metre_27 : decode b_TuneSetterModel_metre 27 = .ok (.iconst 1, 1) := by decide +kernel
theorem d_TuneSetterModel_metre_28 : decode b_TuneSetterModel_metre 28 = .ok (.goto 4, 3) := by decide +kernel
theorem d_TuneSetterModel_metre_31 : decode b_TuneSetterModel_metre 31 = .ok (.iconst 0, 1) := by decide +kernel
theorem d_TuneSetterModel_metre_32 : decode b_TuneSetterModel_metre 32 = .ok (.istore_n 3, 1) := by decide +kernel
theorem d_TuneSetterModel_metre_33 : decode b_TuneSetterModel_metre 33 = .ok (.aload_n 0, 1) := by decide +kernel
theorem d_TuneSetterModel_metre_34 : decode b_TuneSetterModel_metre 34 = .ok (.iload_n 3, 1) := by decide +kernel
theorem d_TuneSetterModel_metre_35 : decode b_TuneSetterModel_metre 35 = .ok (.ifCond .eq 7, 3) := by decide +kernel
theorem d_TuneSetterModel_metre_38 : decode b_TuneSetterModel_metre 38 = .ok (.iload_n 1, 1) := by decide +kernel
theorem d_TuneSetterModel_metre_39 : decode b_TuneSetterModel_metre 39 = .ok (.goto 7, 3) := by decide +kernel
theorem d_TuneSetterModel_metre_42 : decode b_TuneSetterModel_metre 42 = .ok (.aload_n 0, 1) := by decide +kernel
theorem d_TuneSetterModel_metre_43 : decode b_TuneSetterModel_metre 43 = .ok (.getfield 7, 3) := by decide +kernel
theorem d_TuneSetterModel_metre_46 : decode b_TuneSetterModel_metre 46 = .ok (.putfield 7, 3) := by decide +kernel
theorem d_TuneSetterModel_metre_49 : decode b_TuneSetterModel_metre 49 = .ok (.aload_n 0, 1) := by decide +kernel
theorem d_TuneSetterModel_metre_50 : decode b_TuneSetterModel_metre 50 = .ok (.iload_n 3, 1) := by decide +kernel
theorem d_TuneSetterModel_metre_51 : decode b_TuneSetterModel_metre 51 = .ok (.ifCond .eq 7, 3) := by decide +kernel
theorem d_TuneSetterModel_metre_54 : decode b_TuneSetterModel_metre 54 = .ok (.iload_n 2, 1) := by decide +kernel
theorem d_TuneSetterModel_metre_55 : decode b_TuneSetterModel_metre 55 = .ok (.goto 7, 3) := by decide +kernel
theorem d_TuneSetterModel_metre_58 : decode b_TuneSetterModel_metre 58 = .ok (.aload_n 0, 1) := by decide +kernel
theorem d_TuneSetterModel_metre_59 : decode b_TuneSetterModel_metre 59 = .ok (.getfield 13, 3) := by decide +kernel
theorem d_TuneSetterModel_metre_62 : decode b_TuneSetterModel_metre 62 = .ok (.putfield 13, 3) := by decide +kernel
theorem d_TuneSetterModel_metre_65 : decode b_TuneSetterModel_metre 65 = .ok (.iload_n 3, 1) := by decide +kernel
theorem d_TuneSetterModel_metre_66 : decode b_TuneSetterModel_metre 66 = .ok (.ireturn, 1) := by decide +kernel
def w_TuneSetterModel_metre : List Cond := .code y_TuneSetterModel_metre b_TuneSetterModel_metre 4 (some .boolean) :: WALL
theorem g_TuneSetterModel_metre : GoodIn WALL w_TuneSetterModel_metre := good_of mc_TuneSetterModel_metre
set_option maxHeartbeats 4000000 in
set_option maxRecDepth 100000 in
theorem c_TuneSetterModel_metre (l : Launch) (D : va_G) (cA a : Nat → Nat) (sz : Nat) (x1 : Int32) (x2 : Int32) (I : Nat → Int32) (A : Nat → Nat → Int32) (post : Int32 → (Nat → Int32) → (Nat → Nat → Int32) → Prop) (h : wp_TuneSetterModel_metre x1 x2 I A post) : Met l y_TuneSetterModel_metre w_TuneSetterModel_metre ({ frames := 0, cells := 0, slots := 0, locals := 0 }) (va_Pc [.ref (a 0), .int x1, .int x2] (PreR D cA a I A sz)) (va_Qi (fun r (u : StW) => post r u.1 u.2) (EndR D cA a) (AR a sz)) 0 0 (AR a sz) := by
  refine Met.ofW (cc := b_TuneSetterModel_metre) (maxL := 4) (ret := (some .boolean)) (by decide) rfl ?_
  intro p e s m args below meth c s₁ B hml hv
  obtain ⟨rfl, hsz, hP, hK, hD0⟩ := hv
  have hx := B.exec
  have hb := B.bytes
  have hr := B.returns
  have hts := atoms_spec (ws := w_TuneSetterModel_metre) B.pre
  have hw := wall_of hts
  have hown : s.vm.findClass R_TuneSetterModel = some m.cls := findClass_of_methodNamed B.named
  have hlocks := B.notSynchronized
  subst hsz
  have hD := hDR (sz := s.heap.size) hD0
  have hA : ∀ q : Nat, s.heap.size ≤ q → AR a s.heap.size q := fun q h => Or.inr h
  have hS : va_S (AR a s.heap.size) s.heap s.heap [] := va_S.rf
  have j32 : ∀ (y1 : Int32) (y2 : Int32) (s0 : Int32) (I : Nat → Int32) (A : Nat → Nat → Int32) (H : Heap) (locs : List Loc) (ls : Array Slot), wp_TuneSetterModel_metre_32 post y1 y2 s0 I A → va_P D cls (wR cA a I A) H → va_S (AR a s.heap.size) s.heap H locs → lv_has ls 4 [(0, .ref (a 0)), (1, .int y1), (2, .int y2)] → W p l e (headSpec w_TuneSetterModel_metre ({ frames := 0, cells := 0, slots := 0, locals := 0 })).room s m [.ref (a 0), .int x1, .int x2].toArray below meth c H locs 0 0 (MQ below (va_Qi (fun r (u : StW) => post r u.1 u.2) (EndR D cA a) (AR a s.heap.size)) [.ref (a 0), .int x1, .int x2].toArray s 0 0 (AR a s.heap.size)) (F0 m 32 ls [.int s0]) := by
    intro y1 y2 s0 I A H locs ls h hP hS hl
    unfold wp_TuneSetterModel_metre_32 at h
    refine lv_istore_n (lv' := [(3, .int s0), (0, .ref (a 0)), (1, .int y1), (2, .int y2)]) hx hb d_TuneSetterModel_metre_32 rfl hl (by decide) rfl (fun ls hl => ?_)
    refine lv_aload_n hx hb d_TuneSetterModel_metre_33 rfl (lv_at hl 1 rfl) ?_
    refine lv_iload_n hx hb d_TuneSetterModel_metre_34 rfl (lv_at hl 0 rfl) ?_
    refine lv_if_eq (tgt := 42) hx hb d_TuneSetterModel_metre_35 rfl (fun q => ?_) (fun q => ?_)
    · have h := h.1 q
      refine lv_aload_n hx hb d_TuneSetterModel_metre_42 rfl (lv_at hl 1 rfl) ?_
      refine gR_TuneSetterModel_n hx hb hw hown hK hP (hw _ m_TuneSetterModel_7) d_TuneSetterModel_metre_43 ?_
      refine pR_TuneSetterModel_n hx hb hw hown hK hD hS hP (hw _ m_TuneSetterModel_7) d_TuneSetterModel_metre_46 (fun H locs hP hS => ?_)
      refine lv_aload_n hx hb d_TuneSetterModel_metre_49 rfl (lv_at hl 1 rfl) ?_
      refine lv_iload_n hx hb d_TuneSetterModel_metre_50 rfl (lv_at hl 0 rfl) ?_
      refine lv_if_eq (tgt := 58) hx hb d_TuneSetterModel_metre_51 rfl (fun q => ?_) (fun q => ?_)
      · have h := h.1 q
        refine lv_aload_n hx hb d_TuneSetterModel_metre_58 rfl (lv_at hl 1 rfl) ?_
        refine gR_TuneSetterModel_d hx hb hw hown hK hP (hw _ m_TuneSetterModel_13) d_TuneSetterModel_metre_59 ?_
        refine pR_TuneSetterModel_d hx hb hw hown hK hD hS hP (hw _ m_TuneSetterModel_13) d_TuneSetterModel_metre_62 (fun H locs hP hS => ?_)
        refine lv_iload_n hx hb d_TuneSetterModel_metre_65 rfl (lv_at hl 0 rfl) ?_
        obtain ⟨hz, h⟩ := h
        exact W.zret hx hb hr (vz_n hz) (fun t ht hW => ⟨⟨_, ((upd (upd I 0 (I 0)) 1 (I 1)), A), rfl, h, endR_of ht hP⟩, hS.F ht⟩) hS.2.2 d_TuneSetterModel_metre_66
      · have h := h.2 q
        refine lv_iload_n hx hb d_TuneSetterModel_metre_54 rfl (lv_at hl 3 rfl) ?_
        refine lv_goto (tgt := 62) hx hb d_TuneSetterModel_metre_55 rfl ?_
        refine pR_TuneSetterModel_d hx hb hw hown hK hD hS hP (hw _ m_TuneSetterModel_13) d_TuneSetterModel_metre_62 (fun H locs hP hS => ?_)
        refine lv_iload_n hx hb d_TuneSetterModel_metre_65 rfl (lv_at hl 0 rfl) ?_
        obtain ⟨hz, h⟩ := h
        exact W.zret hx hb hr (vz_n hz) (fun t ht hW => ⟨⟨_, ((upd (upd I 0 (I 0)) 1 y2), A), rfl, h, endR_of ht hP⟩, hS.F ht⟩) hS.2.2 d_TuneSetterModel_metre_66
    · have h := h.2 q
      refine lv_iload_n hx hb d_TuneSetterModel_metre_38 rfl (lv_at hl 2 rfl) ?_
      refine lv_goto (tgt := 46) hx hb d_TuneSetterModel_metre_39 rfl ?_
      refine pR_TuneSetterModel_n hx hb hw hown hK hD hS hP (hw _ m_TuneSetterModel_7) d_TuneSetterModel_metre_46 (fun H locs hP hS => ?_)
      refine lv_aload_n hx hb d_TuneSetterModel_metre_49 rfl (lv_at hl 1 rfl) ?_
      refine lv_iload_n hx hb d_TuneSetterModel_metre_50 rfl (lv_at hl 0 rfl) ?_
      refine lv_if_eq (tgt := 58) hx hb d_TuneSetterModel_metre_51 rfl (fun q => ?_) (fun q => ?_)
      · have h := h.1 q
        refine lv_aload_n hx hb d_TuneSetterModel_metre_58 rfl (lv_at hl 1 rfl) ?_
        refine gR_TuneSetterModel_d hx hb hw hown hK hP (hw _ m_TuneSetterModel_13) d_TuneSetterModel_metre_59 ?_
        refine pR_TuneSetterModel_d hx hb hw hown hK hD hS hP (hw _ m_TuneSetterModel_13) d_TuneSetterModel_metre_62 (fun H locs hP hS => ?_)
        refine lv_iload_n hx hb d_TuneSetterModel_metre_65 rfl (lv_at hl 0 rfl) ?_
        obtain ⟨hz, h⟩ := h
        exact W.zret hx hb hr (vz_n hz) (fun t ht hW => ⟨⟨_, ((upd (upd I 0 y1) 1 (I 1)), A), rfl, h, endR_of ht hP⟩, hS.F ht⟩) hS.2.2 d_TuneSetterModel_metre_66
      · have h := h.2 q
        refine lv_iload_n hx hb d_TuneSetterModel_metre_54 rfl (lv_at hl 3 rfl) ?_
        refine lv_goto (tgt := 62) hx hb d_TuneSetterModel_metre_55 rfl ?_
        refine pR_TuneSetterModel_d hx hb hw hown hK hD hS hP (hw _ m_TuneSetterModel_13) d_TuneSetterModel_metre_62 (fun H locs hP hS => ?_)
        refine lv_iload_n hx hb d_TuneSetterModel_metre_65 rfl (lv_at hl 0 rfl) ?_
        obtain ⟨hz, h⟩ := h
        exact W.zret hx hb hr (vz_n hz) (fun t ht hW => ⟨⟨_, ((upd (upd I 0 y1) 1 y2), A), rfl, h, endR_of ht hP⟩, hS.F ht⟩) hS.2.2 d_TuneSetterModel_metre_66
  have hl := lv_entry ([.ref (a 0), .int x1, .int x2]) (n := 4) (Nat.le_of_ble_eq_true rfl)
  rw [lg_entry_eq]
  generalize (lg_sl ([.ref (a 0), .int x1, .int x2]) ++ List.replicate (4 - (lg_sl ([.ref (a 0), .int x1, .int x2])).length) Slot.unset).toArray = ls at hl ⊢
  have hl : lv_has ls 4 [(0, .ref (a 0)), (1, .int x1), (2, .int x2)] := hl
  unfold wp_TuneSetterModel_metre at h
  refine lv_iload_n hx hb d_TuneSetterModel_metre_0 rfl (lv_at hl 1 rfl) ?_
  refine lv_iconst (v := 1) hx hb d_TuneSetterModel_metre_1 ic_1 ?_
  refine lv_icmp_lt (tgt := 31) hx hb d_TuneSetterModel_metre_2 rfl (fun q => ?_) (fun q => ?_)
  · have h := h.1 q
    refine lv_iconst (v := 0) hx hb d_TuneSetterModel_metre_31 ic_0 ?_
    exact j32 x1 x2 0 I A _ _ _ h hP hS (lv_sub hl [0, 1, 2] rfl)
  · have h := h.2 q
    refine lv_iload_n hx hb d_TuneSetterModel_metre_5 rfl (lv_at hl 1 rfl) ?_
    refine lv_bipush (v := 12) hx hb d_TuneSetterModel_metre_6 bp_12 ?_
    refine lv_icmp_gt (tgt := 31) hx hb d_TuneSetterModel_metre_8 rfl (fun q => ?_) (fun q => ?_)
    · have h := h.1 q
      refine lv_iconst (v := 0) hx hb d_TuneSetterModel_metre_31 ic_0 ?_
      exact j32 x1 x2 0 I A _ _ _ h hP hS (lv_sub hl [0, 1, 2] rfl)
    · have h := h.2 q
      refine lv_iload_n hx hb d_TuneSetterModel_metre_11 rfl (lv_at hl 2 rfl) ?_
      refine lv_iconst (v := 2) hx hb d_TuneSetterModel_metre_12 ic_2 ?_
      refine lv_icmp_eq (tgt := 27) hx hb d_TuneSetterModel_metre_13 rfl (fun q => ?_) (fun q => ?_)
      · have h := h.1 q
        refine lv_iconst (v := 1) hx hb d_TuneSetterModel_metre_27 ic_1 ?_
        refine lv_goto (tgt := 32) hx hb d_TuneSetterModel_metre_28 rfl ?_
        exact j32 x1 x2 1 I A _ _ _ h hP hS (lv_sub hl [0, 1, 2] rfl)
      · have h := h.2 q
        refine lv_iload_n hx hb d_TuneSetterModel_metre_16 rfl (lv_at hl 2 rfl) ?_
        refine lv_iconst (v := 4) hx hb d_TuneSetterModel_metre_17 ic_4 ?_
        refine lv_icmp_eq (tgt := 27) hx hb d_TuneSetterModel_metre_18 rfl (fun q => ?_) (fun q => ?_)
        · have h := h.1 q
          refine lv_iconst (v := 1) hx hb d_TuneSetterModel_metre_27 ic_1 ?_
          refine lv_goto (tgt := 32) hx hb d_TuneSetterModel_metre_28 rfl ?_
          exact j32 x1 x2 1 I A _ _ _ h hP hS (lv_sub hl [0, 1, 2] rfl)
        · have h := h.2 q
          refine lv_iload_n hx hb d_TuneSetterModel_metre_21 rfl (lv_at hl 2 rfl) ?_
          refine lv_bipush (v := 8) hx hb d_TuneSetterModel_metre_22 bp_8 ?_
          refine lv_icmp_ne (tgt := 31) hx hb d_TuneSetterModel_metre_24 rfl (fun q => ?_) (fun q => ?_)
          · have h := h.2 q
            refine lv_iconst (v := 0) hx hb d_TuneSetterModel_metre_31 ic_0 ?_
            exact j32 x1 x2 0 I A _ _ _ h hP hS (lv_sub hl [0, 1, 2] rfl)
          · have h := h.1 q
            refine lv_iconst (v := 1) hx hb d_TuneSetterModel_metre_27 ic_1 ?_
            refine lv_goto (tgt := 32) hx hb d_TuneSetterModel_metre_28 rfl ?_
            exact j32 x1 x2 1 I A _ _ _ h hP hS (lv_sub hl [0, 1, 2] rfl)
theorem k_TuneSetterModel_metre {p : Program} {l : Launch} {e : Env} {R : Room} {s : State} {m : MethodId} {args : Array Value} {below : List Frame} {meth : Method} {c : Code} {H : Heap} {locs : List Loc} {cells slots : Nat} {Q : State → Prop} {cc : ByteArray} {pc nL idx : Nat} {own : String} {ls : Array Slot} {D : va_G} {cA a : Nat → Nat} {AA : Nat → Prop} {I : Nat → Int32} {A : Nat → Nat → Int32} {post : Int32 → (Nat → Int32) → (Nat → Nat → Int32) → Prop} (x1 : Int32) (x2 : Int32) {rest : List Value} (S : CallFix p m c cc nL s args WALL own) (hK : KR D cA a AA s) (hD : ∀ I A, va_D AA (wR cA a I A)) (hA : ∀ q : Nat, s.heap.size ≤ q → AA q) (hS : va_S AA s.heap H locs) (hP : va_P D cls (wR cA a I A) H) (hl1 : ls.size = nL) (hlink : (Cond.methodLink own idx y_TuneSetterModel_metre).before args s = true) (hst : (rest.map fun v => v.category).sum ≤ 8) (hR : ({ frames := 0, cells := 0, slots := 0, locals := 0 } : Room).frames + 1 ≤ R.frames ∧ 8 + (4 + 11) + ({ frames := 0, cells := 0, slots := 0, locals := 0 } : Room).locals ≤ R.locals) (hcs : cells ≤ R.cells ∧ slots ≤ R.slots) (hdg : decode cc pc = .ok (.invokevirtual idx, 3)) (h : wp_TuneSetterModel_metre x1 x2 I A post) (kk : ∀ (r : Int32) (I1 : Nat → Int32) (A1 : Nat → Nat → Int32) (H1 : Heap) (locs1 : List Loc), post r I1 A1 → va_P D cls (wR cA a I1 A1) H1 → va_S AA s.heap H1 locs1 → W p l e R s m args below meth c H1 locs1 cells slots Q (F0 m (pc + 3) ls (.int r :: rest))) : W p l e R s m args below meth c H locs cells slots Q (F0 m pc ls (.int x2 :: .int x1 :: .ref (a 0) :: rest)) :=
  va_calli (va_runV (As := [.int x1, .int x2]) (rest := rest) S (c_TuneSetterModel_metre l D cA a H.size x1 x2 I A post h) ⟨callB_of 2 S.2.2.2.2 g_TuneSetterModel_metre rfl rfl rfl (S.2.2.2.2 _ mi_TuneSetterModel) hlink ⟨by decide, by decide, by decide +kernel⟩ hR, S.2.2.2.2 _ mn_TuneSetterModel_metre, S.2.2.2.2 _ ms_TuneSetterModel_metre⟩ (preRV hK hD hA hS hP 0 rfl rfl) rfl rfl hl1 rfl (lv_room hst) hdg hcs) hS (fun q _ z => AR_le hD hA hS q z) (fun q z => AR_le hD hA hS q z) (fun r u t H1 locs1 ht _ hp hB _ _ hS1 => kk r u.1 u.2 H1 locs1 hp (of_endR ht hB) hS1)
def wp_TuneSetterModel_unit_17 (post : Int32 → (Nat → Int32) → (Nat → Nat → Int32) → Prop) (y1 : Int32) (I : Nat → Int32) (A : Nat → Nat → Int32) : Prop := (((1 : Int32) = 0 → post 1 (upd I 2 (I 2)) A) ∧ (¬ (1 : Int32) = 0 → post 1 (upd I 2 y1) A))
def wp_TuneSetterModel_unit (x1 : Int32) (I : Nat → Int32) (A : Nat → Nat → Int32) (post : Int32 → (Nat → Int32) → (Nat → Nat → Int32) → Prop) : Prop := ((x1 = 4 → wp_TuneSetterModel_unit_17 post x1 I A) ∧ (¬ x1 = 4 → ((x1 = 8 → wp_TuneSetterModel_unit_17 post x1 I A) ∧ (¬ x1 = 8 → ((x1 = 16 → wp_TuneSetterModel_unit_17 post x1 I A) ∧ (¬ x1 = 16 → (((0 : Int32) = 0 → post 0 (upd I 2 (I 2)) A) ∧ (¬ (0 : Int32) = 0 → post 0 (upd I 2 x1) A))))))))
theorem d_TuneSetterModel_unit_0 : decode b_TuneSetterModel_unit 0 = .ok (.iload_n 1, 1) := by decide +kernel
theorem d_TuneSetterModel_unit_1 : decode b_TuneSetterModel_unit 1 = .ok (.iconst 4, 1) := by decide +kernel
theorem d_TuneSetterModel_unit_2 : decode b_TuneSetterModel_unit 2 = .ok (.if_icmp .eq 15, 3) := by decide +kernel
theorem d_TuneSetterModel_unit_5 : decode b_TuneSetterModel_unit 5 = .ok (.iload_n 1, 1) := by decide +kernel
theorem d_TuneSetterModel_unit_6 : decode b_TuneSetterModel_unit 6 = .ok (.bipush 8, 2) := by decide +kernel
theorem d_TuneSetterModel_unit_8 : decode b_TuneSetterModel_unit 8 = .ok (.if_icmp .eq 9, 3) := by decide +kernel
theorem d_TuneSetterModel_unit_11 : decode b_TuneSetterModel_unit 11 = .ok (.iload_n 1, 1) := by decide +kernel
theorem d_TuneSetterModel_unit_12 : decode b_TuneSetterModel_unit 12 = .ok (.bipush 16, 2) := by decide +kernel
theorem d_TuneSetterModel_unit_14 : decode b_TuneSetterModel_unit 14 = .ok (.if_icmp .ne 7, 3) := by decide +kernel
theorem d_TuneSetterModel_unit_17 : decode b_TuneSetterModel_unit 17 = .ok (.iconst 1, 1) := by decide +kernel
theorem d_TuneSetterModel_unit_18 : decode b_TuneSetterModel_unit 18 = .ok (.goto 4, 3) := by decide +kernel
theorem d_TuneSetterModel_unit_21 : decode b_TuneSetterModel_unit 21 = .ok (.iconst 0, 1) := by decide +kernel
theorem d_TuneSetterModel_unit_22 : decode b_TuneSetterModel_unit 22 = .ok (.istore_n 2, 1) := by decide +kernel
theorem d_TuneSetterModel_unit_23 : decode b_TuneSetterModel_unit 23 = .ok (.aload_n 0, 1) := by decide +kernel
theorem d_TuneSetterModel_unit_24 : decode b_TuneSetterModel_unit 24 = .ok (.iload_n 2, 1) := by decide +kernel
theorem d_TuneSetterModel_unit_25 : decode b_TuneSetterModel_unit 25 = .ok (.ifCond .eq 7, 3) := by decide +kernel
theorem d_TuneSetterModel_unit_28 : decode b_TuneSetterModel_unit 28 = .ok (.iload_n 1, 1) := by decide +kernel
theorem d_TuneSetterModel_unit_29 : decode b_TuneSetterModel_unit 29 = .ok (.goto 7, 3) := by decide +kernel
theorem d_TuneSetterModel_unit_32 : decode b_TuneSetterModel_unit 32 = .ok (.aload_n 0, 1) := by decide +kernel
theorem d_TuneSetterModel_unit_33 : decode b_TuneSetterModel_unit 33 = .ok (.getfield 16, 3) := by decide +kernel
theorem d_TuneSetterModel_unit_36 : decode b_TuneSetterModel_unit 36 = .ok (.putfield 16, 3) := by decide +kernel
theorem d_TuneSetterModel_unit_39 : decode b_TuneSetterModel_unit 39 = .ok (.iload_n 2, 1) := by decide +kernel
theorem d_TuneSetterModel_unit_40 : decode b_TuneSetterModel_unit 40 = .ok (.ireturn, 1) := by decide +kernel
def w_TuneSetterModel_unit : List Cond := .code y_TuneSetterModel_unit b_TuneSetterModel_unit 3 (some .boolean) :: WALL
theorem g_TuneSetterModel_unit : GoodIn WALL w_TuneSetterModel_unit := good_of mc_TuneSetterModel_unit
set_option maxHeartbeats 4000000 in
set_option maxRecDepth 100000 in
theorem c_TuneSetterModel_unit (l : Launch) (D : va_G) (cA a : Nat → Nat) (sz : Nat) (x1 : Int32) (I : Nat → Int32) (A : Nat → Nat → Int32) (post : Int32 → (Nat → Int32) → (Nat → Nat → Int32) → Prop) (h : wp_TuneSetterModel_unit x1 I A post) : Met l y_TuneSetterModel_unit w_TuneSetterModel_unit ({ frames := 0, cells := 0, slots := 0, locals := 0 }) (va_Pc [.ref (a 0), .int x1] (PreR D cA a I A sz)) (va_Qi (fun r (u : StW) => post r u.1 u.2) (EndR D cA a) (AR a sz)) 0 0 (AR a sz) := by
  refine Met.ofW (cc := b_TuneSetterModel_unit) (maxL := 3) (ret := (some .boolean)) (by decide) rfl ?_
  intro p e s m args below meth c s₁ B hml hv
  obtain ⟨rfl, hsz, hP, hK, hD0⟩ := hv
  have hx := B.exec
  have hb := B.bytes
  have hr := B.returns
  have hts := atoms_spec (ws := w_TuneSetterModel_unit) B.pre
  have hw := wall_of hts
  have hown : s.vm.findClass R_TuneSetterModel = some m.cls := findClass_of_methodNamed B.named
  have hlocks := B.notSynchronized
  subst hsz
  have hD := hDR (sz := s.heap.size) hD0
  have hA : ∀ q : Nat, s.heap.size ≤ q → AR a s.heap.size q := fun q h => Or.inr h
  have hS : va_S (AR a s.heap.size) s.heap s.heap [] := va_S.rf
  have j17 : ∀ (y1 : Int32) (I : Nat → Int32) (A : Nat → Nat → Int32) (H : Heap) (locs : List Loc) (ls : Array Slot), wp_TuneSetterModel_unit_17 post y1 I A → va_P D cls (wR cA a I A) H → va_S (AR a s.heap.size) s.heap H locs → lv_has ls 3 [(0, .ref (a 0)), (1, .int y1)] → W p l e (headSpec w_TuneSetterModel_unit ({ frames := 0, cells := 0, slots := 0, locals := 0 })).room s m [.ref (a 0), .int x1].toArray below meth c H locs 0 0 (MQ below (va_Qi (fun r (u : StW) => post r u.1 u.2) (EndR D cA a) (AR a s.heap.size)) [.ref (a 0), .int x1].toArray s 0 0 (AR a s.heap.size)) (F0 m 17 ls []) := by
    intro y1 I A H locs ls h hP hS hl
    unfold wp_TuneSetterModel_unit_17 at h
    refine lv_iconst (v := 1) hx hb d_TuneSetterModel_unit_17 ic_1 ?_
    refine lv_goto (tgt := 22) hx hb d_TuneSetterModel_unit_18 rfl ?_
    refine lv_istore_n (lv' := [(2, .int 1), (0, .ref (a 0)), (1, .int y1)]) hx hb d_TuneSetterModel_unit_22 rfl hl (by decide) rfl (fun ls hl => ?_)
    refine lv_aload_n hx hb d_TuneSetterModel_unit_23 rfl (lv_at hl 1 rfl) ?_
    refine lv_iload_n hx hb d_TuneSetterModel_unit_24 rfl (lv_at hl 0 rfl) ?_
    refine lv_if_eq (tgt := 32) hx hb d_TuneSetterModel_unit_25 rfl (fun q => ?_) (fun q => ?_)
    · have h := h.1 q
      refine lv_aload_n hx hb d_TuneSetterModel_unit_32 rfl (lv_at hl 1 rfl) ?_
      refine gR_TuneSetterModel_u hx hb hw hown hK hP (hw _ m_TuneSetterModel_16) d_TuneSetterModel_unit_33 ?_
      refine pR_TuneSetterModel_u hx hb hw hown hK hD hS hP (hw _ m_TuneSetterModel_16) d_TuneSetterModel_unit_36 (fun H locs hP hS => ?_)
      refine lv_iload_n hx hb d_TuneSetterModel_unit_39 rfl (lv_at hl 0 rfl) ?_
      exact W.zret hx hb hr (vz_n vz1) (fun t ht hW => ⟨⟨_, ((upd I 2 (I 2)), A), rfl, h, endR_of ht hP⟩, hS.F ht⟩) hS.2.2 d_TuneSetterModel_unit_40
    · have h := h.2 q
      refine lv_iload_n hx hb d_TuneSetterModel_unit_28 rfl (lv_at hl 2 rfl) ?_
      refine lv_goto (tgt := 36) hx hb d_TuneSetterModel_unit_29 rfl ?_
      refine pR_TuneSetterModel_u hx hb hw hown hK hD hS hP (hw _ m_TuneSetterModel_16) d_TuneSetterModel_unit_36 (fun H locs hP hS => ?_)
      refine lv_iload_n hx hb d_TuneSetterModel_unit_39 rfl (lv_at hl 0 rfl) ?_
      exact W.zret hx hb hr (vz_n vz1) (fun t ht hW => ⟨⟨_, ((upd I 2 y1), A), rfl, h, endR_of ht hP⟩, hS.F ht⟩) hS.2.2 d_TuneSetterModel_unit_40
  have hl := lv_entry ([.ref (a 0), .int x1]) (n := 3) (Nat.le_of_ble_eq_true rfl)
  rw [lg_entry_eq]
  generalize (lg_sl ([.ref (a 0), .int x1]) ++ List.replicate (3 - (lg_sl ([.ref (a 0), .int x1])).length) Slot.unset).toArray = ls at hl ⊢
  have hl : lv_has ls 3 [(0, .ref (a 0)), (1, .int x1)] := hl
  unfold wp_TuneSetterModel_unit at h
  refine lv_iload_n hx hb d_TuneSetterModel_unit_0 rfl (lv_at hl 1 rfl) ?_
  refine lv_iconst (v := 4) hx hb d_TuneSetterModel_unit_1 ic_4 ?_
  refine lv_icmp_eq (tgt := 17) hx hb d_TuneSetterModel_unit_2 rfl (fun q => ?_) (fun q => ?_)
  · have h := h.1 q
    exact j17 x1 I A _ _ _ h hP hS (lv_sub hl [0, 1] rfl)
  · have h := h.2 q
    refine lv_iload_n hx hb d_TuneSetterModel_unit_5 rfl (lv_at hl 1 rfl) ?_
    refine lv_bipush (v := 8) hx hb d_TuneSetterModel_unit_6 bp_8 ?_
    refine lv_icmp_eq (tgt := 17) hx hb d_TuneSetterModel_unit_8 rfl (fun q => ?_) (fun q => ?_)
    · have h := h.1 q
      exact j17 x1 I A _ _ _ h hP hS (lv_sub hl [0, 1] rfl)
    · have h := h.2 q
      refine lv_iload_n hx hb d_TuneSetterModel_unit_11 rfl (lv_at hl 1 rfl) ?_
      refine lv_bipush (v := 16) hx hb d_TuneSetterModel_unit_12 bp_16 ?_
      refine lv_icmp_ne (tgt := 21) hx hb d_TuneSetterModel_unit_14 rfl (fun q => ?_) (fun q => ?_)
      · have h := h.2 q
        refine lv_iconst (v := 0) hx hb d_TuneSetterModel_unit_21 ic_0 ?_
        refine lv_istore_n (lv' := [(2, .int 0), (0, .ref (a 0)), (1, .int x1)]) hx hb d_TuneSetterModel_unit_22 rfl hl (by decide) rfl (fun ls hl => ?_)
        refine lv_aload_n hx hb d_TuneSetterModel_unit_23 rfl (lv_at hl 1 rfl) ?_
        refine lv_iload_n hx hb d_TuneSetterModel_unit_24 rfl (lv_at hl 0 rfl) ?_
        refine lv_if_eq (tgt := 32) hx hb d_TuneSetterModel_unit_25 rfl (fun q => ?_) (fun q => ?_)
        · have h := h.1 q
          refine lv_aload_n hx hb d_TuneSetterModel_unit_32 rfl (lv_at hl 1 rfl) ?_
          refine gR_TuneSetterModel_u hx hb hw hown hK hP (hw _ m_TuneSetterModel_16) d_TuneSetterModel_unit_33 ?_
          refine pR_TuneSetterModel_u hx hb hw hown hK hD hS hP (hw _ m_TuneSetterModel_16) d_TuneSetterModel_unit_36 (fun H locs hP hS => ?_)
          refine lv_iload_n hx hb d_TuneSetterModel_unit_39 rfl (lv_at hl 0 rfl) ?_
          exact W.zret hx hb hr (vz_n vz0) (fun t ht hW => ⟨⟨_, ((upd I 2 (I 2)), A), rfl, h, endR_of ht hP⟩, hS.F ht⟩) hS.2.2 d_TuneSetterModel_unit_40
        · have h := h.2 q
          refine lv_iload_n hx hb d_TuneSetterModel_unit_28 rfl (lv_at hl 2 rfl) ?_
          refine lv_goto (tgt := 36) hx hb d_TuneSetterModel_unit_29 rfl ?_
          refine pR_TuneSetterModel_u hx hb hw hown hK hD hS hP (hw _ m_TuneSetterModel_16) d_TuneSetterModel_unit_36 (fun H locs hP hS => ?_)
          refine lv_iload_n hx hb d_TuneSetterModel_unit_39 rfl (lv_at hl 0 rfl) ?_
          exact W.zret hx hb hr (vz_n vz0) (fun t ht hW => ⟨⟨_, ((upd I 2 x1), A), rfl, h, endR_of ht hP⟩, hS.F ht⟩) hS.2.2 d_TuneSetterModel_unit_40
      · have h := h.1 q
        exact j17 x1 I A _ _ _ h hP hS (lv_sub hl [0, 1] rfl)
theorem k_TuneSetterModel_unit {p : Program} {l : Launch} {e : Env} {R : Room} {s : State} {m : MethodId} {args : Array Value} {below : List Frame} {meth : Method} {c : Code} {H : Heap} {locs : List Loc} {cells slots : Nat} {Q : State → Prop} {cc : ByteArray} {pc nL idx : Nat} {own : String} {ls : Array Slot} {D : va_G} {cA a : Nat → Nat} {AA : Nat → Prop} {I : Nat → Int32} {A : Nat → Nat → Int32} {post : Int32 → (Nat → Int32) → (Nat → Nat → Int32) → Prop} (x1 : Int32) {rest : List Value} (S : CallFix p m c cc nL s args WALL own) (hK : KR D cA a AA s) (hD : ∀ I A, va_D AA (wR cA a I A)) (hA : ∀ q : Nat, s.heap.size ≤ q → AA q) (hS : va_S AA s.heap H locs) (hP : va_P D cls (wR cA a I A) H) (hl1 : ls.size = nL) (hlink : (Cond.methodLink own idx y_TuneSetterModel_unit).before args s = true) (hst : (rest.map fun v => v.category).sum ≤ 8) (hR : ({ frames := 0, cells := 0, slots := 0, locals := 0 } : Room).frames + 1 ≤ R.frames ∧ 8 + (3 + 11) + ({ frames := 0, cells := 0, slots := 0, locals := 0 } : Room).locals ≤ R.locals) (hcs : cells ≤ R.cells ∧ slots ≤ R.slots) (hdg : decode cc pc = .ok (.invokevirtual idx, 3)) (h : wp_TuneSetterModel_unit x1 I A post) (kk : ∀ (r : Int32) (I1 : Nat → Int32) (A1 : Nat → Nat → Int32) (H1 : Heap) (locs1 : List Loc), post r I1 A1 → va_P D cls (wR cA a I1 A1) H1 → va_S AA s.heap H1 locs1 → W p l e R s m args below meth c H1 locs1 cells slots Q (F0 m (pc + 3) ls (.int r :: rest))) : W p l e R s m args below meth c H locs cells slots Q (F0 m pc ls (.int x1 :: .ref (a 0) :: rest)) :=
  va_calli (va_runV (As := [.int x1]) (rest := rest) S (c_TuneSetterModel_unit l D cA a H.size x1 I A post h) ⟨callB_of 1 S.2.2.2.2 g_TuneSetterModel_unit rfl rfl rfl (S.2.2.2.2 _ mi_TuneSetterModel) hlink ⟨by decide, by decide, by decide +kernel⟩ hR, S.2.2.2.2 _ mn_TuneSetterModel_unit, S.2.2.2.2 _ ms_TuneSetterModel_unit⟩ (preRV hK hD hA hS hP 0 rfl rfl) rfl rfl hl1 rfl (lv_room hst) hdg hcs) hS (fun q _ z => AR_le hD hA hS q z) (fun q z => AR_le hD hA hS q z) (fun r u t H1 locs1 ht _ hp hB _ _ hS1 => kk r u.1 u.2 H1 locs1 hp (of_endR ht hB) hS1)
def wp_TuneSetterModel_key_16 (post : Int32 → (Nat → Int32) → (Nat → Nat → Int32) → Prop) (y1 : Int32) (I : Nat → Int32) (A : Nat → Nat → Int32) : Prop := (((0 : Int32) = 0 → post 0 (upd I 3 (I 3)) A) ∧ (¬ (0 : Int32) = 0 → post 0 (upd I 3 y1) A))
def wp_TuneSetterModel_key (x1 : Int32) (I : Nat → Int32) (A : Nat → Nat → Int32) (post : Int32 → (Nat → Int32) → (Nat → Nat → Int32) → Prop) : Prop := ((x1 < (-7) → wp_TuneSetterModel_key_16 post x1 I A) ∧ (¬ x1 < (-7) → ((7 < x1 → wp_TuneSetterModel_key_16 post x1 I A) ∧ (¬ 7 < x1 → (((1 : Int32) = 0 → post 1 (upd I 3 (I 3)) A) ∧ (¬ (1 : Int32) = 0 → post 1 (upd I 3 x1) A))))))
theorem d_TuneSetterModel_key_0 : decode b_TuneSetterModel_key 0 = .ok (.iload_n 1, 1) := by decide +kernel
theorem d_TuneSetterModel_key_1 : decode b_TuneSetterModel_key 1 = .ok (.bipush (-7), 2) := by decide +kernel
theorem d_TuneSetterModel_key_3 : decode b_TuneSetterModel_key 3 = .ok (.if_icmp .lt 13, 3) := by decide +kernel
theorem d_TuneSetterModel_key_6 : decode b_TuneSetterModel_key 6 = .ok (.iload_n 1, 1) := by decide +kernel
theorem d_TuneSetterModel_key_7 : decode b_TuneSetterModel_key 7 = .ok (.bipush 7, 2) := by decide +kernel
theorem d_TuneSetterModel_key_9 : decode b_TuneSetterModel_key 9 = .ok (.if_icmp .gt 7, 3) := by decide +kernel
theorem d_TuneSetterModel_key_12 : decode b_TuneSetterModel_key 12 = .ok (.iconst 1, 1) := by decide +kernel
theorem d_TuneSetterModel_key_13 : decode b_TuneSetterModel_key 13 = .ok (.goto 4, 3) := by decide +kernel
theorem d_TuneSetterModel_key_16 : decode b_TuneSetterModel_key 16 = .ok (.iconst 0, 1) := by decide +kernel
theorem d_TuneSetterModel_key_17 : decode b_TuneSetterModel_key 17 = .ok (.istore_n 2, 1) := by decide +kernel
theorem d_TuneSetterModel_key_18 : decode b_TuneSetterModel_key 18 = .ok (.aload_n 0, 1) := by decide +kernel
theorem d_TuneSetterModel_key_19 : decode b_TuneSetterModel_key 19 = .ok (.iload_n 2, 1) := by decide +kernel
theorem d_TuneSetterModel_key_20 : decode b_TuneSetterModel_key 20 = .ok (.ifCond .eq 7, 3) := by decide +kernel
theorem d_TuneSetterModel_key_23 : decode b_TuneSetterModel_key 23 = .ok (.iload_n 1, 1) := by decide +kernel
theorem d_TuneSetterModel_key_24 : decode b_TuneSetterModel_key 24 = .ok (.goto 7, 3) := by decide +kernel
theorem d_TuneSetterModel_key_27 : decode b_TuneSetterModel_key 27 = .ok (.aload_n 0, 1) := by decide +kernel
theorem d_TuneSetterModel_key_28 : decode b_TuneSetterModel_key 28 = .ok (.getfield 81, 3) := by decide +kernel
theorem d_TuneSetterModel_key_31 : decode b_TuneSetterModel_key 31 = .ok (.putfield 81, 3) := by decide +kernel
theorem d_TuneSetterModel_key_34 : decode b_TuneSetterModel_key 34 = .ok (.iload_n 2, 1) := by decide +kernel
theorem d_TuneSetterModel_key_35 : decode b_TuneSetterModel_key 35 = .ok (.ireturn, 1) := by decide +kernel
def w_TuneSetterModel_key : List Cond := .code y_TuneSetterModel_key b_TuneSetterModel_key 3 (some .boolean) :: WALL
theorem g_TuneSetterModel_key : GoodIn WALL w_TuneSetterModel_key := good_of mc_TuneSetterModel_key
set_option maxHeartbeats 4000000 in
set_option maxRecDepth 100000 in
theorem c_TuneSetterModel_key (l : Launch) (D : va_G) (cA a : Nat → Nat) (sz : Nat) (x1 : Int32) (I : Nat → Int32) (A : Nat → Nat → Int32) (post : Int32 → (Nat → Int32) → (Nat → Nat → Int32) → Prop) (h : wp_TuneSetterModel_key x1 I A post) : Met l y_TuneSetterModel_key w_TuneSetterModel_key ({ frames := 0, cells := 0, slots := 0, locals := 0 }) (va_Pc [.ref (a 0), .int x1] (PreR D cA a I A sz)) (va_Qi (fun r (u : StW) => post r u.1 u.2) (EndR D cA a) (AR a sz)) 0 0 (AR a sz) := by
  refine Met.ofW (cc := b_TuneSetterModel_key) (maxL := 3) (ret := (some .boolean)) (by decide) rfl ?_
  intro p e s m args below meth c s₁ B hml hv
  obtain ⟨rfl, hsz, hP, hK, hD0⟩ := hv
  have hx := B.exec
  have hb := B.bytes
  have hr := B.returns
  have hts := atoms_spec (ws := w_TuneSetterModel_key) B.pre
  have hw := wall_of hts
  have hown : s.vm.findClass R_TuneSetterModel = some m.cls := findClass_of_methodNamed B.named
  have hlocks := B.notSynchronized
  subst hsz
  have hD := hDR (sz := s.heap.size) hD0
  have hA : ∀ q : Nat, s.heap.size ≤ q → AR a s.heap.size q := fun q h => Or.inr h
  have hS : va_S (AR a s.heap.size) s.heap s.heap [] := va_S.rf
  have j16 : ∀ (y1 : Int32) (I : Nat → Int32) (A : Nat → Nat → Int32) (H : Heap) (locs : List Loc) (ls : Array Slot), wp_TuneSetterModel_key_16 post y1 I A → va_P D cls (wR cA a I A) H → va_S (AR a s.heap.size) s.heap H locs → lv_has ls 3 [(0, .ref (a 0)), (1, .int y1)] → W p l e (headSpec w_TuneSetterModel_key ({ frames := 0, cells := 0, slots := 0, locals := 0 })).room s m [.ref (a 0), .int x1].toArray below meth c H locs 0 0 (MQ below (va_Qi (fun r (u : StW) => post r u.1 u.2) (EndR D cA a) (AR a s.heap.size)) [.ref (a 0), .int x1].toArray s 0 0 (AR a s.heap.size)) (F0 m 16 ls []) := by
    intro y1 I A H locs ls h hP hS hl
    unfold wp_TuneSetterModel_key_16 at h
    refine lv_iconst (v := 0) hx hb d_TuneSetterModel_key_16 ic_0 ?_
    refine lv_istore_n (lv' := [(2, .int 0), (0, .ref (a 0)), (1, .int y1)]) hx hb d_TuneSetterModel_key_17 rfl hl (by decide) rfl (fun ls hl => ?_)
    refine lv_aload_n hx hb d_TuneSetterModel_key_18 rfl (lv_at hl 1 rfl) ?_
    refine lv_iload_n hx hb d_TuneSetterModel_key_19 rfl (lv_at hl 0 rfl) ?_
    refine lv_if_eq (tgt := 27) hx hb d_TuneSetterModel_key_20 rfl (fun q => ?_) (fun q => ?_)
    · have h := h.1 q
      refine lv_aload_n hx hb d_TuneSetterModel_key_27 rfl (lv_at hl 1 rfl) ?_
      refine gR_TuneSetterModel_sharps hx hb hw hown hK hP (hw _ m_TuneSetterModel_81) d_TuneSetterModel_key_28 ?_
      refine pR_TuneSetterModel_sharps hx hb hw hown hK hD hS hP (hw _ m_TuneSetterModel_81) d_TuneSetterModel_key_31 (fun H locs hP hS => ?_)
      refine lv_iload_n hx hb d_TuneSetterModel_key_34 rfl (lv_at hl 0 rfl) ?_
      exact W.zret hx hb hr (vz_n vz0) (fun t ht hW => ⟨⟨_, ((upd I 3 (I 3)), A), rfl, h, endR_of ht hP⟩, hS.F ht⟩) hS.2.2 d_TuneSetterModel_key_35
    · have h := h.2 q
      refine lv_iload_n hx hb d_TuneSetterModel_key_23 rfl (lv_at hl 2 rfl) ?_
      refine lv_goto (tgt := 31) hx hb d_TuneSetterModel_key_24 rfl ?_
      refine pR_TuneSetterModel_sharps hx hb hw hown hK hD hS hP (hw _ m_TuneSetterModel_81) d_TuneSetterModel_key_31 (fun H locs hP hS => ?_)
      refine lv_iload_n hx hb d_TuneSetterModel_key_34 rfl (lv_at hl 0 rfl) ?_
      exact W.zret hx hb hr (vz_n vz0) (fun t ht hW => ⟨⟨_, ((upd I 3 y1), A), rfl, h, endR_of ht hP⟩, hS.F ht⟩) hS.2.2 d_TuneSetterModel_key_35
  have hl := lv_entry ([.ref (a 0), .int x1]) (n := 3) (Nat.le_of_ble_eq_true rfl)
  rw [lg_entry_eq]
  generalize (lg_sl ([.ref (a 0), .int x1]) ++ List.replicate (3 - (lg_sl ([.ref (a 0), .int x1])).length) Slot.unset).toArray = ls at hl ⊢
  have hl : lv_has ls 3 [(0, .ref (a 0)), (1, .int x1)] := hl
  unfold wp_TuneSetterModel_key at h
  refine lv_iload_n hx hb d_TuneSetterModel_key_0 rfl (lv_at hl 1 rfl) ?_
  refine lv_bipush (v := (-7)) hx hb d_TuneSetterModel_key_1 bp_m7 ?_
  refine lv_icmp_lt (tgt := 16) hx hb d_TuneSetterModel_key_3 rfl (fun q => ?_) (fun q => ?_)
  · have h := h.1 q
    exact j16 x1 I A _ _ _ h hP hS (lv_sub hl [0, 1] rfl)
  · have h := h.2 q
    refine lv_iload_n hx hb d_TuneSetterModel_key_6 rfl (lv_at hl 1 rfl) ?_
    refine lv_bipush (v := 7) hx hb d_TuneSetterModel_key_7 bp_7 ?_
    refine lv_icmp_gt (tgt := 16) hx hb d_TuneSetterModel_key_9 rfl (fun q => ?_) (fun q => ?_)
    · have h := h.1 q
      exact j16 x1 I A _ _ _ h hP hS (lv_sub hl [0, 1] rfl)
    · have h := h.2 q
      refine lv_iconst (v := 1) hx hb d_TuneSetterModel_key_12 ic_1 ?_
      refine lv_goto (tgt := 17) hx hb d_TuneSetterModel_key_13 rfl ?_
      refine lv_istore_n (lv' := [(2, .int 1), (0, .ref (a 0)), (1, .int x1)]) hx hb d_TuneSetterModel_key_17 rfl hl (by decide) rfl (fun ls hl => ?_)
      refine lv_aload_n hx hb d_TuneSetterModel_key_18 rfl (lv_at hl 1 rfl) ?_
      refine lv_iload_n hx hb d_TuneSetterModel_key_19 rfl (lv_at hl 0 rfl) ?_
      refine lv_if_eq (tgt := 27) hx hb d_TuneSetterModel_key_20 rfl (fun q => ?_) (fun q => ?_)
      · have h := h.1 q
        refine lv_aload_n hx hb d_TuneSetterModel_key_27 rfl (lv_at hl 1 rfl) ?_
        refine gR_TuneSetterModel_sharps hx hb hw hown hK hP (hw _ m_TuneSetterModel_81) d_TuneSetterModel_key_28 ?_
        refine pR_TuneSetterModel_sharps hx hb hw hown hK hD hS hP (hw _ m_TuneSetterModel_81) d_TuneSetterModel_key_31 (fun H locs hP hS => ?_)
        refine lv_iload_n hx hb d_TuneSetterModel_key_34 rfl (lv_at hl 0 rfl) ?_
        exact W.zret hx hb hr (vz_n vz1) (fun t ht hW => ⟨⟨_, ((upd I 3 (I 3)), A), rfl, h, endR_of ht hP⟩, hS.F ht⟩) hS.2.2 d_TuneSetterModel_key_35
      · have h := h.2 q
        refine lv_iload_n hx hb d_TuneSetterModel_key_23 rfl (lv_at hl 2 rfl) ?_
        refine lv_goto (tgt := 31) hx hb d_TuneSetterModel_key_24 rfl ?_
        refine pR_TuneSetterModel_sharps hx hb hw hown hK hD hS hP (hw _ m_TuneSetterModel_81) d_TuneSetterModel_key_31 (fun H locs hP hS => ?_)
        refine lv_iload_n hx hb d_TuneSetterModel_key_34 rfl (lv_at hl 0 rfl) ?_
        exact W.zret hx hb hr (vz_n vz1) (fun t ht hW => ⟨⟨_, ((upd I 3 x1), A), rfl, h, endR_of ht hP⟩, hS.F ht⟩) hS.2.2 d_TuneSetterModel_key_35
theorem k_TuneSetterModel_key {p : Program} {l : Launch} {e : Env} {R : Room} {s : State} {m : MethodId} {args : Array Value} {below : List Frame} {meth : Method} {c : Code} {H : Heap} {locs : List Loc} {cells slots : Nat} {Q : State → Prop} {cc : ByteArray} {pc nL idx : Nat} {own : String} {ls : Array Slot} {D : va_G} {cA a : Nat → Nat} {AA : Nat → Prop} {I : Nat → Int32} {A : Nat → Nat → Int32} {post : Int32 → (Nat → Int32) → (Nat → Nat → Int32) → Prop} (x1 : Int32) {rest : List Value} (S : CallFix p m c cc nL s args WALL own) (hK : KR D cA a AA s) (hD : ∀ I A, va_D AA (wR cA a I A)) (hA : ∀ q : Nat, s.heap.size ≤ q → AA q) (hS : va_S AA s.heap H locs) (hP : va_P D cls (wR cA a I A) H) (hl1 : ls.size = nL) (hlink : (Cond.methodLink own idx y_TuneSetterModel_key).before args s = true) (hst : (rest.map fun v => v.category).sum ≤ 8) (hR : ({ frames := 0, cells := 0, slots := 0, locals := 0 } : Room).frames + 1 ≤ R.frames ∧ 8 + (3 + 11) + ({ frames := 0, cells := 0, slots := 0, locals := 0 } : Room).locals ≤ R.locals) (hcs : cells ≤ R.cells ∧ slots ≤ R.slots) (hdg : decode cc pc = .ok (.invokevirtual idx, 3)) (h : wp_TuneSetterModel_key x1 I A post) (kk : ∀ (r : Int32) (I1 : Nat → Int32) (A1 : Nat → Nat → Int32) (H1 : Heap) (locs1 : List Loc), post r I1 A1 → va_P D cls (wR cA a I1 A1) H1 → va_S AA s.heap H1 locs1 → W p l e R s m args below meth c H1 locs1 cells slots Q (F0 m (pc + 3) ls (.int r :: rest))) : W p l e R s m args below meth c H locs cells slots Q (F0 m pc ls (.int x1 :: .ref (a 0) :: rest)) :=
  va_calli (va_runV (As := [.int x1]) (rest := rest) S (c_TuneSetterModel_key l D cA a H.size x1 I A post h) ⟨callB_of 1 S.2.2.2.2 g_TuneSetterModel_key rfl rfl rfl (S.2.2.2.2 _ mi_TuneSetterModel) hlink ⟨by decide, by decide, by decide +kernel⟩ hR, S.2.2.2.2 _ mn_TuneSetterModel_key, S.2.2.2.2 _ ms_TuneSetterModel_key⟩ (preRV hK hD hA hS hP 0 rfl rfl) rfl rfl hl1 rfl (lv_room hst) hdg hcs) hS (fun q _ z => AR_le hD hA hS q z) (fun q z => AR_le hD hA hS q z) (fun r u t H1 locs1 ht _ hp hB _ _ hS1 => kk r u.1 u.2 H1 locs1 hp (of_endR ht hB) hS1)
def wp_TuneSetterModel_type (x1 : Int32) (I : Nat → Int32) (A : Nat → Nat → Int32) (post : Int32 → (Nat → Int32) → (Nat → Nat → Int32) → Prop) : Prop := ((x1 < 32 → post 0 I A) ∧ (¬ x1 < 32 → ((126 < x1 → post 0 I A) ∧ (¬ 126 < x1 → (((I 4) = 120 → post 0 I A) ∧ (¬ (I 4) = 120 → (vp_in (I 4) 121 ∧ post 1 (upd I 4 ((I 4) + 1)) (upd2 A 1 ((I 4).toNatClampNeg) x1))))))))
theorem d_TuneSetterModel_type_0 : decode b_TuneSetterModel_type 0 = .ok (.iload_n 1, 1) := by decide +kernel
theorem d_TuneSetterModel_type_1 : decode b_TuneSetterModel_type 1 = .ok (.bipush 32, 2) := by decide +kernel
theorem d_TuneSetterModel_type_3 : decode b_TuneSetterModel_type 3 = .ok (.if_icmp .lt 18, 3) := by decide +kernel
theorem d_TuneSetterModel_type_6 : decode b_TuneSetterModel_type 6 = .ok (.iload_n 1, 1) := by decide +kernel
theorem d_TuneSetterModel_type_7 : decode b_TuneSetterModel_type 7 = .ok (.bipush 126, 2) := by decide +kernel
theorem d_TuneSetterModel_type_9 : decode b_TuneSetterModel_type 9 = .ok (.if_icmp .gt 12, 3) := by decide +kernel
theorem d_TuneSetterModel_type_12 : decode b_TuneSetterModel_type 12 = .ok (.aload_n 0, 1) := by decide +kernel
theorem d_TuneSetterModel_type_13 : decode b_TuneSetterModel_type 13 = .ok (.getfield 84, 3) := by decide +kernel
theorem d_TuneSetterModel_type_16 : decode b_TuneSetterModel_type 16 = .ok (.bipush 120, 2) := by decide +kernel
theorem d_TuneSetterModel_type_18 : decode b_TuneSetterModel_type 18 = .ok (.if_icmp .ne 5, 3) := by decide +kernel
theorem d_TuneSetterModel_type_21 : decode b_TuneSetterModel_type 21 = .ok (.iconst 0, 1) := by decide +kernel
theorem d_TuneSetterModel_type_22 : decode b_TuneSetterModel_type 22 = .ok (.ireturn, 1) := by decide +kernel
theorem d_TuneSetterModel_type_23 : decode b_TuneSetterModel_type 23 = .ok (.aload_n 0, 1) := by decide +kernel
theorem d_TuneSetterModel_type_24 : decode b_TuneSetterModel_type 24 = .ok (.getfield 19, 3) := by decide +kernel
theorem d_TuneSetterModel_type_27 : decode b_TuneSetterModel_type 27 = .ok (.aload_n 0, 1) := by decide +kernel
theorem d_TuneSetterModel_type_28 : decode b_TuneSetterModel_type 28 = .ok (.getfield 84, 3) := by decide +kernel
theorem d_TuneSetterModel_type_31 : decode b_TuneSetterModel_type 31 = .ok (.iload_n 1, 1) := by decide +kernel
theorem d_TuneSetterModel_type_32 : decode b_TuneSetterModel_type 32 = .ok (.iastore, 1) := by decide +kernel
theorem d_TuneSetterModel_type_33 : decode b_TuneSetterModel_type 33 = .ok (.aload_n 0, 1) := by decide +kernel
theorem d_TuneSetterModel_type_34 : decode b_TuneSetterModel_type 34 = .ok (.dup, 1) := by decide +kernel
theorem d_TuneSetterModel_type_35 : decode b_TuneSetterModel_type 35 = .ok (.getfield 84, 3) := by decide +kernel
theorem d_TuneSetterModel_type_38 : decode b_TuneSetterModel_type 38 = .ok (.iconst 1, 1) := by decide +kernel
theorem d_TuneSetterModel_type_39 : decode b_TuneSetterModel_type 39 = .ok (.iadd, 1) := by decide +kernel
theorem d_TuneSetterModel_type_40 : decode b_TuneSetterModel_type 40 = .ok (.putfield 84, 3) := by decide +kernel
theorem d_TuneSetterModel_type_43 : decode b_TuneSetterModel_type 43 = .ok (.iconst 1, 1) := by decide +kernel
theorem d_TuneSetterModel_type_44 : decode b_TuneSetterModel_type 44 = .ok (.ireturn, 1) := by decide +kernel
def w_TuneSetterModel_type : List Cond := .code y_TuneSetterModel_type b_TuneSetterModel_type 2 (some .boolean) :: WALL
theorem g_TuneSetterModel_type : GoodIn WALL w_TuneSetterModel_type := good_of mc_TuneSetterModel_type
set_option maxHeartbeats 4000000 in
set_option maxRecDepth 100000 in
theorem c_TuneSetterModel_type (l : Launch) (D : va_G) (cA a : Nat → Nat) (sz : Nat) (x1 : Int32) (I : Nat → Int32) (A : Nat → Nat → Int32) (post : Int32 → (Nat → Int32) → (Nat → Nat → Int32) → Prop) (h : wp_TuneSetterModel_type x1 I A post) : Met l y_TuneSetterModel_type w_TuneSetterModel_type ({ frames := 0, cells := 0, slots := 0, locals := 0 }) (va_Pc [.ref (a 0), .int x1] (PreR D cA a I A sz)) (va_Qi (fun r (u : StW) => post r u.1 u.2) (EndR D cA a) (AR a sz)) 0 0 (AR a sz) := by
  refine Met.ofW (cc := b_TuneSetterModel_type) (maxL := 2) (ret := (some .boolean)) (by decide) rfl ?_
  intro p e s m args below meth c s₁ B hml hv
  obtain ⟨rfl, hsz, hP, hK, hD0⟩ := hv
  have hx := B.exec
  have hb := B.bytes
  have hr := B.returns
  have hts := atoms_spec (ws := w_TuneSetterModel_type) B.pre
  have hw := wall_of hts
  have hown : s.vm.findClass R_TuneSetterModel = some m.cls := findClass_of_methodNamed B.named
  have hlocks := B.notSynchronized
  subst hsz
  have hD := hDR (sz := s.heap.size) hD0
  have hA : ∀ q : Nat, s.heap.size ≤ q → AR a s.heap.size q := fun q h => Or.inr h
  have hS : va_S (AR a s.heap.size) s.heap s.heap [] := va_S.rf
  have hl := lv_entry ([.ref (a 0), .int x1]) (n := 2) (Nat.le_of_ble_eq_true rfl)
  rw [lg_entry_eq]
  generalize (lg_sl ([.ref (a 0), .int x1]) ++ List.replicate (2 - (lg_sl ([.ref (a 0), .int x1])).length) Slot.unset).toArray = ls at hl ⊢
  have hl : lv_has ls 2 [(0, .ref (a 0)), (1, .int x1)] := hl
  unfold wp_TuneSetterModel_type at h
  refine lv_iload_n hx hb d_TuneSetterModel_type_0 rfl (lv_at hl 1 rfl) ?_
  refine lv_bipush (v := 32) hx hb d_TuneSetterModel_type_1 bp_32 ?_
  refine lv_icmp_lt (tgt := 21) hx hb d_TuneSetterModel_type_3 rfl (fun q => ?_) (fun q => ?_)
  · have h := h.1 q
    refine lv_iconst (v := 0) hx hb d_TuneSetterModel_type_21 ic_0 ?_
    exact W.zret hx hb hr (vz_n vz0) (fun t ht hW => ⟨⟨_, (I, A), rfl, h, endR_of ht hP⟩, hS.F ht⟩) hS.2.2 d_TuneSetterModel_type_22
  · have h := h.2 q
    refine lv_iload_n hx hb d_TuneSetterModel_type_6 rfl (lv_at hl 1 rfl) ?_
    refine lv_bipush (v := 126) hx hb d_TuneSetterModel_type_7 bp_126 ?_
    refine lv_icmp_gt (tgt := 21) hx hb d_TuneSetterModel_type_9 rfl (fun q => ?_) (fun q => ?_)
    · have h := h.1 q
      refine lv_iconst (v := 0) hx hb d_TuneSetterModel_type_21 ic_0 ?_
      exact W.zret hx hb hr (vz_n vz0) (fun t ht hW => ⟨⟨_, (I, A), rfl, h, endR_of ht hP⟩, hS.F ht⟩) hS.2.2 d_TuneSetterModel_type_22
    · have h := h.2 q
      refine lv_aload_n hx hb d_TuneSetterModel_type_12 rfl (lv_at hl 0 rfl) ?_
      refine gR_TuneSetterModel_size hx hb hw hown hK hP (hw _ m_TuneSetterModel_84) d_TuneSetterModel_type_13 ?_
      refine lv_bipush (v := 120) hx hb d_TuneSetterModel_type_16 bp_120 ?_
      refine lv_icmp_ne (tgt := 23) hx hb d_TuneSetterModel_type_18 rfl (fun q => ?_) (fun q => ?_)
      · have h := h.2 q
        refine lv_aload_n hx hb d_TuneSetterModel_type_23 rfl (lv_at hl 0 rfl) ?_
        refine gR_TuneSetterModel_text hx hb hw hown hK hP (hw _ m_TuneSetterModel_19) d_TuneSetterModel_type_24 ?_
        refine lv_aload_n hx hb d_TuneSetterModel_type_27 rfl (lv_at hl 0 rfl) ?_
        refine gR_TuneSetterModel_size hx hb hw hown hK hP (hw _ m_TuneSetterModel_84) d_TuneSetterModel_type_28 ?_
        refine lv_iload_n hx hb d_TuneSetterModel_type_31 rfl (lv_at hl 1 rfl) ?_
        obtain ⟨hin, h⟩ := h
        refine sR1 hx hb hK hD hS hP hin d_TuneSetterModel_type_32 (fun H locs hP hS => ?_)
        refine lv_aload_n hx hb d_TuneSetterModel_type_33 rfl (lv_at hl 0 rfl) ?_
        refine lv_dup hx hb d_TuneSetterModel_type_34 rfl ?_
        refine gR_TuneSetterModel_size hx hb hw hown hK hP (hw _ m_TuneSetterModel_84) d_TuneSetterModel_type_35 ?_
        refine lv_iconst (v := 1) hx hb d_TuneSetterModel_type_38 ic_1 ?_
        refine lv_iadd hx hb d_TuneSetterModel_type_39 ?_
        refine pR_TuneSetterModel_size hx hb hw hown hK hD hS hP (hw _ m_TuneSetterModel_84) d_TuneSetterModel_type_40 (fun H locs hP hS => ?_)
        refine lv_iconst (v := 1) hx hb d_TuneSetterModel_type_43 ic_1 ?_
        exact W.zret hx hb hr (vz_n vz1) (fun t ht hW => ⟨⟨_, ((upd I 4 ((I 4) + 1)), (upd2 A 1 ((I 4).toNatClampNeg) x1)), rfl, h, endR_of ht hP⟩, hS.F ht⟩) hS.2.2 d_TuneSetterModel_type_44
      · have h := h.1 q
        refine lv_iconst (v := 0) hx hb d_TuneSetterModel_type_21 ic_0 ?_
        exact W.zret hx hb hr (vz_n vz0) (fun t ht hW => ⟨⟨_, (I, A), rfl, h, endR_of ht hP⟩, hS.F ht⟩) hS.2.2 d_TuneSetterModel_type_22
theorem k_TuneSetterModel_type {p : Program} {l : Launch} {e : Env} {R : Room} {s : State} {m : MethodId} {args : Array Value} {below : List Frame} {meth : Method} {c : Code} {H : Heap} {locs : List Loc} {cells slots : Nat} {Q : State → Prop} {cc : ByteArray} {pc nL idx : Nat} {own : String} {ls : Array Slot} {D : va_G} {cA a : Nat → Nat} {AA : Nat → Prop} {I : Nat → Int32} {A : Nat → Nat → Int32} {post : Int32 → (Nat → Int32) → (Nat → Nat → Int32) → Prop} (x1 : Int32) {rest : List Value} (S : CallFix p m c cc nL s args WALL own) (hK : KR D cA a AA s) (hD : ∀ I A, va_D AA (wR cA a I A)) (hA : ∀ q : Nat, s.heap.size ≤ q → AA q) (hS : va_S AA s.heap H locs) (hP : va_P D cls (wR cA a I A) H) (hl1 : ls.size = nL) (hlink : (Cond.methodLink own idx y_TuneSetterModel_type).before args s = true) (hst : (rest.map fun v => v.category).sum ≤ 8) (hR : ({ frames := 0, cells := 0, slots := 0, locals := 0 } : Room).frames + 1 ≤ R.frames ∧ 8 + (2 + 11) + ({ frames := 0, cells := 0, slots := 0, locals := 0 } : Room).locals ≤ R.locals) (hcs : cells ≤ R.cells ∧ slots ≤ R.slots) (hdg : decode cc pc = .ok (.invokevirtual idx, 3)) (h : wp_TuneSetterModel_type x1 I A post) (kk : ∀ (r : Int32) (I1 : Nat → Int32) (A1 : Nat → Nat → Int32) (H1 : Heap) (locs1 : List Loc), post r I1 A1 → va_P D cls (wR cA a I1 A1) H1 → va_S AA s.heap H1 locs1 → W p l e R s m args below meth c H1 locs1 cells slots Q (F0 m (pc + 3) ls (.int r :: rest))) : W p l e R s m args below meth c H locs cells slots Q (F0 m pc ls (.int x1 :: .ref (a 0) :: rest)) :=
  va_calli (va_runV (As := [.int x1]) (rest := rest) S (c_TuneSetterModel_type l D cA a H.size x1 I A post h) ⟨callB_of 1 S.2.2.2.2 g_TuneSetterModel_type rfl rfl rfl (S.2.2.2.2 _ mi_TuneSetterModel) hlink ⟨by decide, by decide, by decide +kernel⟩ hR, S.2.2.2.2 _ mn_TuneSetterModel_type, S.2.2.2.2 _ ms_TuneSetterModel_type⟩ (preRV hK hD hA hS hP 0 rfl rfl) rfl rfl hl1 rfl (lv_room hst) hdg hcs) hS (fun q _ z => AR_le hD hA hS q z) (fun q z => AR_le hD hA hS q z) (fun r u t H1 locs1 ht _ hp hB _ _ hS1 => kk r u.1 u.2 H1 locs1 hp (of_endR ht hB) hS1)
def wp_TuneSetterModel_clear (I : Nat → Int32) (A : Nat → Nat → Int32) (post : Int32 → (Nat → Int32) → (Nat → Nat → Int32) → Prop) : Prop := (∀ v4 : Int32, v4 = (I 4) → post v4 (upd I 4 0) A)
theorem d_TuneSetterModel_clear_0 : decode b_TuneSetterModel_clear 0 = .ok (.aload_n 0, 1) := by decide +kernel
theorem d_TuneSetterModel_clear_1 : decode b_TuneSetterModel_clear 1 = .ok (.getfield 84, 3) := by decide +kernel
theorem d_TuneSetterModel_clear_4 : decode b_TuneSetterModel_clear 4 = .ok (.istore_n 1, 1) := by decide +kernel
theorem d_TuneSetterModel_clear_5 : decode b_TuneSetterModel_clear 5 = .ok (.aload_n 0, 1) := by decide +kernel
theorem d_TuneSetterModel_clear_6 : decode b_TuneSetterModel_clear 6 = .ok (.iconst 0, 1) := by decide +kernel
theorem d_TuneSetterModel_clear_7 : decode b_TuneSetterModel_clear 7 = .ok (.putfield 84, 3) := by decide +kernel
theorem d_TuneSetterModel_clear_10 : decode b_TuneSetterModel_clear 10 = .ok (.iload_n 1, 1) := by decide +kernel
theorem d_TuneSetterModel_clear_11 : decode b_TuneSetterModel_clear 11 = .ok (.ireturn, 1) := by decide +kernel
def w_TuneSetterModel_clear : List Cond := .code y_TuneSetterModel_clear b_TuneSetterModel_clear 2 (some .int) :: WALL
theorem g_TuneSetterModel_clear : GoodIn WALL w_TuneSetterModel_clear := good_of mc_TuneSetterModel_clear
set_option maxHeartbeats 4000000 in
set_option maxRecDepth 100000 in
theorem c_TuneSetterModel_clear (l : Launch) (D : va_G) (cA a : Nat → Nat) (sz : Nat) (I : Nat → Int32) (A : Nat → Nat → Int32) (post : Int32 → (Nat → Int32) → (Nat → Nat → Int32) → Prop) (h : wp_TuneSetterModel_clear I A post) : Met l y_TuneSetterModel_clear w_TuneSetterModel_clear ({ frames := 0, cells := 0, slots := 0, locals := 0 }) (va_Pc [.ref (a 0)] (PreR D cA a I A sz)) (va_Qi (fun r (u : StW) => post r u.1 u.2) (EndR D cA a) (AR a sz)) 0 0 (AR a sz) := by
  refine Met.ofW (cc := b_TuneSetterModel_clear) (maxL := 2) (ret := (some .int)) (by decide) rfl ?_
  intro p e s m args below meth c s₁ B hml hv
  obtain ⟨rfl, hsz, hP, hK, hD0⟩ := hv
  have hx := B.exec
  have hb := B.bytes
  have hr := B.returns
  have hts := atoms_spec (ws := w_TuneSetterModel_clear) B.pre
  have hw := wall_of hts
  have hown : s.vm.findClass R_TuneSetterModel = some m.cls := findClass_of_methodNamed B.named
  have hlocks := B.notSynchronized
  subst hsz
  have hD := hDR (sz := s.heap.size) hD0
  have hA : ∀ q : Nat, s.heap.size ≤ q → AR a s.heap.size q := fun q h => Or.inr h
  have hS : va_S (AR a s.heap.size) s.heap s.heap [] := va_S.rf
  have hl := lv_entry ([.ref (a 0)]) (n := 2) (Nat.le_of_ble_eq_true rfl)
  rw [lg_entry_eq]
  generalize (lg_sl ([.ref (a 0)]) ++ List.replicate (2 - (lg_sl ([.ref (a 0)])).length) Slot.unset).toArray = ls at hl ⊢
  have hl : lv_has ls 2 [(0, .ref (a 0))] := hl
  unfold wp_TuneSetterModel_clear at h
  refine lv_aload_n hx hb d_TuneSetterModel_clear_0 rfl (lv_at hl 0 rfl) ?_
  refine gR_TuneSetterModel_size hx hb hw hown hK hP (hw _ m_TuneSetterModel_84) d_TuneSetterModel_clear_1 ?_
  refine lv_topi (fun v4 ev4 => ?_)
  have h := h v4 ev4
  refine lv_istore_n (lv' := [(1, .int v4), (0, .ref (a 0))]) hx hb d_TuneSetterModel_clear_4 rfl hl (by decide) rfl (fun ls hl => ?_)
  refine lv_aload_n hx hb d_TuneSetterModel_clear_5 rfl (lv_at hl 1 rfl) ?_
  refine lv_iconst (v := 0) hx hb d_TuneSetterModel_clear_6 ic_0 ?_
  refine pR_TuneSetterModel_size hx hb hw hown hK hD hS hP (hw _ m_TuneSetterModel_84) d_TuneSetterModel_clear_7 (fun H locs hP hS => ?_)
  refine lv_iload_n hx hb d_TuneSetterModel_clear_10 rfl (lv_at hl 0 rfl) ?_
  exact W.iret hx hb hr (fun t ht hW => ⟨⟨_, ((upd I 4 0), A), rfl, h, endR_of ht hP⟩, hS.F ht⟩) hS.2.2 d_TuneSetterModel_clear_11
theorem k_TuneSetterModel_clear {p : Program} {l : Launch} {e : Env} {R : Room} {s : State} {m : MethodId} {args : Array Value} {below : List Frame} {meth : Method} {c : Code} {H : Heap} {locs : List Loc} {cells slots : Nat} {Q : State → Prop} {cc : ByteArray} {pc nL idx : Nat} {own : String} {ls : Array Slot} {D : va_G} {cA a : Nat → Nat} {AA : Nat → Prop} {I : Nat → Int32} {A : Nat → Nat → Int32} {post : Int32 → (Nat → Int32) → (Nat → Nat → Int32) → Prop} {rest : List Value} (S : CallFix p m c cc nL s args WALL own) (hK : KR D cA a AA s) (hD : ∀ I A, va_D AA (wR cA a I A)) (hA : ∀ q : Nat, s.heap.size ≤ q → AA q) (hS : va_S AA s.heap H locs) (hP : va_P D cls (wR cA a I A) H) (hl1 : ls.size = nL) (hlink : (Cond.methodLink own idx y_TuneSetterModel_clear).before args s = true) (hst : (rest.map fun v => v.category).sum ≤ 8) (hR : ({ frames := 0, cells := 0, slots := 0, locals := 0 } : Room).frames + 1 ≤ R.frames ∧ 8 + (2 + 11) + ({ frames := 0, cells := 0, slots := 0, locals := 0 } : Room).locals ≤ R.locals) (hcs : cells ≤ R.cells ∧ slots ≤ R.slots) (hdg : decode cc pc = .ok (.invokevirtual idx, 3)) (h : wp_TuneSetterModel_clear I A post) (kk : ∀ (r : Int32) (I1 : Nat → Int32) (A1 : Nat → Nat → Int32) (H1 : Heap) (locs1 : List Loc), post r I1 A1 → va_P D cls (wR cA a I1 A1) H1 → va_S AA s.heap H1 locs1 → W p l e R s m args below meth c H1 locs1 cells slots Q (F0 m (pc + 3) ls (.int r :: rest))) : W p l e R s m args below meth c H locs cells slots Q (F0 m pc ls (.ref (a 0) :: rest)) :=
  va_calli (va_runV (As := []) (rest := rest) S (c_TuneSetterModel_clear l D cA a H.size I A post h) ⟨callB_of 0 S.2.2.2.2 g_TuneSetterModel_clear rfl rfl rfl (S.2.2.2.2 _ mi_TuneSetterModel) hlink ⟨by decide, by decide, by decide +kernel⟩ hR, S.2.2.2.2 _ mn_TuneSetterModel_clear, S.2.2.2.2 _ ms_TuneSetterModel_clear⟩ (preRV hK hD hA hS hP 0 rfl rfl) rfl rfl hl1 rfl (lv_room hst) hdg hcs) hS (fun q _ z => AR_le hD hA hS q z) (fun q z => AR_le hD hA hS q z) (fun r u t H1 locs1 ht _ hp hB _ _ hS1 => kk r u.1 u.2 H1 locs1 hp (of_endR ht hB) hS1)
def wp_TuneSetterModel_goOn_76 (k22 : Int32 → Int32 → Int32 → Int32 → Int32 → (Nat → Int32) → (Nat → Nat → Int32) → Prop) (post : (Nat → Int32) → (Nat → Nat → Int32) → Prop) (y1 : Int32) (y2 : Int32) (y3 : Int32) (y4 : Int32) (y5 : Int32) (I : Nat → Int32) (A : Nat → Nat → Int32) : Prop := (((0 : Int32) = 0 → (∀ v93 : Int32, v93 = y5 + (-1) → k22 y1 y2 y3 y4 v93 I A)) ∧ (¬ (0 : Int32) = 0 → (∀ v93 : Int32, v93 = y5 + (-1) → k22 y1 y2 y3 y5 v93 I A)))
def wp_TuneSetterModel_goOn_22 (post : (Nat → Int32) → (Nat → Nat → Int32) → Prop) : Nat → Int32 → Int32 → Int32 → Int32 → Int32 → (Nat → Int32) → (Nat → Nat → Int32) → Prop
  | 0, _, _, _, _, _, _, _ => False
  | n + 1, y1, y2, y3, y4, y5, I, A => ((y5 < 0 → ((y4 < 0 → post I A) ∧ (¬ y4 < 0 → (vp_in (((4 : Int32) * y1) + y2) 384 ∧ (vp_in ((((4 : Int32) * y1) + 4) + y4) 384 ∧ post I (upd2 A 16 (((((4 : Int32) * y1) + 4) + y4).toNatClampNeg) (A 16 ((((4 : Int32) * y1) + y2).toNatClampNeg)))))))) ∧ (¬ y5 < 0 → (vp_in (((4 : Int32) * y3) + y5) 192 ∧ (vp_in y1 96 ∧ (vp_in (((4 : Int32) * (A 12 (y1.toNatClampNeg))) + y2) 192 ∧ (((A 10 ((((4 : Int32) * y3) + y5).toNatClampNeg)) = (A 10 ((((4 : Int32) * (A 12 (y1.toNatClampNeg))) + y2).toNatClampNeg)) → (vp_in ((((4 : Int32) * y1) + 4) + y5) 384 ∧ ((0 ≤ (A 16 (((((4 : Int32) * y1) + 4) + y5).toNatClampNeg)) → wp_TuneSetterModel_goOn_76 (fun y1 y2 y3 y4 y5 I A => wp_TuneSetterModel_goOn_22 post n y1 y2 y3 y4 y5 I A) post y1 y2 y3 y4 y5 I A) ∧ (¬ 0 ≤ (A 16 (((((4 : Int32) * y1) + 4) + y5).toNatClampNeg)) → (((1 : Int32) = 0 → (∀ v93 : Int32, v93 = y5 + (-1) → wp_TuneSetterModel_goOn_22 post n y1 y2 y3 y4 v93 I A)) ∧ (¬ (1 : Int32) = 0 → (∀ v93 : Int32, v93 = y5 + (-1) → wp_TuneSetterModel_goOn_22 post n y1 y2 y3 y5 v93 I A))))))) ∧ (¬ (A 10 ((((4 : Int32) * y3) + y5).toNatClampNeg)) = (A 10 ((((4 : Int32) * (A 12 (y1.toNatClampNeg))) + y2).toNatClampNeg)) → wp_TuneSetterModel_goOn_76 (fun y1 y2 y3 y4 y5 I A => wp_TuneSetterModel_goOn_22 post n y1 y2 y3 y4 y5 I A) post y1 y2 y3 y4 y5 I A)))))))
def wp_TuneSetterModel_goOn (x1 : Int32) (x2 : Int32) (I : Nat → Int32) (A : Nat → Nat → Int32) (post : (Nat → Int32) → (Nat → Nat → Int32) → Prop) : Prop := (vp_in (x1 + 1) 96 ∧ (∀ v8 : Int32, v8 = (A 12 ((x1 + 1).toNatClampNeg)) → (vp_in v8 48 ∧ (∀ v20 : Int32, v20 = (A 9 (v8.toNatClampNeg)) - 1 → (∃ n22, wp_TuneSetterModel_goOn_22 post n22 x1 x2 v8 (-1) v20 I A)))))
theorem d_TuneSetterModel_goOn_0 : decode b_TuneSetterModel_goOn 0 = .ok (.aload_n 0, 1) := by decide +kernel
theorem d_TuneSetterModel_goOn_1 : decode b_TuneSetterModel_goOn 1 = .ok (.getfield 57, 3) := by decide +kernel
theorem d_TuneSetterModel_goOn_4 : decode b_TuneSetterModel_goOn 4 = .ok (.iload_n 1, 1) := by decide +kernel
theorem d_TuneSetterModel_goOn_5 : decode b_TuneSetterModel_goOn 5 = .ok (.iconst 1, 1) := by decide +kernel
theorem d_TuneSetterModel_goOn_6 : decode b_TuneSetterModel_goOn 6 = .ok (.iadd, 1) := by decide +kernel
theorem d_TuneSetterModel_goOn_7 : decode b_TuneSetterModel_goOn 7 = .ok (.iaload, 1) := by decide +kernel
theorem d_TuneSetterModel_goOn_8 : decode b_TuneSetterModel_goOn 8 = .ok (.istore_n 3, 1) := by decide +kernel
theorem d_TuneSetterModel_goOn_9 : decode b_TuneSetterModel_goOn 9 = .ok (.iconst (-1), 1) := by decide +kernel
theorem d_TuneSetterModel_goOn_10 : decode b_TuneSetterModel_goOn 10 = .ok (.istore 4, 2) := by decide +kernel
theorem d_TuneSetterModel_goOn_12 : decode b_TuneSetterModel_goOn 12 = .ok (.aload_n 0, 1) := by decide +kernel
theorem d_TuneSetterModel_goOn_13 : decode b_TuneSetterModel_goOn 13 = .ok (.getfield 48, 3) := by decide +kernel
theorem d_TuneSetterModel_goOn_16 : decode b_TuneSetterModel_goOn 16 = .ok (.iload_n 3, 1) := by decide +kernel
theorem d_TuneSetterModel_goOn_17 : decode b_TuneSetterModel_goOn 17 = .ok (.iaload, 1) := by decide +kernel
theorem d_TuneSetterModel_goOn_18 : decode b_TuneSetterModel_goOn 18 = .ok (.iconst 1, 1) := by decide +kernel
theorem d_TuneSetterModel_goOn_19 : decode b_TuneSetterModel_goOn 19 = .ok (.isub, 1) := by decide +kernel
theorem d_TuneSetterModel_goOn_20 : decode b_TuneSetterModel_goOn 20 = .ok (.istore 5, 2) := by decide +kernel
theorem d_TuneSetterModel_goOn_22 : decode b_TuneSetterModel_goOn 22 = .ok (.iload 5, 2) := by decide +kernel
theorem d_TuneSetterModel_goOn_24 : decode b_TuneSetterModel_goOn 24 = .ok (.ifCond .lt 75, 3) := by decide +kernel
theorem d_TuneSetterModel_goOn_27 : decode b_TuneSetterModel_goOn 27 = .ok (.aload_n 0, 1) := by decide +kernel
theorem d_TuneSetterModel_goOn_28 : decode b_TuneSetterModel_goOn 28 = .ok (.getfield 51, 3) := by decide +kernel
theorem d_TuneSetterModel_goOn_31 : decode b_TuneSetterModel_goOn 31 = .ok (.iconst 4, 1) := by decide +kernel
theorem d_TuneSetterModel_goOn_32 : decode b_TuneSetterModel_goOn 32 = .ok (.iload_n 3, 1) := by decide +kernel
theorem d_TuneSetterModel_goOn_33 : decode b_TuneSetterModel_goOn 33 = .ok (.imul, 1) := by decide +kernel
theorem d_TuneSetterModel_goOn_34 : decode b_TuneSetterModel_goOn 34 = .ok (.iload 5, 2) := by decide +kernel
theorem d_TuneSetterModel_goOn_36 : decode b_TuneSetterModel_goOn 36 = .ok (.iadd, 1) := by decide +kernel
theorem d_TuneSetterModel_goOn_37 : decode b_TuneSetterModel_goOn 37 = .ok (.iaload, 1) := by decide +kernel
theorem d_TuneSetterModel_goOn_38 : decode b_TuneSetterModel_goOn 38 = .ok (.aload_n 0, 1) := by decide +kernel
theorem d_TuneSetterModel_goOn_39 : decode b_TuneSetterModel_goOn 39 = .ok (.getfield 51, 3) := by decide +kernel
theorem d_TuneSetterModel_goOn_42 : decode b_TuneSetterModel_goOn 42 = .ok (.iconst 4, 1) := by decide +kernel
theorem d_TuneSetterModel_goOn_43 : decode b_TuneSetterModel_goOn 43 = .ok (.aload_n 0, 1) := by decide +kernel
theorem d_TuneSetterModel_goOn_44 : decode b_TuneSetterModel_goOn 44 = .ok (.getfield 57, 3) := by decide +kernel
theorem d_TuneSetterModel_goOn_47 : decode b_TuneSetterModel_goOn 47 = .ok (.iload_n 1, 1) := by decide +kernel
theorem d_TuneSetterModel_goOn_48 : decode b_TuneSetterModel_goOn 48 = .ok (.iaload, 1) := by decide +kernel
theorem d_TuneSetterModel_goOn_49 : decode b_TuneSetterModel_goOn 49 = .ok (.imul, 1) := by decide +kernel
theorem d_TuneSetterModel_goOn_50 : decode b_TuneSetterModel_goOn 50 = .ok (.iload_n 2, 1) := by decide +kernel
theorem d_TuneSetterModel_goOn_51 : decode b_TuneSetterModel_goOn 51 = .ok (.iadd, 1) := by decide +kernel
theorem d_TuneSetterModel_goOn_52 : decode b_TuneSetterModel_goOn 52 = .ok (.iaload, 1) := by decide +kernel
theorem d_TuneSetterModel_goOn_53 : decode b_TuneSetterModel_goOn 53 = .ok (.if_icmp .ne 23, 3) := by decide +kernel
theorem d_TuneSetterModel_goOn_56 : decode b_TuneSetterModel_goOn 56 = .ok (.aload_n 0, 1) := by decide +kernel
theorem d_TuneSetterModel_goOn_57 : decode b_TuneSetterModel_goOn 57 = .ok (.getfield 69, 3) := by decide +kernel
theorem d_TuneSetterModel_goOn_60 : decode b_TuneSetterModel_goOn 60 = .ok (.iconst 4, 1) := by decide +kernel
theorem d_TuneSetterModel_goOn_61 : decode b_TuneSetterModel_goOn 61 = .ok (.iload_n 1, 1) := by decide +kernel
theorem d_TuneSetterModel_goOn_62 : decode b_TuneSetterModel_goOn 62 = .ok (.imul, 1) := by decide +kernel
theorem d_TuneSetterModel_goOn_63 : decode b_TuneSetterModel_goOn 63 = .ok (.iconst 4, 1) := by decide +kernel
theorem d_TuneSetterModel_goOn_64 : decode b_TuneSetterModel_goOn 64 = .ok (.iadd, 1) := by decide +kernel
theorem d_TuneSetterModel_goOn_65 : decode b_TuneSetterModel_goOn 65 = .ok (.iload 5, 2) := by decide +kernel
theorem d_TuneSetterModel_goOn_67 : decode b_TuneSetterModel_goOn 67 = .ok (.iadd, 1) := by decide +kernel
theorem d_TuneSetterModel_goOn_68 : decode b_TuneSetterModel_goOn 68 = .ok (.iaload, 1) := by decide +kernel
theorem d_TuneSetterModel_goOn_69 : decode b_TuneSetterModel_goOn 69 = .ok (.ifCond .ge 7, 3) := by decide +kernel
theorem d_TuneSetterModel_goOn_72 : decode b_TuneSetterModel_goOn 72 = .ok (.iconst 1, 1) := by decide +kernel
theorem d_TuneSetterModel_goOn_73 : decode b_TuneSetterModel_goOn 73 = .ok (.goto 4, 3) := by decide +kernel
theorem d_TuneSetterModel_goOn_76 : decode b_TuneSetterModel_goOn 76 = .ok (.iconst 0, 1) := by decide +kernel
theorem d_TuneSetterModel_goOn_77 : decode b_TuneSetterModel_goOn 77 = .ok (.istore 6, 2) := by decide +kernel
theorem d_TuneSetterModel_goOn_79 : decode b_TuneSetterModel_goOn 79 = .ok (.iload 6, 2) := by decide +kernel
theorem d_TuneSetterModel_goOn_81 : decode b_TuneSetterModel_goOn 81 = .ok (.ifCond .eq 8, 3) := by decide +kernel
theorem d_TuneSetterModel_goOn_84 : decode b_TuneSetterModel_goOn 84 = .ok (.iload 5, 2) := by decide +kernel
theorem d_TuneSetterModel_goOn_86 : decode b_TuneSetterModel_goOn 86 = .ok (.goto 5, 3) := by decide +kernel
theorem d_TuneSetterModel_goOn_89 : decode b_TuneSetterModel_goOn 89 = .ok (.iload 4, 2) := by decide +kernel
theorem d_TuneSetterModel_goOn_91 : decode b_TuneSetterModel_goOn 91 = .ok (.istore 4, 2) := by decide +kernel
theorem d_TuneSetterModel_goOn_93 : decode b_TuneSetterModel_goOn 93 = .ok (.iinc 5 (-1), 3) := by decide +kernel
theorem d_TuneSetterModel_goOn_96 : decode b_TuneSetterModel_goOn 96 = .ok (.goto (-74), 3) := by decide +kernel
theorem d_TuneSetterModel_goOn_99 : decode b_TuneSetterModel_goOn 99 = .ok (.iload 4, 2) := by decide +kernel
theorem d_TuneSetterModel_goOn_101 : decode b_TuneSetterModel_goOn 101 = .ok (.ifCond .lt 26, 3) := by decide +kernel
theorem d_TuneSetterModel_goOn_104 : decode b_TuneSetterModel_goOn 104 = .ok (.aload_n 0, 1) := by decide +kernel
theorem d_TuneSetterModel_goOn_105 : decode b_TuneSetterModel_goOn 105 = .ok (.getfield 69, 3) := by decide +kernel
theorem d_TuneSetterModel_goOn_108 : decode b_TuneSetterModel_goOn 108 = .ok (.iconst 4, 1) := by decide +kernel
theorem d_TuneSetterModel_goOn_109 : decode b_TuneSetterModel_goOn 109 = .ok (.iload_n 1, 1) := by decide +kernel
theorem d_TuneSetterModel_goOn_110 : decode b_TuneSetterModel_goOn 110 = .ok (.imul, 1) := by decide +kernel
theorem d_TuneSetterModel_goOn_111 : decode b_TuneSetterModel_goOn 111 = .ok (.iconst 4, 1) := by decide +kernel
theorem d_TuneSetterModel_goOn_112 : decode b_TuneSetterModel_goOn 112 = .ok (.iadd, 1) := by decide +kernel
theorem d_TuneSetterModel_goOn_113 : decode b_TuneSetterModel_goOn 113 = .ok (.iload 4, 2) := by decide +kernel
theorem d_TuneSetterModel_goOn_115 : decode b_TuneSetterModel_goOn 115 = .ok (.iadd, 1) := by decide +kernel
theorem d_TuneSetterModel_goOn_116 : decode b_TuneSetterModel_goOn 116 = .ok (.aload_n 0, 1) := by decide +kernel
theorem d_TuneSetterModel_goOn_117 : decode b_TuneSetterModel_goOn 117 = .ok (.getfield 69, 3) := by decide +kernel
theorem d_TuneSetterModel_goOn_120 : decode b_TuneSetterModel_goOn 120 = .ok (.iconst 4, 1) := by decide +kernel
theorem d_TuneSetterModel_goOn_121 : decode b_TuneSetterModel_goOn 121 = .ok (.iload_n 1, 1) := by decide +kernel
theorem d_TuneSetterModel_goOn_122 : decode b_TuneSetterModel_goOn 122 = .ok (.imul, 1) := by decide +kernel
theorem d_TuneSetterModel_goOn_123 : decode b_TuneSetterModel_goOn 123 = .ok (.iload_n 2, 1) := by decide +kernel
theorem d_TuneSetterModel_goOn_124 : decode b_TuneSetterModel_goOn 124 = .ok (.iadd, 1) := by decide +kernel
theorem d_TuneSetterModel_goOn_125 : decode b_TuneSetterModel_goOn 125 = .ok (.iaload, 1) := by decide +kernel
theorem d_TuneSetterModel_goOn_126 : decode b_TuneSetterModel_goOn 126 = .ok (.iastore, 1) := by decide +kernel
theorem d_TuneSetterModel_goOn_127 : decode b_TuneSetterModel_goOn 127 = .ok (.return_, 1) := by decide +kernel
def w_TuneSetterModel_goOn : List Cond := .code y_TuneSetterModel_goOn b_TuneSetterModel_goOn 7 none :: WALL
theorem g_TuneSetterModel_goOn : GoodIn WALL w_TuneSetterModel_goOn := good_of mc_TuneSetterModel_goOn
set_option maxHeartbeats 4000000 in
set_option maxRecDepth 100000 in
theorem c_TuneSetterModel_goOn (l : Launch) (D : va_G) (cA a : Nat → Nat) (sz : Nat) (x1 : Int32) (x2 : Int32) (I : Nat → Int32) (A : Nat → Nat → Int32) (post : (Nat → Int32) → (Nat → Nat → Int32) → Prop) (h : wp_TuneSetterModel_goOn x1 x2 I A post) : Met l y_TuneSetterModel_goOn w_TuneSetterModel_goOn ({ frames := 0, cells := 0, slots := 0, locals := 0 }) (va_Pc [.ref (a 0), .int x1, .int x2] (PreR D cA a I A sz)) (va_Qv (fun (u : StW) => post u.1 u.2) (EndR D cA a) (AR a sz)) 0 0 (AR a sz) := by
  refine Met.ofW (cc := b_TuneSetterModel_goOn) (maxL := 7) (ret := none) (by decide) rfl ?_
  intro p e s m args below meth c s₁ B hml hv
  obtain ⟨rfl, hsz, hP, hK, hD0⟩ := hv
  have hx := B.exec
  have hb := B.bytes
  have hr := B.returns
  have hts := atoms_spec (ws := w_TuneSetterModel_goOn) B.pre
  have hw := wall_of hts
  have hown : s.vm.findClass R_TuneSetterModel = some m.cls := findClass_of_methodNamed B.named
  have hlocks := B.notSynchronized
  subst hsz
  have hD := hDR (sz := s.heap.size) hD0
  have hA : ∀ q : Nat, s.heap.size ≤ q → AR a s.heap.size q := fun q h => Or.inr h
  have hS : va_S (AR a s.heap.size) s.heap s.heap [] := va_S.rf
  have j76 : ∀ (k22 : Int32 → Int32 → Int32 → Int32 → Int32 → (Nat → Int32) → (Nat → Nat → Int32) → Prop) (hk22 : ∀ (y1 : Int32) (y2 : Int32) (y3 : Int32) (y4 : Int32) (y5 : Int32) (I : Nat → Int32) (A : Nat → Nat → Int32) (H : Heap) (locs : List Loc) (ls : Array Slot), k22 y1 y2 y3 y4 y5 I A → va_P D cls (wR cA a I A) H → va_S (AR a s.heap.size) s.heap H locs → lv_has ls 7 [(0, .ref (a 0)), (1, .int y1), (2, .int y2), (3, .int y3), (4, .int y4), (5, .int y5)] → W p l e (headSpec w_TuneSetterModel_goOn ({ frames := 0, cells := 0, slots := 0, locals := 0 })).room s m [.ref (a 0), .int x1, .int x2].toArray below meth c H locs 0 0 (MQ below (va_Qv (fun (u : StW) => post u.1 u.2) (EndR D cA a) (AR a s.heap.size)) [.ref (a 0), .int x1, .int x2].toArray s 0 0 (AR a s.heap.size)) (F0 m 22 ls [])), ∀ (y1 : Int32) (y2 : Int32) (y3 : Int32) (y4 : Int32) (y5 : Int32) (I : Nat → Int32) (A : Nat → Nat → Int32) (H : Heap) (locs : List Loc) (ls : Array Slot), wp_TuneSetterModel_goOn_76 k22 post y1 y2 y3 y4 y5 I A → va_P D cls (wR cA a I A) H → va_S (AR a s.heap.size) s.heap H locs → lv_has ls 7 [(0, .ref (a 0)), (1, .int y1), (2, .int y2), (3, .int y3), (4, .int y4), (5, .int y5)] → W p l e (headSpec w_TuneSetterModel_goOn ({ frames := 0, cells := 0, slots := 0, locals := 0 })).room s m [.ref (a 0), .int x1, .int x2].toArray below meth c H locs 0 0 (MQ below (va_Qv (fun (u : StW) => post u.1 u.2) (EndR D cA a) (AR a s.heap.size)) [.ref (a 0), .int x1, .int x2].toArray s 0 0 (AR a s.heap.size)) (F0 m 76 ls []) := by
    intro k22 hk22
    intro y1 y2 y3 y4 y5 I A H locs ls h hP hS hl
    unfold wp_TuneSetterModel_goOn_76 at h
    refine lv_iconst (v := 0) hx hb d_TuneSetterModel_goOn_76 ic_0 ?_
    refine lv_istore (lv' := [(6, .int 0), (0, .ref (a 0)), (1, .int y1), (2, .int y2), (3, .int y3), (4, .int y4), (5, .int y5)]) hx hb d_TuneSetterModel_goOn_77 hl (by decide) rfl (fun ls hl => ?_)
    refine lv_iload hx hb d_TuneSetterModel_goOn_79 (lv_at hl 0 rfl) ?_
    refine lv_if_eq (tgt := 89) hx hb d_TuneSetterModel_goOn_81 rfl (fun q => ?_) (fun q => ?_)
    · have h := h.1 q
      refine lv_iload hx hb d_TuneSetterModel_goOn_89 (lv_at hl 5 rfl) ?_
      refine lv_istore (lv' := [(4, .int y4), (6, .int 0), (0, .ref (a 0)), (1, .int y1), (2, .int y2), (3, .int y3), (5, .int y5)]) hx hb d_TuneSetterModel_goOn_91 hl (by decide) rfl (fun ls hl => ?_)
      obtain ⟨v93, ev93⟩ : ∃ z : Int32, z = y5 + (-1) := ⟨_, rfl⟩
      have h := h v93 ev93
      refine lv_iinc (k := 6) (v := v93) (lv' := [(5, .int v93), (4, .int y4), (6, .int 0), (0, .ref (a 0)), (1, .int y1), (2, .int y2), (3, .int y3)]) hx hb d_TuneSetterModel_goOn_93 hl rfl (by rw [ev93, ic_m1]) (by decide) rfl (fun ls hl => ?_)
      refine lv_goto (tgt := 22) hx hb d_TuneSetterModel_goOn_96 rfl ?_
      exact hk22 y1 y2 y3 y4 v93 I A _ _ _ h hP hS (lv_sub hl [3, 4, 5, 6, 1, 0] rfl)
    · have h := h.2 q
      refine lv_iload hx hb d_TuneSetterModel_goOn_84 (lv_at hl 6 rfl) ?_
      refine lv_goto (tgt := 91) hx hb d_TuneSetterModel_goOn_86 rfl ?_
      refine lv_istore (lv' := [(4, .int y5), (6, .int 0), (0, .ref (a 0)), (1, .int y1), (2, .int y2), (3, .int y3), (5, .int y5)]) hx hb d_TuneSetterModel_goOn_91 hl (by decide) rfl (fun ls hl => ?_)
      obtain ⟨v93, ev93⟩ : ∃ z : Int32, z = y5 + (-1) := ⟨_, rfl⟩
      have h := h v93 ev93
      refine lv_iinc (k := 6) (v := v93) (lv' := [(5, .int v93), (4, .int y5), (6, .int 0), (0, .ref (a 0)), (1, .int y1), (2, .int y2), (3, .int y3)]) hx hb d_TuneSetterModel_goOn_93 hl rfl (by rw [ev93, ic_m1]) (by decide) rfl (fun ls hl => ?_)
      refine lv_goto (tgt := 22) hx hb d_TuneSetterModel_goOn_96 rfl ?_
      exact hk22 y1 y2 y3 y5 v93 I A _ _ _ h hP hS (lv_sub hl [3, 4, 5, 6, 1, 0] rfl)
  have j22 : ∀ n : Nat, ∀ (y1 : Int32) (y2 : Int32) (y3 : Int32) (y4 : Int32) (y5 : Int32) (I : Nat → Int32) (A : Nat → Nat → Int32) (H : Heap) (locs : List Loc) (ls : Array Slot), wp_TuneSetterModel_goOn_22 post n y1 y2 y3 y4 y5 I A → va_P D cls (wR cA a I A) H → va_S (AR a s.heap.size) s.heap H locs → lv_has ls 7 [(0, .ref (a 0)), (1, .int y1), (2, .int y2), (3, .int y3), (4, .int y4), (5, .int y5)] → W p l e (headSpec w_TuneSetterModel_goOn ({ frames := 0, cells := 0, slots := 0, locals := 0 })).room s m [.ref (a 0), .int x1, .int x2].toArray below meth c H locs 0 0 (MQ below (va_Qv (fun (u : StW) => post u.1 u.2) (EndR D cA a) (AR a s.heap.size)) [.ref (a 0), .int x1, .int x2].toArray s 0 0 (AR a s.heap.size)) (F0 m 22 ls []) := by
    intro n
    induction n with
    | zero =>
      intro y1 y2 y3 y4 y5 I A H locs ls h hP hS hl
      exact False.elim h
    | succ n ih =>
      intro y1 y2 y3 y4 y5 I A H locs ls h hP hS hl
      unfold wp_TuneSetterModel_goOn_22 at h
      refine lv_iload hx hb d_TuneSetterModel_goOn_22 (lv_at hl 5 rfl) ?_
      refine lv_if_lt (tgt := 99) hx hb d_TuneSetterModel_goOn_24 rfl (fun q => ?_) (fun q => ?_)
      · have h := h.1 q
        refine lv_iload hx hb d_TuneSetterModel_goOn_99 (lv_at hl 4 rfl) ?_
        refine lv_if_lt (tgt := 127) hx hb d_TuneSetterModel_goOn_101 rfl (fun q => ?_) (fun q => ?_)
        · have h := h.1 q
          exact W.vret hx hb hr (fun t ht hW => ⟨⟨(I, A), rfl, h, endR_of ht hP⟩, hS.F ht⟩) hS.2.2 d_TuneSetterModel_goOn_127
        · have h := h.2 q
          refine lv_aload_n hx hb d_TuneSetterModel_goOn_104 rfl (lv_at hl 0 rfl) ?_
          refine gR_TuneSetterModel_head hx hb hw hown hK hP (hw _ m_TuneSetterModel_69) d_TuneSetterModel_goOn_105 ?_
          refine lv_iconst (v := 4) hx hb d_TuneSetterModel_goOn_108 ic_4 ?_
          refine lv_iload_n hx hb d_TuneSetterModel_goOn_109 rfl (lv_at hl 1 rfl) ?_
          refine lv_imul hx hb d_TuneSetterModel_goOn_110 ?_
          refine lv_iconst (v := 4) hx hb d_TuneSetterModel_goOn_111 ic_4 ?_
          refine lv_iadd hx hb d_TuneSetterModel_goOn_112 ?_
          refine lv_iload hx hb d_TuneSetterModel_goOn_113 (lv_at hl 4 rfl) ?_
          refine lv_iadd hx hb d_TuneSetterModel_goOn_115 ?_
          refine lv_aload_n hx hb d_TuneSetterModel_goOn_116 rfl (lv_at hl 0 rfl) ?_
          refine gR_TuneSetterModel_head hx hb hw hown hK hP (hw _ m_TuneSetterModel_69) d_TuneSetterModel_goOn_117 ?_
          refine lv_iconst (v := 4) hx hb d_TuneSetterModel_goOn_120 ic_4 ?_
          refine lv_iload_n hx hb d_TuneSetterModel_goOn_121 rfl (lv_at hl 1 rfl) ?_
          refine lv_imul hx hb d_TuneSetterModel_goOn_122 ?_
          refine lv_iload_n hx hb d_TuneSetterModel_goOn_123 rfl (lv_at hl 2 rfl) ?_
          refine lv_iadd hx hb d_TuneSetterModel_goOn_124 ?_
          obtain ⟨hin, h⟩ := h
          refine lR16 hx hb hK hP hin d_TuneSetterModel_goOn_125 ?_
          obtain ⟨hin, h⟩ := h
          refine sR16 hx hb hK hD hS hP hin d_TuneSetterModel_goOn_126 (fun H locs hP hS => ?_)
          exact W.vret hx hb hr (fun t ht hW => ⟨⟨(I, (upd2 A 16 (((((4 : Int32) * y1) + 4) + y4).toNatClampNeg) (A 16 ((((4 : Int32) * y1) + y2).toNatClampNeg)))), rfl, h, endR_of ht hP⟩, hS.F ht⟩) hS.2.2 d_TuneSetterModel_goOn_127
      · have h := h.2 q
        refine lv_aload_n hx hb d_TuneSetterModel_goOn_27 rfl (lv_at hl 0 rfl) ?_
        refine gR_TuneSetterModel_pitch hx hb hw hown hK hP (hw _ m_TuneSetterModel_51) d_TuneSetterModel_goOn_28 ?_
        refine lv_iconst (v := 4) hx hb d_TuneSetterModel_goOn_31 ic_4 ?_
        refine lv_iload_n hx hb d_TuneSetterModel_goOn_32 rfl (lv_at hl 3 rfl) ?_
        refine lv_imul hx hb d_TuneSetterModel_goOn_33 ?_
        refine lv_iload hx hb d_TuneSetterModel_goOn_34 (lv_at hl 5 rfl) ?_
        refine lv_iadd hx hb d_TuneSetterModel_goOn_36 ?_
        obtain ⟨hin, h⟩ := h
        refine lR10 hx hb hK hP hin d_TuneSetterModel_goOn_37 ?_
        refine lv_aload_n hx hb d_TuneSetterModel_goOn_38 rfl (lv_at hl 0 rfl) ?_
        refine gR_TuneSetterModel_pitch hx hb hw hown hK hP (hw _ m_TuneSetterModel_51) d_TuneSetterModel_goOn_39 ?_
        refine lv_iconst (v := 4) hx hb d_TuneSetterModel_goOn_42 ic_4 ?_
        refine lv_aload_n hx hb d_TuneSetterModel_goOn_43 rfl (lv_at hl 0 rfl) ?_
        refine gR_TuneSetterModel_play hx hb hw hown hK hP (hw _ m_TuneSetterModel_57) d_TuneSetterModel_goOn_44 ?_
        refine lv_iload_n hx hb d_TuneSetterModel_goOn_47 rfl (lv_at hl 1 rfl) ?_
        obtain ⟨hin, h⟩ := h
        refine lR12 hx hb hK hP hin d_TuneSetterModel_goOn_48 ?_
        refine lv_imul hx hb d_TuneSetterModel_goOn_49 ?_
        refine lv_iload_n hx hb d_TuneSetterModel_goOn_50 rfl (lv_at hl 2 rfl) ?_
        refine lv_iadd hx hb d_TuneSetterModel_goOn_51 ?_
        obtain ⟨hin, h⟩ := h
        refine lR10 hx hb hK hP hin d_TuneSetterModel_goOn_52 ?_
        refine lv_icmp_ne (tgt := 76) hx hb d_TuneSetterModel_goOn_53 rfl (fun q => ?_) (fun q => ?_)
        · have h := h.2 q
          exact (j76 _ ih) y1 y2 y3 y4 y5 I A _ _ _ h hP hS (lv_sub hl [0, 1, 2, 3, 4, 5] rfl)
        · have h := h.1 q
          refine lv_aload_n hx hb d_TuneSetterModel_goOn_56 rfl (lv_at hl 0 rfl) ?_
          refine gR_TuneSetterModel_head hx hb hw hown hK hP (hw _ m_TuneSetterModel_69) d_TuneSetterModel_goOn_57 ?_
          refine lv_iconst (v := 4) hx hb d_TuneSetterModel_goOn_60 ic_4 ?_
          refine lv_iload_n hx hb d_TuneSetterModel_goOn_61 rfl (lv_at hl 1 rfl) ?_
          refine lv_imul hx hb d_TuneSetterModel_goOn_62 ?_
          refine lv_iconst (v := 4) hx hb d_TuneSetterModel_goOn_63 ic_4 ?_
          refine lv_iadd hx hb d_TuneSetterModel_goOn_64 ?_
          refine lv_iload hx hb d_TuneSetterModel_goOn_65 (lv_at hl 5 rfl) ?_
          refine lv_iadd hx hb d_TuneSetterModel_goOn_67 ?_
          obtain ⟨hin, h⟩ := h
          refine lR16 hx hb hK hP hin d_TuneSetterModel_goOn_68 ?_
          refine lv_if_ge (tgt := 76) hx hb d_TuneSetterModel_goOn_69 rfl (fun q => ?_) (fun q => ?_)
          · have h := h.1 q
            exact (j76 _ ih) y1 y2 y3 y4 y5 I A _ _ _ h hP hS (lv_sub hl [0, 1, 2, 3, 4, 5] rfl)
          · have h := h.2 q
            refine lv_iconst (v := 1) hx hb d_TuneSetterModel_goOn_72 ic_1 ?_
            refine lv_goto (tgt := 77) hx hb d_TuneSetterModel_goOn_73 rfl ?_
            refine lv_istore (lv' := [(6, .int 1), (0, .ref (a 0)), (1, .int y1), (2, .int y2), (3, .int y3), (4, .int y4), (5, .int y5)]) hx hb d_TuneSetterModel_goOn_77 hl (by decide) rfl (fun ls hl => ?_)
            refine lv_iload hx hb d_TuneSetterModel_goOn_79 (lv_at hl 0 rfl) ?_
            refine lv_if_eq (tgt := 89) hx hb d_TuneSetterModel_goOn_81 rfl (fun q => ?_) (fun q => ?_)
            · have h := h.1 q
              refine lv_iload hx hb d_TuneSetterModel_goOn_89 (lv_at hl 5 rfl) ?_
              refine lv_istore (lv' := [(4, .int y4), (6, .int 1), (0, .ref (a 0)), (1, .int y1), (2, .int y2), (3, .int y3), (5, .int y5)]) hx hb d_TuneSetterModel_goOn_91 hl (by decide) rfl (fun ls hl => ?_)
              obtain ⟨v93, ev93⟩ : ∃ z : Int32, z = y5 + (-1) := ⟨_, rfl⟩
              have h := h v93 ev93
              refine lv_iinc (k := 6) (v := v93) (lv' := [(5, .int v93), (4, .int y4), (6, .int 1), (0, .ref (a 0)), (1, .int y1), (2, .int y2), (3, .int y3)]) hx hb d_TuneSetterModel_goOn_93 hl rfl (by rw [ev93, ic_m1]) (by decide) rfl (fun ls hl => ?_)
              refine lv_goto (tgt := 22) hx hb d_TuneSetterModel_goOn_96 rfl ?_
              exact ih y1 y2 y3 y4 v93 I A _ _ _ h hP hS (lv_sub hl [3, 4, 5, 6, 1, 0] rfl)
            · have h := h.2 q
              refine lv_iload hx hb d_TuneSetterModel_goOn_84 (lv_at hl 6 rfl) ?_
              refine lv_goto (tgt := 91) hx hb d_TuneSetterModel_goOn_86 rfl ?_
              refine lv_istore (lv' := [(4, .int y5), (6, .int 1), (0, .ref (a 0)), (1, .int y1), (2, .int y2), (3, .int y3), (5, .int y5)]) hx hb d_TuneSetterModel_goOn_91 hl (by decide) rfl (fun ls hl => ?_)
              obtain ⟨v93, ev93⟩ : ∃ z : Int32, z = y5 + (-1) := ⟨_, rfl⟩
              have h := h v93 ev93
              refine lv_iinc (k := 6) (v := v93) (lv' := [(5, .int v93), (4, .int y5), (6, .int 1), (0, .ref (a 0)), (1, .int y1), (2, .int y2), (3, .int y3)]) hx hb d_TuneSetterModel_goOn_93 hl rfl (by rw [ev93, ic_m1]) (by decide) rfl (fun ls hl => ?_)
              refine lv_goto (tgt := 22) hx hb d_TuneSetterModel_goOn_96 rfl ?_
              exact ih y1 y2 y3 y5 v93 I A _ _ _ h hP hS (lv_sub hl [3, 4, 5, 6, 1, 0] rfl)
  have hl := lv_entry ([.ref (a 0), .int x1, .int x2]) (n := 7) (Nat.le_of_ble_eq_true rfl)
  rw [lg_entry_eq]
  generalize (lg_sl ([.ref (a 0), .int x1, .int x2]) ++ List.replicate (7 - (lg_sl ([.ref (a 0), .int x1, .int x2])).length) Slot.unset).toArray = ls at hl ⊢
  have hl : lv_has ls 7 [(0, .ref (a 0)), (1, .int x1), (2, .int x2)] := hl
  unfold wp_TuneSetterModel_goOn at h
  refine lv_aload_n hx hb d_TuneSetterModel_goOn_0 rfl (lv_at hl 0 rfl) ?_
  refine gR_TuneSetterModel_play hx hb hw hown hK hP (hw _ m_TuneSetterModel_57) d_TuneSetterModel_goOn_1 ?_
  refine lv_iload_n hx hb d_TuneSetterModel_goOn_4 rfl (lv_at hl 1 rfl) ?_
  refine lv_iconst (v := 1) hx hb d_TuneSetterModel_goOn_5 ic_1 ?_
  refine lv_iadd hx hb d_TuneSetterModel_goOn_6 ?_
  obtain ⟨hin, h⟩ := h
  refine lR12 hx hb hK hP hin d_TuneSetterModel_goOn_7 ?_
  refine lv_topi (fun v8 ev8 => ?_)
  have h := h v8 ev8
  refine lv_istore_n (lv' := [(3, .int v8), (0, .ref (a 0)), (1, .int x1), (2, .int x2)]) hx hb d_TuneSetterModel_goOn_8 rfl hl (by decide) rfl (fun ls hl => ?_)
  refine lv_iconst (v := (-1)) hx hb d_TuneSetterModel_goOn_9 ic_m1 ?_
  refine lv_istore (lv' := [(4, .int (-1)), (3, .int v8), (0, .ref (a 0)), (1, .int x1), (2, .int x2)]) hx hb d_TuneSetterModel_goOn_10 hl (by decide) rfl (fun ls hl => ?_)
  refine lv_aload_n hx hb d_TuneSetterModel_goOn_12 rfl (lv_at hl 2 rfl) ?_
  refine gR_TuneSetterModel_many hx hb hw hown hK hP (hw _ m_TuneSetterModel_48) d_TuneSetterModel_goOn_13 ?_
  refine lv_iload_n hx hb d_TuneSetterModel_goOn_16 rfl (lv_at hl 1 rfl) ?_
  obtain ⟨hin, h⟩ := h
  refine lR9 hx hb hK hP hin d_TuneSetterModel_goOn_17 ?_
  refine lv_iconst (v := 1) hx hb d_TuneSetterModel_goOn_18 ic_1 ?_
  refine lv_isub hx hb d_TuneSetterModel_goOn_19 ?_
  refine lv_topi (fun v20 ev20 => ?_)
  have h := h v20 ev20
  refine lv_istore (lv' := [(5, .int v20), (4, .int (-1)), (3, .int v8), (0, .ref (a 0)), (1, .int x1), (2, .int x2)]) hx hb d_TuneSetterModel_goOn_20 hl (by decide) rfl (fun ls hl => ?_)
  obtain ⟨n22, h⟩ := h
  exact j22 n22 x1 x2 v8 (-1) v20 I A _ _ _ h hP hS (lv_sub hl [3, 4, 5, 2, 1, 0] rfl)
theorem k_TuneSetterModel_goOn {p : Program} {l : Launch} {e : Env} {R : Room} {s : State} {m : MethodId} {args : Array Value} {below : List Frame} {meth : Method} {c : Code} {H : Heap} {locs : List Loc} {cells slots : Nat} {Q : State → Prop} {cc : ByteArray} {pc nL idx : Nat} {own : String} {ls : Array Slot} {D : va_G} {cA a : Nat → Nat} {AA : Nat → Prop} {I : Nat → Int32} {A : Nat → Nat → Int32} {post : (Nat → Int32) → (Nat → Nat → Int32) → Prop} (x1 : Int32) (x2 : Int32) {rest : List Value} (S : CallFix p m c cc nL s args WALL own) (hK : KR D cA a AA s) (hD : ∀ I A, va_D AA (wR cA a I A)) (hA : ∀ q : Nat, s.heap.size ≤ q → AA q) (hS : va_S AA s.heap H locs) (hP : va_P D cls (wR cA a I A) H) (hl1 : ls.size = nL) (hlink : (Cond.methodLink own idx y_TuneSetterModel_goOn).before args s = true) (hst : (rest.map fun v => v.category).sum ≤ 8) (hR : ({ frames := 0, cells := 0, slots := 0, locals := 0 } : Room).frames + 1 ≤ R.frames ∧ 8 + (7 + 11) + ({ frames := 0, cells := 0, slots := 0, locals := 0 } : Room).locals ≤ R.locals) (hcs : cells ≤ R.cells ∧ slots ≤ R.slots) (hdg : decode cc pc = .ok (.invokevirtual idx, 3)) (h : wp_TuneSetterModel_goOn x1 x2 I A post) (kk : ∀ (I1 : Nat → Int32) (A1 : Nat → Nat → Int32) (H1 : Heap) (locs1 : List Loc), post I1 A1 → va_P D cls (wR cA a I1 A1) H1 → va_S AA s.heap H1 locs1 → W p l e R s m args below meth c H1 locs1 cells slots Q (F0 m (pc + 3) ls rest)) : W p l e R s m args below meth c H locs cells slots Q (F0 m pc ls (.int x2 :: .int x1 :: .ref (a 0) :: rest)) :=
  va_callv (va_runV (As := [.int x1, .int x2]) (rest := rest) S (c_TuneSetterModel_goOn l D cA a H.size x1 x2 I A post h) ⟨callB_of 2 S.2.2.2.2 g_TuneSetterModel_goOn rfl rfl rfl (S.2.2.2.2 _ mi_TuneSetterModel) hlink ⟨by decide, by decide, by decide +kernel⟩ hR, S.2.2.2.2 _ mn_TuneSetterModel_goOn, S.2.2.2.2 _ ms_TuneSetterModel_goOn⟩ (preRV hK hD hA hS hP 0 rfl rfl) rfl rfl hl1 rfl (lv_room hst) hdg hcs) hS (fun q _ z => AR_le hD hA hS q z) (fun q z => AR_le hD hA hS q z) (fun u t H1 locs1 ht _ hp hB _ _ hS1 => kk u.1 u.2 H1 locs1 hp (of_endR ht hB) hS1)

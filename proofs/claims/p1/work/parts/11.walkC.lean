def wp_TuneSetter_metre_29 (post : Int32 → (Nat → Int32) → (Nat → Nat → Int32) → Prop) (y1 : Int32) (y2 : Int32) (I : Nat → Int32) (A : Nat → Nat → Int32) : Prop := (¬ y2 = 0 ∧ post 1 (upd I 31 (((384 : Int32) * y1) / y2)) A)
def wp_TuneSetter_metre (x1 : Int32) (x2 : Int32) (I : Nat → Int32) (A : Nat → Nat → Int32) (post : Int32 → (Nat → Int32) → (Nat → Nat → Int32) → Prop) : Prop := ((x1 < 1 → post 0 I A) ∧ (¬ x1 < 1 → ((12 < x1 → post 0 I A) ∧ (¬ 12 < x1 → ((x2 = 2 → wp_TuneSetter_metre_29 post x1 x2 I A) ∧ (¬ x2 = 2 → ((x2 = 4 → wp_TuneSetter_metre_29 post x1 x2 I A) ∧ (¬ x2 = 4 → ((x2 = 8 → wp_TuneSetter_metre_29 post x1 x2 I A) ∧ (¬ x2 = 8 → post 0 I A))))))))))
theorem d_TuneSetter_metre_0 : decode b_TuneSetter_metre 0 = .ok (.iload_n 1, 1) := by decide +kernel
theorem d_TuneSetter_metre_1 : decode b_TuneSetter_metre 1 = .ok (.iconst 1, 1) := by decide +kernel
theorem d_TuneSetter_metre_2 : decode b_TuneSetter_metre 2 = .ok (.if_icmp .lt 25, 3) := by decide +kernel
theorem d_TuneSetter_metre_5 : decode b_TuneSetter_metre 5 = .ok (.iload_n 1, 1) := by decide +kernel
theorem d_TuneSetter_metre_6 : decode b_TuneSetter_metre 6 = .ok (.bipush 12, 2) := by decide +kernel
theorem d_TuneSetter_metre_8 : decode b_TuneSetter_metre 8 = .ok (.if_icmp .gt 19, 3) := by decide +kernel
theorem d_TuneSetter_metre_11 : decode b_TuneSetter_metre 11 = .ok (.iload_n 2, 1) := by decide +kernel
theorem d_TuneSetter_metre_12 : decode b_TuneSetter_metre 12 = .ok (.iconst 2, 1) := by decide +kernel
theorem d_TuneSetter_metre_13 : decode b_TuneSetter_metre 13 = .ok (.if_icmp .eq 16, 3) := by decide +kernel
theorem d_TuneSetter_metre_16 : decode b_TuneSetter_metre 16 = .ok (.iload_n 2, 1) := by decide +kernel
theorem d_TuneSetter_metre_17 : decode b_TuneSetter_metre 17 = .ok (.iconst 4, 1) := by decide +kernel
theorem d_TuneSetter_metre_18 : decode b_TuneSetter_metre 18 = .ok (.if_icmp .eq 11, 3) := by decide +kernel
theorem d_TuneSetter_metre_21 : decode b_TuneSetter_metre 21 = .ok (.iload_n 2, 1) := by decide +kernel
theorem d_TuneSetter_metre_22 : decode b_TuneSetter_metre 22 = .ok (.bipush 8, 2) := by decide +kernel
theorem d_TuneSetter_metre_24 : decode b_TuneSetter_metre 24 = .ok (.if_icmp .eq 5, 3) := by decide +kernel
theorem d_TuneSetter_metre_27 : decode b_TuneSetter_metre 27 = .ok (.iconst 0, 1) := by decide +kernel
theorem d_TuneSetter_metre_28 : decode b_TuneSetter_metre 28 = .ok (.ireturn, 1) := by decide +kernel
theorem d_TuneSetter_metre_29 : decode b_TuneSetter_metre 29 = .ok (.aload_n 0, 1) := by decide +kernel
theorem d_TuneSetter_metre_30 : decode b_TuneSetter_metre 30 = .ok (.sipush 384, 3) := by decide +kernel
theorem d_TuneSetter_metre_33 : decode b_TuneSetter_metre 33 = .ok (.iload_n 1, 1) := by decide +kernel
theorem d_TuneSetter_metre_34 : decode b_TuneSetter_metre 34 = .ok (.imul, 1) := by decide +kernel
theorem d_TuneSetter_metre_35 : decode b_TuneSetter_metre 35 = .ok (.iload_n 2, 1) := by decide +kernel
theorem d_TuneSetter_metre_36 : decode b_TuneSetter_metre 36 = .ok (.idiv, 1) := by decide +kernel
theorem d_TuneSetter_metre_37 : decode b_TuneSetter_metre 37 = .ok (.putfield 41, 3) := by decide +kernel
theorem d_TuneSetter_metre_40 : decode b_TuneSetter_metre 40 = .ok (.iconst 1, 1) := by decide +kernel
theorem d_TuneSetter_metre_41 : decode b_TuneSetter_metre 41 = .ok (.ireturn, 1) := by decide +kernel
def w_TuneSetter_metre : List Cond := .code y_TuneSetter_metre b_TuneSetter_metre 3 (some .boolean) :: WALL
theorem g_TuneSetter_metre : GoodIn WALL w_TuneSetter_metre := good_of mc_TuneSetter_metre
set_option maxHeartbeats 4000000 in
set_option maxRecDepth 100000 in
theorem c_TuneSetter_metre (l : Launch) (D : va_G) (cA a : Nat → Nat) (sz : Nat) (x1 : Int32) (x2 : Int32) (I : Nat → Int32) (A : Nat → Nat → Int32) (post : Int32 → (Nat → Int32) → (Nat → Nat → Int32) → Prop) (h : wp_TuneSetter_metre x1 x2 I A post) : Met l y_TuneSetter_metre w_TuneSetter_metre ({ frames := 0, cells := 0, slots := 0, locals := 0 }) (va_Pc [.ref (a 0), .int x1, .int x2] (PreC D cA a I A sz)) (va_Qi (fun r (u : StW) => post r u.1 u.2) (EndC D cA a) (AC a sz)) 0 0 (AC a sz) := by
  refine Met.ofW (cc := b_TuneSetter_metre) (maxL := 3) (ret := (some .boolean)) (by decide) rfl ?_
  intro p e s m args below meth c s₁ B hml hv
  obtain ⟨rfl, hsz, hP, hK, hD0⟩ := hv
  have hx := B.exec
  have hb := B.bytes
  have hr := B.returns
  have hts := atoms_spec (ws := w_TuneSetter_metre) B.pre
  have hw := wall_of hts
  have hown : s.vm.findClass R_TuneSetter = some m.cls := findClass_of_methodNamed B.named
  have hlocks := B.notSynchronized
  subst hsz
  have hD := hDC (sz := s.heap.size) hD0
  have hA : ∀ q : Nat, s.heap.size ≤ q → AC a s.heap.size q := fun q h => Or.inr h
  have hS : va_S (AC a s.heap.size) s.heap s.heap [] := va_S.rf
  have j29 : ∀ (y1 : Int32) (y2 : Int32) (I : Nat → Int32) (A : Nat → Nat → Int32) (H : Heap) (locs : List Loc) (ls : Array Slot), wp_TuneSetter_metre_29 post y1 y2 I A → va_P D cls (wC cA a I A) H → va_S (AC a s.heap.size) s.heap H locs → lv_has ls 3 [(0, .ref (a 0)), (1, .int y1), (2, .int y2)] → W p l e (headSpec w_TuneSetter_metre ({ frames := 0, cells := 0, slots := 0, locals := 0 })).room s m [.ref (a 0), .int x1, .int x2].toArray below meth c H locs 0 0 (MQ below (va_Qi (fun r (u : StW) => post r u.1 u.2) (EndC D cA a) (AC a s.heap.size)) [.ref (a 0), .int x1, .int x2].toArray s 0 0 (AC a s.heap.size)) (F0 m 29 ls []) := by
    intro y1 y2 I A H locs ls h hP hS hl
    unfold wp_TuneSetter_metre_29 at h
    refine lv_aload_n hx hb d_TuneSetter_metre_29 rfl (lv_at hl 0 rfl) ?_
    refine lv_sipush (v := 384) hx hb d_TuneSetter_metre_30 sp_384 ?_
    refine lv_iload_n hx hb d_TuneSetter_metre_33 rfl (lv_at hl 1 rfl) ?_
    refine lv_imul hx hb d_TuneSetter_metre_34 ?_
    refine lv_iload_n hx hb d_TuneSetter_metre_35 rfl (lv_at hl 2 rfl) ?_
    obtain ⟨hne, h⟩ := h
    refine lv_idiv hx hb d_TuneSetter_metre_36 hne ?_
    refine pC_TuneSetter_fullBar hx hb hw hown hK hD hS hP (hw _ m_TuneSetter_41) d_TuneSetter_metre_37 (fun H locs hP hS => ?_)
    refine lv_iconst (v := 1) hx hb d_TuneSetter_metre_40 ic_1 ?_
    exact W.zret hx hb hr (vz_n vz1) (fun t ht hW => ⟨⟨_, ((upd I 31 (((384 : Int32) * y1) / y2)), A), rfl, h, endC_of ht hP⟩, hS.F ht⟩) hS.2.2 d_TuneSetter_metre_41
  have hl := lv_entry ([.ref (a 0), .int x1, .int x2]) (n := 3) (Nat.le_of_ble_eq_true rfl)
  rw [lg_entry_eq]
  generalize (lg_sl ([.ref (a 0), .int x1, .int x2]) ++ List.replicate (3 - (lg_sl ([.ref (a 0), .int x1, .int x2])).length) Slot.unset).toArray = ls at hl ⊢
  have hl : lv_has ls 3 [(0, .ref (a 0)), (1, .int x1), (2, .int x2)] := hl
  unfold wp_TuneSetter_metre at h
  refine lv_iload_n hx hb d_TuneSetter_metre_0 rfl (lv_at hl 1 rfl) ?_
  refine lv_iconst (v := 1) hx hb d_TuneSetter_metre_1 ic_1 ?_
  refine lv_icmp_lt (tgt := 27) hx hb d_TuneSetter_metre_2 rfl (fun q => ?_) (fun q => ?_)
  · have h := h.1 q
    refine lv_iconst (v := 0) hx hb d_TuneSetter_metre_27 ic_0 ?_
    exact W.zret hx hb hr (vz_n vz0) (fun t ht hW => ⟨⟨_, (I, A), rfl, h, endC_of ht hP⟩, hS.F ht⟩) hS.2.2 d_TuneSetter_metre_28
  · have h := h.2 q
    refine lv_iload_n hx hb d_TuneSetter_metre_5 rfl (lv_at hl 1 rfl) ?_
    refine lv_bipush (v := 12) hx hb d_TuneSetter_metre_6 bp_12 ?_
    refine lv_icmp_gt (tgt := 27) hx hb d_TuneSetter_metre_8 rfl (fun q => ?_) (fun q => ?_)
    · have h := h.1 q
      refine lv_iconst (v := 0) hx hb d_TuneSetter_metre_27 ic_0 ?_
      exact W.zret hx hb hr (vz_n vz0) (fun t ht hW => ⟨⟨_, (I, A), rfl, h, endC_of ht hP⟩, hS.F ht⟩) hS.2.2 d_TuneSetter_metre_28
    · have h := h.2 q
      refine lv_iload_n hx hb d_TuneSetter_metre_11 rfl (lv_at hl 2 rfl) ?_
      refine lv_iconst (v := 2) hx hb d_TuneSetter_metre_12 ic_2 ?_
      refine lv_icmp_eq (tgt := 29) hx hb d_TuneSetter_metre_13 rfl (fun q => ?_) (fun q => ?_)
      · have h := h.1 q
        exact j29 x1 x2 I A _ _ _ h hP hS (lv_sub hl [0, 1, 2] rfl)
      · have h := h.2 q
        refine lv_iload_n hx hb d_TuneSetter_metre_16 rfl (lv_at hl 2 rfl) ?_
        refine lv_iconst (v := 4) hx hb d_TuneSetter_metre_17 ic_4 ?_
        refine lv_icmp_eq (tgt := 29) hx hb d_TuneSetter_metre_18 rfl (fun q => ?_) (fun q => ?_)
        · have h := h.1 q
          exact j29 x1 x2 I A _ _ _ h hP hS (lv_sub hl [0, 1, 2] rfl)
        · have h := h.2 q
          refine lv_iload_n hx hb d_TuneSetter_metre_21 rfl (lv_at hl 2 rfl) ?_
          refine lv_bipush (v := 8) hx hb d_TuneSetter_metre_22 bp_8 ?_
          refine lv_icmp_eq (tgt := 29) hx hb d_TuneSetter_metre_24 rfl (fun q => ?_) (fun q => ?_)
          · have h := h.1 q
            exact j29 x1 x2 I A _ _ _ h hP hS (lv_sub hl [0, 1, 2] rfl)
          · have h := h.2 q
            refine lv_iconst (v := 0) hx hb d_TuneSetter_metre_27 ic_0 ?_
            exact W.zret hx hb hr (vz_n vz0) (fun t ht hW => ⟨⟨_, (I, A), rfl, h, endC_of ht hP⟩, hS.F ht⟩) hS.2.2 d_TuneSetter_metre_28
theorem k_TuneSetter_metre {p : Program} {l : Launch} {e : Env} {R : Room} {s : State} {m : MethodId} {args : Array Value} {below : List Frame} {meth : Method} {c : Code} {H : Heap} {locs : List Loc} {cells slots : Nat} {Q : State → Prop} {cc : ByteArray} {pc nL idx : Nat} {own : String} {ls : Array Slot} {D : va_G} {cA a : Nat → Nat} {AA : Nat → Prop} {I : Nat → Int32} {A : Nat → Nat → Int32} {post : Int32 → (Nat → Int32) → (Nat → Nat → Int32) → Prop} (x1 : Int32) (x2 : Int32) {rest : List Value} (S : CallFix p m c cc nL s args WALL own) (hK : KC D cA a AA s) (hD : ∀ I A, va_D AA (wC cA a I A)) (hA : ∀ q : Nat, s.heap.size ≤ q → AA q) (hS : va_S AA s.heap H locs) (hP : va_P D cls (wC cA a I A) H) (hl1 : ls.size = nL) (hlink : (Cond.methodLink own idx y_TuneSetter_metre).before args s = true) (hst : (rest.map fun v => v.category).sum ≤ 8) (hR : ({ frames := 0, cells := 0, slots := 0, locals := 0 } : Room).frames + 1 ≤ R.frames ∧ 8 + (3 + 11) + ({ frames := 0, cells := 0, slots := 0, locals := 0 } : Room).locals ≤ R.locals) (hcs : cells ≤ R.cells ∧ slots ≤ R.slots) (hdg : decode cc pc = .ok (.invokevirtual idx, 3)) (h : wp_TuneSetter_metre x1 x2 I A post) (kk : ∀ (r : Int32) (I1 : Nat → Int32) (A1 : Nat → Nat → Int32) (H1 : Heap) (locs1 : List Loc), post r I1 A1 → va_P D cls (wC cA a I1 A1) H1 → va_S AA s.heap H1 locs1 → W p l e R s m args below meth c H1 locs1 cells slots Q (F0 m (pc + 3) ls (.int r :: rest))) : W p l e R s m args below meth c H locs cells slots Q (F0 m pc ls (.int x2 :: .int x1 :: .ref (a 0) :: rest)) :=
  va_calli (va_runV (As := [.int x1, .int x2]) (rest := rest) S (c_TuneSetter_metre l D cA a H.size x1 x2 I A post h) ⟨callB_of 2 S.2.2.2.2 g_TuneSetter_metre rfl rfl rfl (S.2.2.2.2 _ mi_TuneSetter) hlink ⟨by decide, by decide, by decide +kernel⟩ hR, S.2.2.2.2 _ mn_TuneSetter_metre, S.2.2.2.2 _ ms_TuneSetter_metre⟩ (preCV hK hD hA hS hP 0 rfl rfl) rfl rfl hl1 rfl (lv_room hst) hdg hcs) hS (fun q _ z => AC_le hD hA hS q z) (fun q z => AC_le hD hA hS q z) (fun r u t H1 locs1 ht _ hp hB _ _ hS1 => kk r u.1 u.2 H1 locs1 hp (of_endC ht hB) hS1)
def wp_TuneSetter_unit (x1 : Int32) (I : Nat → Int32) (A : Nat → Nat → Int32) (post : Int32 → (Nat → Int32) → (Nat → Nat → Int32) → Prop) : Prop := ((x1 = 4 → (¬ x1 = 0 ∧ post 1 (upd I 32 ((384 : Int32) / x1)) A)) ∧ (¬ x1 = 4 → ((x1 = 8 → (¬ x1 = 0 ∧ post 1 (upd I 32 ((384 : Int32) / x1)) A)) ∧ (¬ x1 = 8 → ((x1 = 16 → (¬ x1 = 0 ∧ post 1 (upd I 32 ((384 : Int32) / x1)) A)) ∧ (¬ x1 = 16 → post 0 I A))))))
theorem d_TuneSetter_unit_0 : decode b_TuneSetter_unit 0 = .ok (.iload_n 1, 1) := by decide +kernel
theorem d_TuneSetter_unit_1 : decode b_TuneSetter_unit 1 = .ok (.iconst 4, 1) := by decide +kernel
theorem d_TuneSetter_unit_2 : decode b_TuneSetter_unit 2 = .ok (.if_icmp .eq 17, 3) := by decide +kernel
theorem d_TuneSetter_unit_5 : decode b_TuneSetter_unit 5 = .ok (.iload_n 1, 1) := by decide +kernel
theorem d_TuneSetter_unit_6 : decode b_TuneSetter_unit 6 = .ok (.bipush 8, 2) := by decide +kernel
theorem d_TuneSetter_unit_8 : decode b_TuneSetter_unit 8 = .ok (.if_icmp .eq 11, 3) := by decide +kernel
theorem d_TuneSetter_unit_11 : decode b_TuneSetter_unit 11 = .ok (.iload_n 1, 1) := by decide +kernel
theorem d_TuneSetter_unit_12 : decode b_TuneSetter_unit 12 = .ok (.bipush 16, 2) := by decide +kernel
theorem d_TuneSetter_unit_14 : decode b_TuneSetter_unit 14 = .ok (.if_icmp .eq 5, 3) := by decide +kernel
theorem d_TuneSetter_unit_17 : decode b_TuneSetter_unit 17 = .ok (.iconst 0, 1) := by decide +kernel
theorem d_TuneSetter_unit_18 : decode b_TuneSetter_unit 18 = .ok (.ireturn, 1) := by decide +kernel
theorem d_TuneSetter_unit_19 : decode b_TuneSetter_unit 19 = .ok (.aload_n 0, 1) := by decide +kernel
theorem d_TuneSetter_unit_20 : decode b_TuneSetter_unit 20 = .ok (.sipush 384, 3) := by decide +kernel
theorem d_TuneSetter_unit_23 : decode b_TuneSetter_unit 23 = .ok (.iload_n 1, 1) := by decide +kernel
theorem d_TuneSetter_unit_24 : decode b_TuneSetter_unit 24 = .ok (.idiv, 1) := by decide +kernel
theorem d_TuneSetter_unit_25 : decode b_TuneSetter_unit 25 = .ok (.putfield 45, 3) := by decide +kernel
theorem d_TuneSetter_unit_28 : decode b_TuneSetter_unit 28 = .ok (.iconst 1, 1) := by decide +kernel
theorem d_TuneSetter_unit_29 : decode b_TuneSetter_unit 29 = .ok (.ireturn, 1) := by decide +kernel
def w_TuneSetter_unit : List Cond := .code y_TuneSetter_unit b_TuneSetter_unit 2 (some .boolean) :: WALL
theorem g_TuneSetter_unit : GoodIn WALL w_TuneSetter_unit := good_of mc_TuneSetter_unit
set_option maxHeartbeats 4000000 in
set_option maxRecDepth 100000 in
theorem c_TuneSetter_unit (l : Launch) (D : va_G) (cA a : Nat → Nat) (sz : Nat) (x1 : Int32) (I : Nat → Int32) (A : Nat → Nat → Int32) (post : Int32 → (Nat → Int32) → (Nat → Nat → Int32) → Prop) (h : wp_TuneSetter_unit x1 I A post) : Met l y_TuneSetter_unit w_TuneSetter_unit ({ frames := 0, cells := 0, slots := 0, locals := 0 }) (va_Pc [.ref (a 0), .int x1] (PreC D cA a I A sz)) (va_Qi (fun r (u : StW) => post r u.1 u.2) (EndC D cA a) (AC a sz)) 0 0 (AC a sz) := by
  refine Met.ofW (cc := b_TuneSetter_unit) (maxL := 2) (ret := (some .boolean)) (by decide) rfl ?_
  intro p e s m args below meth c s₁ B hml hv
  obtain ⟨rfl, hsz, hP, hK, hD0⟩ := hv
  have hx := B.exec
  have hb := B.bytes
  have hr := B.returns
  have hts := atoms_spec (ws := w_TuneSetter_unit) B.pre
  have hw := wall_of hts
  have hown : s.vm.findClass R_TuneSetter = some m.cls := findClass_of_methodNamed B.named
  have hlocks := B.notSynchronized
  subst hsz
  have hD := hDC (sz := s.heap.size) hD0
  have hA : ∀ q : Nat, s.heap.size ≤ q → AC a s.heap.size q := fun q h => Or.inr h
  have hS : va_S (AC a s.heap.size) s.heap s.heap [] := va_S.rf
  have hl := lv_entry ([.ref (a 0), .int x1]) (n := 2) (Nat.le_of_ble_eq_true rfl)
  rw [lg_entry_eq]
  generalize (lg_sl ([.ref (a 0), .int x1]) ++ List.replicate (2 - (lg_sl ([.ref (a 0), .int x1])).length) Slot.unset).toArray = ls at hl ⊢
  have hl : lv_has ls 2 [(0, .ref (a 0)), (1, .int x1)] := hl
  unfold wp_TuneSetter_unit at h
  refine lv_iload_n hx hb d_TuneSetter_unit_0 rfl (lv_at hl 1 rfl) ?_
  refine lv_iconst (v := 4) hx hb d_TuneSetter_unit_1 ic_4 ?_
  refine lv_icmp_eq (tgt := 19) hx hb d_TuneSetter_unit_2 rfl (fun q => ?_) (fun q => ?_)
  · have h := h.1 q
    refine lv_aload_n hx hb d_TuneSetter_unit_19 rfl (lv_at hl 0 rfl) ?_
    refine lv_sipush (v := 384) hx hb d_TuneSetter_unit_20 sp_384 ?_
    refine lv_iload_n hx hb d_TuneSetter_unit_23 rfl (lv_at hl 1 rfl) ?_
    obtain ⟨hne, h⟩ := h
    refine lv_idiv hx hb d_TuneSetter_unit_24 hne ?_
    refine pC_TuneSetter_unitTicks hx hb hw hown hK hD hS hP (hw _ m_TuneSetter_45) d_TuneSetter_unit_25 (fun H locs hP hS => ?_)
    refine lv_iconst (v := 1) hx hb d_TuneSetter_unit_28 ic_1 ?_
    exact W.zret hx hb hr (vz_n vz1) (fun t ht hW => ⟨⟨_, ((upd I 32 ((384 : Int32) / x1)), A), rfl, h, endC_of ht hP⟩, hS.F ht⟩) hS.2.2 d_TuneSetter_unit_29
  · have h := h.2 q
    refine lv_iload_n hx hb d_TuneSetter_unit_5 rfl (lv_at hl 1 rfl) ?_
    refine lv_bipush (v := 8) hx hb d_TuneSetter_unit_6 bp_8 ?_
    refine lv_icmp_eq (tgt := 19) hx hb d_TuneSetter_unit_8 rfl (fun q => ?_) (fun q => ?_)
    · have h := h.1 q
      refine lv_aload_n hx hb d_TuneSetter_unit_19 rfl (lv_at hl 0 rfl) ?_
      refine lv_sipush (v := 384) hx hb d_TuneSetter_unit_20 sp_384 ?_
      refine lv_iload_n hx hb d_TuneSetter_unit_23 rfl (lv_at hl 1 rfl) ?_
      obtain ⟨hne, h⟩ := h
      refine lv_idiv hx hb d_TuneSetter_unit_24 hne ?_
      refine pC_TuneSetter_unitTicks hx hb hw hown hK hD hS hP (hw _ m_TuneSetter_45) d_TuneSetter_unit_25 (fun H locs hP hS => ?_)
      refine lv_iconst (v := 1) hx hb d_TuneSetter_unit_28 ic_1 ?_
      exact W.zret hx hb hr (vz_n vz1) (fun t ht hW => ⟨⟨_, ((upd I 32 ((384 : Int32) / x1)), A), rfl, h, endC_of ht hP⟩, hS.F ht⟩) hS.2.2 d_TuneSetter_unit_29
    · have h := h.2 q
      refine lv_iload_n hx hb d_TuneSetter_unit_11 rfl (lv_at hl 1 rfl) ?_
      refine lv_bipush (v := 16) hx hb d_TuneSetter_unit_12 bp_16 ?_
      refine lv_icmp_eq (tgt := 19) hx hb d_TuneSetter_unit_14 rfl (fun q => ?_) (fun q => ?_)
      · have h := h.1 q
        refine lv_aload_n hx hb d_TuneSetter_unit_19 rfl (lv_at hl 0 rfl) ?_
        refine lv_sipush (v := 384) hx hb d_TuneSetter_unit_20 sp_384 ?_
        refine lv_iload_n hx hb d_TuneSetter_unit_23 rfl (lv_at hl 1 rfl) ?_
        obtain ⟨hne, h⟩ := h
        refine lv_idiv hx hb d_TuneSetter_unit_24 hne ?_
        refine pC_TuneSetter_unitTicks hx hb hw hown hK hD hS hP (hw _ m_TuneSetter_45) d_TuneSetter_unit_25 (fun H locs hP hS => ?_)
        refine lv_iconst (v := 1) hx hb d_TuneSetter_unit_28 ic_1 ?_
        exact W.zret hx hb hr (vz_n vz1) (fun t ht hW => ⟨⟨_, ((upd I 32 ((384 : Int32) / x1)), A), rfl, h, endC_of ht hP⟩, hS.F ht⟩) hS.2.2 d_TuneSetter_unit_29
      · have h := h.2 q
        refine lv_iconst (v := 0) hx hb d_TuneSetter_unit_17 ic_0 ?_
        exact W.zret hx hb hr (vz_n vz0) (fun t ht hW => ⟨⟨_, (I, A), rfl, h, endC_of ht hP⟩, hS.F ht⟩) hS.2.2 d_TuneSetter_unit_18
theorem k_TuneSetter_unit {p : Program} {l : Launch} {e : Env} {R : Room} {s : State} {m : MethodId} {args : Array Value} {below : List Frame} {meth : Method} {c : Code} {H : Heap} {locs : List Loc} {cells slots : Nat} {Q : State → Prop} {cc : ByteArray} {pc nL idx : Nat} {own : String} {ls : Array Slot} {D : va_G} {cA a : Nat → Nat} {AA : Nat → Prop} {I : Nat → Int32} {A : Nat → Nat → Int32} {post : Int32 → (Nat → Int32) → (Nat → Nat → Int32) → Prop} (x1 : Int32) {rest : List Value} (S : CallFix p m c cc nL s args WALL own) (hK : KC D cA a AA s) (hD : ∀ I A, va_D AA (wC cA a I A)) (hA : ∀ q : Nat, s.heap.size ≤ q → AA q) (hS : va_S AA s.heap H locs) (hP : va_P D cls (wC cA a I A) H) (hl1 : ls.size = nL) (hlink : (Cond.methodLink own idx y_TuneSetter_unit).before args s = true) (hst : (rest.map fun v => v.category).sum ≤ 8) (hR : ({ frames := 0, cells := 0, slots := 0, locals := 0 } : Room).frames + 1 ≤ R.frames ∧ 8 + (2 + 11) + ({ frames := 0, cells := 0, slots := 0, locals := 0 } : Room).locals ≤ R.locals) (hcs : cells ≤ R.cells ∧ slots ≤ R.slots) (hdg : decode cc pc = .ok (.invokevirtual idx, 3)) (h : wp_TuneSetter_unit x1 I A post) (kk : ∀ (r : Int32) (I1 : Nat → Int32) (A1 : Nat → Nat → Int32) (H1 : Heap) (locs1 : List Loc), post r I1 A1 → va_P D cls (wC cA a I1 A1) H1 → va_S AA s.heap H1 locs1 → W p l e R s m args below meth c H1 locs1 cells slots Q (F0 m (pc + 3) ls (.int r :: rest))) : W p l e R s m args below meth c H locs cells slots Q (F0 m pc ls (.int x1 :: .ref (a 0) :: rest)) :=
  va_calli (va_runV (As := [.int x1]) (rest := rest) S (c_TuneSetter_unit l D cA a H.size x1 I A post h) ⟨callB_of 1 S.2.2.2.2 g_TuneSetter_unit rfl rfl rfl (S.2.2.2.2 _ mi_TuneSetter) hlink ⟨by decide, by decide, by decide +kernel⟩ hR, S.2.2.2.2 _ mn_TuneSetter_unit, S.2.2.2.2 _ ms_TuneSetter_unit⟩ (preCV hK hD hA hS hP 0 rfl rfl) rfl rfl hl1 rfl (lv_room hst) hdg hcs) hS (fun q _ z => AC_le hD hA hS q z) (fun q z => AC_le hD hA hS q z) (fun r u t H1 locs1 ht _ hp hB _ _ hS1 => kk r u.1 u.2 H1 locs1 hp (of_endC ht hB) hS1)
def wp_TuneSetter_key (x1 : Int32) (I : Nat → Int32) (A : Nat → Nat → Int32) (post : Int32 → (Nat → Int32) → (Nat → Nat → Int32) → Prop) : Prop := ((x1 < (-7) → post 0 I A) ∧ (¬ x1 < (-7) → ((x1 ≤ 7 → post 1 (upd I 33 x1) A) ∧ (¬ x1 ≤ 7 → post 0 I A))))
theorem d_TuneSetter_key_0 : decode b_TuneSetter_key 0 = .ok (.iload_n 1, 1) := by decide +kernel
theorem d_TuneSetter_key_1 : decode b_TuneSetter_key 1 = .ok (.bipush (-7), 2) := by decide +kernel
theorem d_TuneSetter_key_3 : decode b_TuneSetter_key 3 = .ok (.if_icmp .lt 9, 3) := by decide +kernel
theorem d_TuneSetter_key_6 : decode b_TuneSetter_key 6 = .ok (.iload_n 1, 1) := by decide +kernel
theorem d_TuneSetter_key_7 : decode b_TuneSetter_key 7 = .ok (.bipush 7, 2) := by decide +kernel
theorem d_TuneSetter_key_9 : decode b_TuneSetter_key 9 = .ok (.if_icmp .le 5, 3) := by decide +kernel
theorem d_TuneSetter_key_12 : decode b_TuneSetter_key 12 = .ok (.iconst 0, 1) := by decide +kernel
theorem d_TuneSetter_key_13 : decode b_TuneSetter_key 13 = .ok (.ireturn, 1) := by decide +kernel
theorem d_TuneSetter_key_14 : decode b_TuneSetter_key 14 = .ok (.aload_n 0, 1) := by decide +kernel
theorem d_TuneSetter_key_15 : decode b_TuneSetter_key 15 = .ok (.iload_n 1, 1) := by decide +kernel
theorem d_TuneSetter_key_16 : decode b_TuneSetter_key 16 = .ok (.putfield 51, 3) := by decide +kernel
theorem d_TuneSetter_key_19 : decode b_TuneSetter_key 19 = .ok (.iconst 1, 1) := by decide +kernel
theorem d_TuneSetter_key_20 : decode b_TuneSetter_key 20 = .ok (.ireturn, 1) := by decide +kernel
def w_TuneSetter_key : List Cond := .code y_TuneSetter_key b_TuneSetter_key 2 (some .boolean) :: WALL
theorem g_TuneSetter_key : GoodIn WALL w_TuneSetter_key := good_of mc_TuneSetter_key
set_option maxHeartbeats 4000000 in
set_option maxRecDepth 100000 in
theorem c_TuneSetter_key (l : Launch) (D : va_G) (cA a : Nat → Nat) (sz : Nat) (x1 : Int32) (I : Nat → Int32) (A : Nat → Nat → Int32) (post : Int32 → (Nat → Int32) → (Nat → Nat → Int32) → Prop) (h : wp_TuneSetter_key x1 I A post) : Met l y_TuneSetter_key w_TuneSetter_key ({ frames := 0, cells := 0, slots := 0, locals := 0 }) (va_Pc [.ref (a 0), .int x1] (PreC D cA a I A sz)) (va_Qi (fun r (u : StW) => post r u.1 u.2) (EndC D cA a) (AC a sz)) 0 0 (AC a sz) := by
  refine Met.ofW (cc := b_TuneSetter_key) (maxL := 2) (ret := (some .boolean)) (by decide) rfl ?_
  intro p e s m args below meth c s₁ B hml hv
  obtain ⟨rfl, hsz, hP, hK, hD0⟩ := hv
  have hx := B.exec
  have hb := B.bytes
  have hr := B.returns
  have hts := atoms_spec (ws := w_TuneSetter_key) B.pre
  have hw := wall_of hts
  have hown : s.vm.findClass R_TuneSetter = some m.cls := findClass_of_methodNamed B.named
  have hlocks := B.notSynchronized
  subst hsz
  have hD := hDC (sz := s.heap.size) hD0
  have hA : ∀ q : Nat, s.heap.size ≤ q → AC a s.heap.size q := fun q h => Or.inr h
  have hS : va_S (AC a s.heap.size) s.heap s.heap [] := va_S.rf
  have hl := lv_entry ([.ref (a 0), .int x1]) (n := 2) (Nat.le_of_ble_eq_true rfl)
  rw [lg_entry_eq]
  generalize (lg_sl ([.ref (a 0), .int x1]) ++ List.replicate (2 - (lg_sl ([.ref (a 0), .int x1])).length) Slot.unset).toArray = ls at hl ⊢
  have hl : lv_has ls 2 [(0, .ref (a 0)), (1, .int x1)] := hl
  unfold wp_TuneSetter_key at h
  refine lv_iload_n hx hb d_TuneSetter_key_0 rfl (lv_at hl 1 rfl) ?_
  refine lv_bipush (v := (-7)) hx hb d_TuneSetter_key_1 bp_m7 ?_
  refine lv_icmp_lt (tgt := 12) hx hb d_TuneSetter_key_3 rfl (fun q => ?_) (fun q => ?_)
  · have h := h.1 q
    refine lv_iconst (v := 0) hx hb d_TuneSetter_key_12 ic_0 ?_
    exact W.zret hx hb hr (vz_n vz0) (fun t ht hW => ⟨⟨_, (I, A), rfl, h, endC_of ht hP⟩, hS.F ht⟩) hS.2.2 d_TuneSetter_key_13
  · have h := h.2 q
    refine lv_iload_n hx hb d_TuneSetter_key_6 rfl (lv_at hl 1 rfl) ?_
    refine lv_bipush (v := 7) hx hb d_TuneSetter_key_7 bp_7 ?_
    refine lv_icmp_le (tgt := 14) hx hb d_TuneSetter_key_9 rfl (fun q => ?_) (fun q => ?_)
    · have h := h.1 q
      refine lv_aload_n hx hb d_TuneSetter_key_14 rfl (lv_at hl 0 rfl) ?_
      refine lv_iload_n hx hb d_TuneSetter_key_15 rfl (lv_at hl 1 rfl) ?_
      refine pC_TuneSetter_sharps hx hb hw hown hK hD hS hP (hw _ m_TuneSetter_51) d_TuneSetter_key_16 (fun H locs hP hS => ?_)
      refine lv_iconst (v := 1) hx hb d_TuneSetter_key_19 ic_1 ?_
      exact W.zret hx hb hr (vz_n vz1) (fun t ht hW => ⟨⟨_, ((upd I 33 x1), A), rfl, h, endC_of ht hP⟩, hS.F ht⟩) hS.2.2 d_TuneSetter_key_20
    · have h := h.2 q
      refine lv_iconst (v := 0) hx hb d_TuneSetter_key_12 ic_0 ?_
      exact W.zret hx hb hr (vz_n vz0) (fun t ht hW => ⟨⟨_, (I, A), rfl, h, endC_of ht hP⟩, hS.F ht⟩) hS.2.2 d_TuneSetter_key_13
theorem k_TuneSetter_key {p : Program} {l : Launch} {e : Env} {R : Room} {s : State} {m : MethodId} {args : Array Value} {below : List Frame} {meth : Method} {c : Code} {H : Heap} {locs : List Loc} {cells slots : Nat} {Q : State → Prop} {cc : ByteArray} {pc nL idx : Nat} {own : String} {ls : Array Slot} {D : va_G} {cA a : Nat → Nat} {AA : Nat → Prop} {I : Nat → Int32} {A : Nat → Nat → Int32} {post : Int32 → (Nat → Int32) → (Nat → Nat → Int32) → Prop} (x1 : Int32) {rest : List Value} (S : CallFix p m c cc nL s args WALL own) (hK : KC D cA a AA s) (hD : ∀ I A, va_D AA (wC cA a I A)) (hA : ∀ q : Nat, s.heap.size ≤ q → AA q) (hS : va_S AA s.heap H locs) (hP : va_P D cls (wC cA a I A) H) (hl1 : ls.size = nL) (hlink : (Cond.methodLink own idx y_TuneSetter_key).before args s = true) (hst : (rest.map fun v => v.category).sum ≤ 8) (hR : ({ frames := 0, cells := 0, slots := 0, locals := 0 } : Room).frames + 1 ≤ R.frames ∧ 8 + (2 + 11) + ({ frames := 0, cells := 0, slots := 0, locals := 0 } : Room).locals ≤ R.locals) (hcs : cells ≤ R.cells ∧ slots ≤ R.slots) (hdg : decode cc pc = .ok (.invokevirtual idx, 3)) (h : wp_TuneSetter_key x1 I A post) (kk : ∀ (r : Int32) (I1 : Nat → Int32) (A1 : Nat → Nat → Int32) (H1 : Heap) (locs1 : List Loc), post r I1 A1 → va_P D cls (wC cA a I1 A1) H1 → va_S AA s.heap H1 locs1 → W p l e R s m args below meth c H1 locs1 cells slots Q (F0 m (pc + 3) ls (.int r :: rest))) : W p l e R s m args below meth c H locs cells slots Q (F0 m pc ls (.int x1 :: .ref (a 0) :: rest)) :=
  va_calli (va_runV (As := [.int x1]) (rest := rest) S (c_TuneSetter_key l D cA a H.size x1 I A post h) ⟨callB_of 1 S.2.2.2.2 g_TuneSetter_key rfl rfl rfl (S.2.2.2.2 _ mi_TuneSetter) hlink ⟨by decide, by decide, by decide +kernel⟩ hR, S.2.2.2.2 _ mn_TuneSetter_key, S.2.2.2.2 _ ms_TuneSetter_key⟩ (preCV hK hD hA hS hP 0 rfl rfl) rfl rfl hl1 rfl (lv_room hst) hdg hcs) hS (fun q _ z => AC_le hD hA hS q z) (fun q z => AC_le hD hA hS q z) (fun r u t H1 locs1 ht _ hp hB _ _ hS1 => kk r u.1 u.2 H1 locs1 hp (of_endC ht hB) hS1)
def wp_TuneSetter_type (x1 : Int32) (I : Nat → Int32) (A : Nat → Nat → Int32) (post : Int32 → (Nat → Int32) → (Nat → Nat → Int32) → Prop) : Prop := ((x1 < 32 → post 0 I A) ∧ (¬ x1 < 32 → ((126 < x1 → post 0 I A) ∧ (¬ 126 < x1 → (((I 30) < 120 → (vp_in (I 30) 120 ∧ (vch x1 ∧ post 1 (upd I 30 ((I 30) + 1)) (upd2 A 1 ((I 30).toNatClampNeg) x1)))) ∧ (¬ (I 30) < 120 → post 0 I A))))))
theorem d_TuneSetter_type_0 : decode b_TuneSetter_type 0 = .ok (.iload_n 1, 1) := by decide +kernel
theorem d_TuneSetter_type_1 : decode b_TuneSetter_type 1 = .ok (.bipush 32, 2) := by decide +kernel
theorem d_TuneSetter_type_3 : decode b_TuneSetter_type 3 = .ok (.if_icmp .lt 18, 3) := by decide +kernel
theorem d_TuneSetter_type_6 : decode b_TuneSetter_type 6 = .ok (.iload_n 1, 1) := by decide +kernel
theorem d_TuneSetter_type_7 : decode b_TuneSetter_type 7 = .ok (.bipush 126, 2) := by decide +kernel
theorem d_TuneSetter_type_9 : decode b_TuneSetter_type 9 = .ok (.if_icmp .gt 12, 3) := by decide +kernel
theorem d_TuneSetter_type_12 : decode b_TuneSetter_type 12 = .ok (.aload_n 0, 1) := by decide +kernel
theorem d_TuneSetter_type_13 : decode b_TuneSetter_type 13 = .ok (.getfield 54, 3) := by decide +kernel
theorem d_TuneSetter_type_16 : decode b_TuneSetter_type 16 = .ok (.bipush 120, 2) := by decide +kernel
theorem d_TuneSetter_type_18 : decode b_TuneSetter_type 18 = .ok (.if_icmp .lt 5, 3) := by decide +kernel
theorem d_TuneSetter_type_21 : decode b_TuneSetter_type 21 = .ok (.iconst 0, 1) := by decide +kernel
theorem d_TuneSetter_type_22 : decode b_TuneSetter_type 22 = .ok (.ireturn, 1) := by decide +kernel
theorem d_TuneSetter_type_23 : decode b_TuneSetter_type 23 = .ok (.aload_n 0, 1) := by decide +kernel
theorem d_TuneSetter_type_24 : decode b_TuneSetter_type 24 = .ok (.getfield 9, 3) := by decide +kernel
theorem d_TuneSetter_type_27 : decode b_TuneSetter_type 27 = .ok (.aload_n 0, 1) := by decide +kernel
theorem d_TuneSetter_type_28 : decode b_TuneSetter_type 28 = .ok (.getfield 54, 3) := by decide +kernel
theorem d_TuneSetter_type_31 : decode b_TuneSetter_type 31 = .ok (.iload_n 1, 1) := by decide +kernel
theorem d_TuneSetter_type_32 : decode b_TuneSetter_type 32 = .ok (.castore, 1) := by decide +kernel
theorem d_TuneSetter_type_33 : decode b_TuneSetter_type 33 = .ok (.aload_n 0, 1) := by decide +kernel
theorem d_TuneSetter_type_34 : decode b_TuneSetter_type 34 = .ok (.dup, 1) := by decide +kernel
theorem d_TuneSetter_type_35 : decode b_TuneSetter_type 35 = .ok (.getfield 54, 3) := by decide +kernel
theorem d_TuneSetter_type_38 : decode b_TuneSetter_type 38 = .ok (.iconst 1, 1) := by decide +kernel
theorem d_TuneSetter_type_39 : decode b_TuneSetter_type 39 = .ok (.iadd, 1) := by decide +kernel
theorem d_TuneSetter_type_40 : decode b_TuneSetter_type 40 = .ok (.putfield 54, 3) := by decide +kernel
theorem d_TuneSetter_type_43 : decode b_TuneSetter_type 43 = .ok (.iconst 1, 1) := by decide +kernel
theorem d_TuneSetter_type_44 : decode b_TuneSetter_type 44 = .ok (.ireturn, 1) := by decide +kernel
def w_TuneSetter_type : List Cond := .code y_TuneSetter_type b_TuneSetter_type 2 (some .boolean) :: WALL
theorem g_TuneSetter_type : GoodIn WALL w_TuneSetter_type := good_of mc_TuneSetter_type
set_option maxHeartbeats 4000000 in
set_option maxRecDepth 100000 in
theorem c_TuneSetter_type (l : Launch) (D : va_G) (cA a : Nat → Nat) (sz : Nat) (x1 : Int32) (I : Nat → Int32) (A : Nat → Nat → Int32) (post : Int32 → (Nat → Int32) → (Nat → Nat → Int32) → Prop) (h : wp_TuneSetter_type x1 I A post) : Met l y_TuneSetter_type w_TuneSetter_type ({ frames := 0, cells := 0, slots := 0, locals := 0 }) (va_Pc [.ref (a 0), .int x1] (PreC D cA a I A sz)) (va_Qi (fun r (u : StW) => post r u.1 u.2) (EndC D cA a) (AC a sz)) 0 0 (AC a sz) := by
  refine Met.ofW (cc := b_TuneSetter_type) (maxL := 2) (ret := (some .boolean)) (by decide) rfl ?_
  intro p e s m args below meth c s₁ B hml hv
  obtain ⟨rfl, hsz, hP, hK, hD0⟩ := hv
  have hx := B.exec
  have hb := B.bytes
  have hr := B.returns
  have hts := atoms_spec (ws := w_TuneSetter_type) B.pre
  have hw := wall_of hts
  have hown : s.vm.findClass R_TuneSetter = some m.cls := findClass_of_methodNamed B.named
  have hlocks := B.notSynchronized
  subst hsz
  have hD := hDC (sz := s.heap.size) hD0
  have hA : ∀ q : Nat, s.heap.size ≤ q → AC a s.heap.size q := fun q h => Or.inr h
  have hS : va_S (AC a s.heap.size) s.heap s.heap [] := va_S.rf
  have hl := lv_entry ([.ref (a 0), .int x1]) (n := 2) (Nat.le_of_ble_eq_true rfl)
  rw [lg_entry_eq]
  generalize (lg_sl ([.ref (a 0), .int x1]) ++ List.replicate (2 - (lg_sl ([.ref (a 0), .int x1])).length) Slot.unset).toArray = ls at hl ⊢
  have hl : lv_has ls 2 [(0, .ref (a 0)), (1, .int x1)] := hl
  unfold wp_TuneSetter_type at h
  refine lv_iload_n hx hb d_TuneSetter_type_0 rfl (lv_at hl 1 rfl) ?_
  refine lv_bipush (v := 32) hx hb d_TuneSetter_type_1 bp_32 ?_
  refine lv_icmp_lt (tgt := 21) hx hb d_TuneSetter_type_3 rfl (fun q => ?_) (fun q => ?_)
  · have h := h.1 q
    refine lv_iconst (v := 0) hx hb d_TuneSetter_type_21 ic_0 ?_
    exact W.zret hx hb hr (vz_n vz0) (fun t ht hW => ⟨⟨_, (I, A), rfl, h, endC_of ht hP⟩, hS.F ht⟩) hS.2.2 d_TuneSetter_type_22
  · have h := h.2 q
    refine lv_iload_n hx hb d_TuneSetter_type_6 rfl (lv_at hl 1 rfl) ?_
    refine lv_bipush (v := 126) hx hb d_TuneSetter_type_7 bp_126 ?_
    refine lv_icmp_gt (tgt := 21) hx hb d_TuneSetter_type_9 rfl (fun q => ?_) (fun q => ?_)
    · have h := h.1 q
      refine lv_iconst (v := 0) hx hb d_TuneSetter_type_21 ic_0 ?_
      exact W.zret hx hb hr (vz_n vz0) (fun t ht hW => ⟨⟨_, (I, A), rfl, h, endC_of ht hP⟩, hS.F ht⟩) hS.2.2 d_TuneSetter_type_22
    · have h := h.2 q
      refine lv_aload_n hx hb d_TuneSetter_type_12 rfl (lv_at hl 0 rfl) ?_
      refine gC_TuneSetter_textSize hx hb hw hown hK hP (hw _ m_TuneSetter_54) d_TuneSetter_type_13 ?_
      refine lv_bipush (v := 120) hx hb d_TuneSetter_type_16 bp_120 ?_
      refine lv_icmp_lt (tgt := 23) hx hb d_TuneSetter_type_18 rfl (fun q => ?_) (fun q => ?_)
      · have h := h.1 q
        refine lv_aload_n hx hb d_TuneSetter_type_23 rfl (lv_at hl 0 rfl) ?_
        refine gC_TuneSetter_text hx hb hw hown hK hP (hw _ m_TuneSetter_9) d_TuneSetter_type_24 ?_
        refine lv_aload_n hx hb d_TuneSetter_type_27 rfl (lv_at hl 0 rfl) ?_
        refine gC_TuneSetter_textSize hx hb hw hown hK hP (hw _ m_TuneSetter_54) d_TuneSetter_type_28 ?_
        refine lv_iload_n hx hb d_TuneSetter_type_31 rfl (lv_at hl 1 rfl) ?_
        obtain ⟨hin, h⟩ := h
        obtain ⟨hz, h⟩ := h
        refine sC1 hx hb hK hD hS hP hin hz d_TuneSetter_type_32 (fun H locs hP hS => ?_)
        refine lv_aload_n hx hb d_TuneSetter_type_33 rfl (lv_at hl 0 rfl) ?_
        refine lv_dup hx hb d_TuneSetter_type_34 rfl ?_
        refine gC_TuneSetter_textSize hx hb hw hown hK hP (hw _ m_TuneSetter_54) d_TuneSetter_type_35 ?_
        refine lv_iconst (v := 1) hx hb d_TuneSetter_type_38 ic_1 ?_
        refine lv_iadd hx hb d_TuneSetter_type_39 ?_
        refine pC_TuneSetter_textSize hx hb hw hown hK hD hS hP (hw _ m_TuneSetter_54) d_TuneSetter_type_40 (fun H locs hP hS => ?_)
        refine lv_iconst (v := 1) hx hb d_TuneSetter_type_43 ic_1 ?_
        exact W.zret hx hb hr (vz_n vz1) (fun t ht hW => ⟨⟨_, ((upd I 30 ((I 30) + 1)), (upd2 A 1 ((I 30).toNatClampNeg) x1)), rfl, h, endC_of ht hP⟩, hS.F ht⟩) hS.2.2 d_TuneSetter_type_44
      · have h := h.2 q
        refine lv_iconst (v := 0) hx hb d_TuneSetter_type_21 ic_0 ?_
        exact W.zret hx hb hr (vz_n vz0) (fun t ht hW => ⟨⟨_, (I, A), rfl, h, endC_of ht hP⟩, hS.F ht⟩) hS.2.2 d_TuneSetter_type_22
theorem k_TuneSetter_type {p : Program} {l : Launch} {e : Env} {R : Room} {s : State} {m : MethodId} {args : Array Value} {below : List Frame} {meth : Method} {c : Code} {H : Heap} {locs : List Loc} {cells slots : Nat} {Q : State → Prop} {cc : ByteArray} {pc nL idx : Nat} {own : String} {ls : Array Slot} {D : va_G} {cA a : Nat → Nat} {AA : Nat → Prop} {I : Nat → Int32} {A : Nat → Nat → Int32} {post : Int32 → (Nat → Int32) → (Nat → Nat → Int32) → Prop} (x1 : Int32) {rest : List Value} (S : CallFix p m c cc nL s args WALL own) (hK : KC D cA a AA s) (hD : ∀ I A, va_D AA (wC cA a I A)) (hA : ∀ q : Nat, s.heap.size ≤ q → AA q) (hS : va_S AA s.heap H locs) (hP : va_P D cls (wC cA a I A) H) (hl1 : ls.size = nL) (hlink : (Cond.methodLink own idx y_TuneSetter_type).before args s = true) (hst : (rest.map fun v => v.category).sum ≤ 8) (hR : ({ frames := 0, cells := 0, slots := 0, locals := 0 } : Room).frames + 1 ≤ R.frames ∧ 8 + (2 + 11) + ({ frames := 0, cells := 0, slots := 0, locals := 0 } : Room).locals ≤ R.locals) (hcs : cells ≤ R.cells ∧ slots ≤ R.slots) (hdg : decode cc pc = .ok (.invokevirtual idx, 3)) (h : wp_TuneSetter_type x1 I A post) (kk : ∀ (r : Int32) (I1 : Nat → Int32) (A1 : Nat → Nat → Int32) (H1 : Heap) (locs1 : List Loc), post r I1 A1 → va_P D cls (wC cA a I1 A1) H1 → va_S AA s.heap H1 locs1 → W p l e R s m args below meth c H1 locs1 cells slots Q (F0 m (pc + 3) ls (.int r :: rest))) : W p l e R s m args below meth c H locs cells slots Q (F0 m pc ls (.int x1 :: .ref (a 0) :: rest)) :=
  va_calli (va_runV (As := [.int x1]) (rest := rest) S (c_TuneSetter_type l D cA a H.size x1 I A post h) ⟨callB_of 1 S.2.2.2.2 g_TuneSetter_type rfl rfl rfl (S.2.2.2.2 _ mi_TuneSetter) hlink ⟨by decide, by decide, by decide +kernel⟩ hR, S.2.2.2.2 _ mn_TuneSetter_type, S.2.2.2.2 _ ms_TuneSetter_type⟩ (preCV hK hD hA hS hP 0 rfl rfl) rfl rfl hl1 rfl (lv_room hst) hdg hcs) hS (fun q _ z => AC_le hD hA hS q z) (fun q z => AC_le hD hA hS q z) (fun r u t H1 locs1 ht _ hp hB _ _ hS1 => kk r u.1 u.2 H1 locs1 hp (of_endC ht hB) hS1)
def wp_TuneSetter_clear (I : Nat → Int32) (A : Nat → Nat → Int32) (post : Int32 → (Nat → Int32) → (Nat → Nat → Int32) → Prop) : Prop := (∀ v4 : Int32, v4 = (I 30) → post v4 (upd I 30 0) A)
theorem d_TuneSetter_clear_0 : decode b_TuneSetter_clear 0 = .ok (.aload_n 0, 1) := by decide +kernel
theorem d_TuneSetter_clear_1 : decode b_TuneSetter_clear 1 = .ok (.getfield 54, 3) := by decide +kernel
theorem d_TuneSetter_clear_4 : decode b_TuneSetter_clear 4 = .ok (.istore_n 1, 1) := by decide +kernel
theorem d_TuneSetter_clear_5 : decode b_TuneSetter_clear 5 = .ok (.aload_n 0, 1) := by decide +kernel
theorem d_TuneSetter_clear_6 : decode b_TuneSetter_clear 6 = .ok (.iconst 0, 1) := by decide +kernel
theorem d_TuneSetter_clear_7 : decode b_TuneSetter_clear 7 = .ok (.putfield 54, 3) := by decide +kernel
theorem d_TuneSetter_clear_10 : decode b_TuneSetter_clear 10 = .ok (.iload_n 1, 1) := by decide +kernel
theorem d_TuneSetter_clear_11 : decode b_TuneSetter_clear 11 = .ok (.ireturn, 1) := by decide +kernel
def w_TuneSetter_clear : List Cond := .code y_TuneSetter_clear b_TuneSetter_clear 2 (some .int) :: WALL
theorem g_TuneSetter_clear : GoodIn WALL w_TuneSetter_clear := good_of mc_TuneSetter_clear
set_option maxHeartbeats 4000000 in
set_option maxRecDepth 100000 in
theorem c_TuneSetter_clear (l : Launch) (D : va_G) (cA a : Nat → Nat) (sz : Nat) (I : Nat → Int32) (A : Nat → Nat → Int32) (post : Int32 → (Nat → Int32) → (Nat → Nat → Int32) → Prop) (h : wp_TuneSetter_clear I A post) : Met l y_TuneSetter_clear w_TuneSetter_clear ({ frames := 0, cells := 0, slots := 0, locals := 0 }) (va_Pc [.ref (a 0)] (PreC D cA a I A sz)) (va_Qi (fun r (u : StW) => post r u.1 u.2) (EndC D cA a) (AC a sz)) 0 0 (AC a sz) := by
  refine Met.ofW (cc := b_TuneSetter_clear) (maxL := 2) (ret := (some .int)) (by decide) rfl ?_
  intro p e s m args below meth c s₁ B hml hv
  obtain ⟨rfl, hsz, hP, hK, hD0⟩ := hv
  have hx := B.exec
  have hb := B.bytes
  have hr := B.returns
  have hts := atoms_spec (ws := w_TuneSetter_clear) B.pre
  have hw := wall_of hts
  have hown : s.vm.findClass R_TuneSetter = some m.cls := findClass_of_methodNamed B.named
  have hlocks := B.notSynchronized
  subst hsz
  have hD := hDC (sz := s.heap.size) hD0
  have hA : ∀ q : Nat, s.heap.size ≤ q → AC a s.heap.size q := fun q h => Or.inr h
  have hS : va_S (AC a s.heap.size) s.heap s.heap [] := va_S.rf
  have hl := lv_entry ([.ref (a 0)]) (n := 2) (Nat.le_of_ble_eq_true rfl)
  rw [lg_entry_eq]
  generalize (lg_sl ([.ref (a 0)]) ++ List.replicate (2 - (lg_sl ([.ref (a 0)])).length) Slot.unset).toArray = ls at hl ⊢
  have hl : lv_has ls 2 [(0, .ref (a 0))] := hl
  unfold wp_TuneSetter_clear at h
  refine lv_aload_n hx hb d_TuneSetter_clear_0 rfl (lv_at hl 0 rfl) ?_
  refine gC_TuneSetter_textSize hx hb hw hown hK hP (hw _ m_TuneSetter_54) d_TuneSetter_clear_1 ?_
  refine lv_topi (fun v4 ev4 => ?_)
  have h := h v4 ev4
  refine lv_istore_n (lv' := [(1, .int v4), (0, .ref (a 0))]) hx hb d_TuneSetter_clear_4 rfl hl (by decide) rfl (fun ls hl => ?_)
  refine lv_aload_n hx hb d_TuneSetter_clear_5 rfl (lv_at hl 1 rfl) ?_
  refine lv_iconst (v := 0) hx hb d_TuneSetter_clear_6 ic_0 ?_
  refine pC_TuneSetter_textSize hx hb hw hown hK hD hS hP (hw _ m_TuneSetter_54) d_TuneSetter_clear_7 (fun H locs hP hS => ?_)
  refine lv_iload_n hx hb d_TuneSetter_clear_10 rfl (lv_at hl 0 rfl) ?_
  exact W.iret hx hb hr (fun t ht hW => ⟨⟨_, ((upd I 30 0), A), rfl, h, endC_of ht hP⟩, hS.F ht⟩) hS.2.2 d_TuneSetter_clear_11
theorem k_TuneSetter_clear {p : Program} {l : Launch} {e : Env} {R : Room} {s : State} {m : MethodId} {args : Array Value} {below : List Frame} {meth : Method} {c : Code} {H : Heap} {locs : List Loc} {cells slots : Nat} {Q : State → Prop} {cc : ByteArray} {pc nL idx : Nat} {own : String} {ls : Array Slot} {D : va_G} {cA a : Nat → Nat} {AA : Nat → Prop} {I : Nat → Int32} {A : Nat → Nat → Int32} {post : Int32 → (Nat → Int32) → (Nat → Nat → Int32) → Prop} {rest : List Value} (S : CallFix p m c cc nL s args WALL own) (hK : KC D cA a AA s) (hD : ∀ I A, va_D AA (wC cA a I A)) (hA : ∀ q : Nat, s.heap.size ≤ q → AA q) (hS : va_S AA s.heap H locs) (hP : va_P D cls (wC cA a I A) H) (hl1 : ls.size = nL) (hlink : (Cond.methodLink own idx y_TuneSetter_clear).before args s = true) (hst : (rest.map fun v => v.category).sum ≤ 8) (hR : ({ frames := 0, cells := 0, slots := 0, locals := 0 } : Room).frames + 1 ≤ R.frames ∧ 8 + (2 + 11) + ({ frames := 0, cells := 0, slots := 0, locals := 0 } : Room).locals ≤ R.locals) (hcs : cells ≤ R.cells ∧ slots ≤ R.slots) (hdg : decode cc pc = .ok (.invokevirtual idx, 3)) (h : wp_TuneSetter_clear I A post) (kk : ∀ (r : Int32) (I1 : Nat → Int32) (A1 : Nat → Nat → Int32) (H1 : Heap) (locs1 : List Loc), post r I1 A1 → va_P D cls (wC cA a I1 A1) H1 → va_S AA s.heap H1 locs1 → W p l e R s m args below meth c H1 locs1 cells slots Q (F0 m (pc + 3) ls (.int r :: rest))) : W p l e R s m args below meth c H locs cells slots Q (F0 m pc ls (.ref (a 0) :: rest)) :=
  va_calli (va_runV (As := []) (rest := rest) S (c_TuneSetter_clear l D cA a H.size I A post h) ⟨callB_of 0 S.2.2.2.2 g_TuneSetter_clear rfl rfl rfl (S.2.2.2.2 _ mi_TuneSetter) hlink ⟨by decide, by decide, by decide +kernel⟩ hR, S.2.2.2.2 _ mn_TuneSetter_clear, S.2.2.2.2 _ ms_TuneSetter_clear⟩ (preCV hK hD hA hS hP 0 rfl rfl) rfl rfl hl1 rfl (lv_room hst) hdg hcs) hS (fun q _ z => AC_le hD hA hS q z) (fun q z => AC_le hD hA hS q z) (fun r u t H1 locs1 ht _ hp hB _ _ hS1 => kk r u.1 u.2 H1 locs1 hp (of_endC ht hB) hS1)
def wp_PitchFinder_startTune (x1 : Int32) (I : Nat → Int32) (A : Nat → Nat → Int32) (post : (Nat → Int32) → (Nat → Nat → Int32) → Prop) : Prop := post (upd (upd I 5 x1) 6 99) A
theorem d_PitchFinder_startTune_0 : decode b_PitchFinder_startTune 0 = .ok (.aload_n 0, 1) := by decide +kernel
theorem d_PitchFinder_startTune_1 : decode b_PitchFinder_startTune 1 = .ok (.iload_n 1, 1) := by decide +kernel
theorem d_PitchFinder_startTune_2 : decode b_PitchFinder_startTune 2 = .ok (.putfield 17, 3) := by decide +kernel
theorem d_PitchFinder_startTune_5 : decode b_PitchFinder_startTune 5 = .ok (.aload_n 0, 1) := by decide +kernel
theorem d_PitchFinder_startTune_6 : decode b_PitchFinder_startTune 6 = .ok (.bipush 99, 2) := by decide +kernel
theorem d_PitchFinder_startTune_8 : decode b_PitchFinder_startTune 8 = .ok (.putfield 13, 3) := by decide +kernel
theorem d_PitchFinder_startTune_11 : decode b_PitchFinder_startTune 11 = .ok (.return_, 1) := by decide +kernel
def w_PitchFinder_startTune : List Cond := .code y_PitchFinder_startTune b_PitchFinder_startTune 2 none :: WALL
theorem g_PitchFinder_startTune : GoodIn WALL w_PitchFinder_startTune := good_of mc_PitchFinder_startTune
set_option maxHeartbeats 4000000 in
set_option maxRecDepth 100000 in
theorem c_PitchFinder_startTune (l : Launch) (D : va_G) (cA a : Nat → Nat) (sz : Nat) (x1 : Int32) (I : Nat → Int32) (A : Nat → Nat → Int32) (post : (Nat → Int32) → (Nat → Nat → Int32) → Prop) (h : wp_PitchFinder_startTune x1 I A post) : Met l y_PitchFinder_startTune w_PitchFinder_startTune ({ frames := 0, cells := 0, slots := 0, locals := 0 }) (va_Pc [.ref (a 13), .int x1] (PreC D cA a I A sz)) (va_Qv (fun (u : StW) => post u.1 u.2) (EndC D cA a) (AC a sz)) 0 0 (AC a sz) := by
  refine Met.ofW (cc := b_PitchFinder_startTune) (maxL := 2) (ret := none) (by decide) rfl ?_
  intro p e s m args below meth c s₁ B hml hv
  obtain ⟨rfl, hsz, hP, hK, hD0⟩ := hv
  have hx := B.exec
  have hb := B.bytes
  have hr := B.returns
  have hts := atoms_spec (ws := w_PitchFinder_startTune) B.pre
  have hw := wall_of hts
  have hown : s.vm.findClass R_PitchFinder = some m.cls := findClass_of_methodNamed B.named
  have hlocks := B.notSynchronized
  subst hsz
  have hD := hDC (sz := s.heap.size) hD0
  have hA : ∀ q : Nat, s.heap.size ≤ q → AC a s.heap.size q := fun q h => Or.inr h
  have hS : va_S (AC a s.heap.size) s.heap s.heap [] := va_S.rf
  have hl := lv_entry ([.ref (a 13), .int x1]) (n := 2) (Nat.le_of_ble_eq_true rfl)
  rw [lg_entry_eq]
  generalize (lg_sl ([.ref (a 13), .int x1]) ++ List.replicate (2 - (lg_sl ([.ref (a 13), .int x1])).length) Slot.unset).toArray = ls at hl ⊢
  have hl : lv_has ls 2 [(0, .ref (a 13)), (1, .int x1)] := hl
  unfold wp_PitchFinder_startTune at h
  refine lv_aload_n hx hb d_PitchFinder_startTune_0 rfl (lv_at hl 0 rfl) ?_
  refine lv_iload_n hx hb d_PitchFinder_startTune_1 rfl (lv_at hl 1 rfl) ?_
  refine pC_PitchFinder_sharps hx hb hw hown hK hD hS hP (hw _ m_PitchFinder_17) d_PitchFinder_startTune_2 (fun H locs hP hS => ?_)
  refine lv_aload_n hx hb d_PitchFinder_startTune_5 rfl (lv_at hl 0 rfl) ?_
  refine lv_bipush (v := 99) hx hb d_PitchFinder_startTune_6 bp_99 ?_
  refine pC_PitchFinder_sign hx hb hw hown hK hD hS hP (hw _ m_PitchFinder_13) d_PitchFinder_startTune_8 (fun H locs hP hS => ?_)
  exact W.vret hx hb hr (fun t ht hW => ⟨⟨((upd (upd I 5 x1) 6 99), A), rfl, h, endC_of ht hP⟩, hS.F ht⟩) hS.2.2 d_PitchFinder_startTune_11
theorem k_PitchFinder_startTune {p : Program} {l : Launch} {e : Env} {R : Room} {s : State} {m : MethodId} {args : Array Value} {below : List Frame} {meth : Method} {c : Code} {H : Heap} {locs : List Loc} {cells slots : Nat} {Q : State → Prop} {cc : ByteArray} {pc nL idx : Nat} {own : String} {ls : Array Slot} {D : va_G} {cA a : Nat → Nat} {AA : Nat → Prop} {I : Nat → Int32} {A : Nat → Nat → Int32} {post : (Nat → Int32) → (Nat → Nat → Int32) → Prop} (x1 : Int32) {rest : List Value} (S : CallFix p m c cc nL s args WALL own) (hK : KC D cA a AA s) (hD : ∀ I A, va_D AA (wC cA a I A)) (hA : ∀ q : Nat, s.heap.size ≤ q → AA q) (hS : va_S AA s.heap H locs) (hP : va_P D cls (wC cA a I A) H) (hl1 : ls.size = nL) (hlink : (Cond.methodLink own idx y_PitchFinder_startTune).before args s = true) (hst : (rest.map fun v => v.category).sum ≤ 8) (hR : ({ frames := 0, cells := 0, slots := 0, locals := 0 } : Room).frames + 1 ≤ R.frames ∧ 8 + (2 + 11) + ({ frames := 0, cells := 0, slots := 0, locals := 0 } : Room).locals ≤ R.locals) (hcs : cells ≤ R.cells ∧ slots ≤ R.slots) (hdg : decode cc pc = .ok (.invokevirtual idx, 3)) (h : wp_PitchFinder_startTune x1 I A post) (kk : ∀ (I1 : Nat → Int32) (A1 : Nat → Nat → Int32) (H1 : Heap) (locs1 : List Loc), post I1 A1 → va_P D cls (wC cA a I1 A1) H1 → va_S AA s.heap H1 locs1 → W p l e R s m args below meth c H1 locs1 cells slots Q (F0 m (pc + 3) ls rest)) : W p l e R s m args below meth c H locs cells slots Q (F0 m pc ls (.int x1 :: .ref (a 13) :: rest)) :=
  va_callv (va_runV (As := [.int x1]) (rest := rest) S (c_PitchFinder_startTune l D cA a H.size x1 I A post h) ⟨callB_of 1 S.2.2.2.2 g_PitchFinder_startTune rfl rfl rfl (S.2.2.2.2 _ mi_PitchFinder) hlink ⟨by decide, by decide, by decide +kernel⟩ hR, S.2.2.2.2 _ mn_PitchFinder_startTune, S.2.2.2.2 _ ms_PitchFinder_startTune⟩ (preCV hK hD hA hS hP 13 rfl rfl) rfl rfl hl1 rfl (lv_room hst) hdg hcs) hS (fun q _ z => AC_le hD hA hS q z) (fun q z => AC_le hD hA hS q z) (fun u t H1 locs1 ht _ hp hB _ _ hS1 => kk u.1 u.2 H1 locs1 hp (of_endC ht hB) hS1)
def wp_ItemLength_restart (I : Nat → Int32) (A : Nat → Nat → Int32) (post : (Nat → Int32) → (Nat → Nat → Int32) → Prop) : Prop := post (upd (upd (upd I 9 1) 10 1) 11 0) A
theorem d_ItemLength_restart_0 : decode b_ItemLength_restart 0 = .ok (.aload_n 0, 1) := by decide +kernel
theorem d_ItemLength_restart_1 : decode b_ItemLength_restart 1 = .ok (.iconst 1, 1) := by decide +kernel
theorem d_ItemLength_restart_2 : decode b_ItemLength_restart 2 = .ok (.putfield 7, 3) := by decide +kernel
theorem d_ItemLength_restart_5 : decode b_ItemLength_restart 5 = .ok (.aload_n 0, 1) := by decide +kernel
theorem d_ItemLength_restart_6 : decode b_ItemLength_restart 6 = .ok (.iconst 1, 1) := by decide +kernel
theorem d_ItemLength_restart_7 : decode b_ItemLength_restart 7 = .ok (.putfield 13, 3) := by decide +kernel
theorem d_ItemLength_restart_10 : decode b_ItemLength_restart 10 = .ok (.aload_n 0, 1) := by decide +kernel
theorem d_ItemLength_restart_11 : decode b_ItemLength_restart 11 = .ok (.iconst 0, 1) := by decide +kernel
theorem d_ItemLength_restart_12 : decode b_ItemLength_restart 12 = .ok (.putfield 16, 3) := by decide +kernel
theorem d_ItemLength_restart_15 : decode b_ItemLength_restart 15 = .ok (.return_, 1) := by decide +kernel
def w_ItemLength_restart : List Cond := .code y_ItemLength_restart b_ItemLength_restart 1 none :: WALL
theorem g_ItemLength_restart : GoodIn WALL w_ItemLength_restart := good_of mc_ItemLength_restart
set_option maxHeartbeats 4000000 in
set_option maxRecDepth 100000 in
theorem c_ItemLength_restart (l : Launch) (D : va_G) (cA a : Nat → Nat) (sz : Nat) (I : Nat → Int32) (A : Nat → Nat → Int32) (post : (Nat → Int32) → (Nat → Nat → Int32) → Prop) (h : wp_ItemLength_restart I A post) : Met l y_ItemLength_restart w_ItemLength_restart ({ frames := 0, cells := 0, slots := 0, locals := 0 }) (va_Pc [.ref (a 15)] (PreC D cA a I A sz)) (va_Qv (fun (u : StW) => post u.1 u.2) (EndC D cA a) (AC a sz)) 0 0 (AC a sz) := by
  refine Met.ofW (cc := b_ItemLength_restart) (maxL := 1) (ret := none) (by decide) rfl ?_
  intro p e s m args below meth c s₁ B hml hv
  obtain ⟨rfl, hsz, hP, hK, hD0⟩ := hv
  have hx := B.exec
  have hb := B.bytes
  have hr := B.returns
  have hts := atoms_spec (ws := w_ItemLength_restart) B.pre
  have hw := wall_of hts
  have hown : s.vm.findClass R_ItemLength = some m.cls := findClass_of_methodNamed B.named
  have hlocks := B.notSynchronized
  subst hsz
  have hD := hDC (sz := s.heap.size) hD0
  have hA : ∀ q : Nat, s.heap.size ≤ q → AC a s.heap.size q := fun q h => Or.inr h
  have hS : va_S (AC a s.heap.size) s.heap s.heap [] := va_S.rf
  have hl := lv_entry ([.ref (a 15)]) (n := 1) (Nat.le_of_ble_eq_true rfl)
  rw [lg_entry_eq]
  generalize (lg_sl ([.ref (a 15)]) ++ List.replicate (1 - (lg_sl ([.ref (a 15)])).length) Slot.unset).toArray = ls at hl ⊢
  have hl : lv_has ls 1 [(0, .ref (a 15))] := hl
  unfold wp_ItemLength_restart at h
  refine lv_aload_n hx hb d_ItemLength_restart_0 rfl (lv_at hl 0 rfl) ?_
  refine lv_iconst (v := 1) hx hb d_ItemLength_restart_1 ic_1 ?_
  refine pC_ItemLength_top hx hb hw hown hK hD hS hP (hw _ m_ItemLength_7) d_ItemLength_restart_2 (fun H locs hP hS => ?_)
  refine lv_aload_n hx hb d_ItemLength_restart_5 rfl (lv_at hl 0 rfl) ?_
  refine lv_iconst (v := 1) hx hb d_ItemLength_restart_6 ic_1 ?_
  refine pC_ItemLength_bottom hx hb hw hown hK hD hS hP (hw _ m_ItemLength_13) d_ItemLength_restart_7 (fun H locs hP hS => ?_)
  refine lv_aload_n hx hb d_ItemLength_restart_10 rfl (lv_at hl 0 rfl) ?_
  refine lv_iconst (v := 0) hx hb d_ItemLength_restart_11 ic_0 ?_
  refine pC_ItemLength_digits hx hb hw hown hK hD hS hP (hw _ m_ItemLength_16) d_ItemLength_restart_12 (fun H locs hP hS => ?_)
  exact W.vret hx hb hr (fun t ht hW => ⟨⟨((upd (upd (upd I 9 1) 10 1) 11 0), A), rfl, h, endC_of ht hP⟩, hS.F ht⟩) hS.2.2 d_ItemLength_restart_15
theorem k_ItemLength_restart {p : Program} {l : Launch} {e : Env} {R : Room} {s : State} {m : MethodId} {args : Array Value} {below : List Frame} {meth : Method} {c : Code} {H : Heap} {locs : List Loc} {cells slots : Nat} {Q : State → Prop} {cc : ByteArray} {pc nL idx : Nat} {own : String} {ls : Array Slot} {D : va_G} {cA a : Nat → Nat} {AA : Nat → Prop} {I : Nat → Int32} {A : Nat → Nat → Int32} {post : (Nat → Int32) → (Nat → Nat → Int32) → Prop} {rest : List Value} (S : CallFix p m c cc nL s args WALL own) (hK : KC D cA a AA s) (hD : ∀ I A, va_D AA (wC cA a I A)) (hA : ∀ q : Nat, s.heap.size ≤ q → AA q) (hS : va_S AA s.heap H locs) (hP : va_P D cls (wC cA a I A) H) (hl1 : ls.size = nL) (hlink : (Cond.methodLink own idx y_ItemLength_restart).before args s = true) (hst : (rest.map fun v => v.category).sum ≤ 8) (hR : ({ frames := 0, cells := 0, slots := 0, locals := 0 } : Room).frames + 1 ≤ R.frames ∧ 8 + (1 + 11) + ({ frames := 0, cells := 0, slots := 0, locals := 0 } : Room).locals ≤ R.locals) (hcs : cells ≤ R.cells ∧ slots ≤ R.slots) (hdg : decode cc pc = .ok (.invokevirtual idx, 3)) (h : wp_ItemLength_restart I A post) (kk : ∀ (I1 : Nat → Int32) (A1 : Nat → Nat → Int32) (H1 : Heap) (locs1 : List Loc), post I1 A1 → va_P D cls (wC cA a I1 A1) H1 → va_S AA s.heap H1 locs1 → W p l e R s m args below meth c H1 locs1 cells slots Q (F0 m (pc + 3) ls rest)) : W p l e R s m args below meth c H locs cells slots Q (F0 m pc ls (.ref (a 15) :: rest)) :=
  va_callv (va_runV (As := []) (rest := rest) S (c_ItemLength_restart l D cA a H.size I A post h) ⟨callB_of 0 S.2.2.2.2 g_ItemLength_restart rfl rfl rfl (S.2.2.2.2 _ mi_ItemLength) hlink ⟨by decide, by decide, by decide +kernel⟩ hR, S.2.2.2.2 _ mn_ItemLength_restart, S.2.2.2.2 _ ms_ItemLength_restart⟩ (preCV hK hD hA hS hP 15 rfl rfl) rfl rfl hl1 rfl (lv_room hst) hdg hcs) hS (fun q _ z => AC_le hD hA hS q z) (fun q z => AC_le hD hA hS q z) (fun u t H1 locs1 ht _ hp hB _ _ hS1 => kk u.1 u.2 H1 locs1 hp (of_endC ht hB) hS1)
def wp_Tune_empty (I : Nat → Int32) (A : Nat → Nat → Int32) (post : (Nat → Int32) → (Nat → Nat → Int32) → Prop) : Prop := (vp_in 0 9 ∧ (vp_in 0 9 ∧ (vp_in 0 49 ∧ post (upd (upd (upd I 0 0) 1 0) 2 0) (upd2 (upd2 (upd2 A 4 ((0 : Int32).toNatClampNeg) 0) 8 ((0 : Int32).toNatClampNeg) 0) 9 ((0 : Int32).toNatClampNeg) 0))))
theorem d_Tune_empty_0 : decode b_Tune_empty 0 = .ok (.aload_n 0, 1) := by decide +kernel
theorem d_Tune_empty_1 : decode b_Tune_empty 1 = .ok (.iconst 0, 1) := by decide +kernel
theorem d_Tune_empty_2 : decode b_Tune_empty 2 = .ok (.putfield 40, 3) := by decide +kernel
theorem d_Tune_empty_5 : decode b_Tune_empty 5 = .ok (.aload_n 0, 1) := by decide +kernel
theorem d_Tune_empty_6 : decode b_Tune_empty 6 = .ok (.iconst 0, 1) := by decide +kernel
theorem d_Tune_empty_7 : decode b_Tune_empty 7 = .ok (.putfield 44, 3) := by decide +kernel
theorem d_Tune_empty_10 : decode b_Tune_empty 10 = .ok (.aload_n 0, 1) := by decide +kernel
theorem d_Tune_empty_11 : decode b_Tune_empty 11 = .ok (.iconst 0, 1) := by decide +kernel
theorem d_Tune_empty_12 : decode b_Tune_empty 12 = .ok (.putfield 47, 3) := by decide +kernel
theorem d_Tune_empty_15 : decode b_Tune_empty 15 = .ok (.aload_n 0, 1) := by decide +kernel
theorem d_Tune_empty_16 : decode b_Tune_empty 16 = .ok (.getfield 9, 3) := by decide +kernel
theorem d_Tune_empty_19 : decode b_Tune_empty 19 = .ok (.iconst 0, 1) := by decide +kernel
theorem d_Tune_empty_20 : decode b_Tune_empty 20 = .ok (.iconst 0, 1) := by decide +kernel
theorem d_Tune_empty_21 : decode b_Tune_empty 21 = .ok (.iastore, 1) := by decide +kernel
theorem d_Tune_empty_22 : decode b_Tune_empty 22 = .ok (.aload_n 0, 1) := by decide +kernel
theorem d_Tune_empty_23 : decode b_Tune_empty 23 = .ok (.getfield 24, 3) := by decide +kernel
theorem d_Tune_empty_26 : decode b_Tune_empty 26 = .ok (.iconst 0, 1) := by decide +kernel
theorem d_Tune_empty_27 : decode b_Tune_empty 27 = .ok (.iconst 0, 1) := by decide +kernel
theorem d_Tune_empty_28 : decode b_Tune_empty 28 = .ok (.iastore, 1) := by decide +kernel
theorem d_Tune_empty_29 : decode b_Tune_empty 29 = .ok (.aload_n 0, 1) := by decide +kernel
theorem d_Tune_empty_30 : decode b_Tune_empty 30 = .ok (.getfield 27, 3) := by decide +kernel
theorem d_Tune_empty_33 : decode b_Tune_empty 33 = .ok (.iconst 0, 1) := by decide +kernel
theorem d_Tune_empty_34 : decode b_Tune_empty 34 = .ok (.iconst 0, 1) := by decide +kernel
theorem d_Tune_empty_35 : decode b_Tune_empty 35 = .ok (.iastore, 1) := by decide +kernel
theorem d_Tune_empty_36 : decode b_Tune_empty 36 = .ok (.return_, 1) := by decide +kernel
def w_Tune_empty : List Cond := .code y_Tune_empty b_Tune_empty 1 none :: WALL
theorem g_Tune_empty : GoodIn WALL w_Tune_empty := good_of mc_Tune_empty
set_option maxHeartbeats 4000000 in
set_option maxRecDepth 100000 in
theorem c_Tune_empty (l : Launch) (D : va_G) (cA a : Nat → Nat) (sz : Nat) (I : Nat → Int32) (A : Nat → Nat → Int32) (post : (Nat → Int32) → (Nat → Nat → Int32) → Prop) (h : wp_Tune_empty I A post) : Met l y_Tune_empty w_Tune_empty ({ frames := 0, cells := 0, slots := 0, locals := 0 }) (va_Pc [.ref (a 3)] (PreC D cA a I A sz)) (va_Qv (fun (u : StW) => post u.1 u.2) (EndC D cA a) (AC a sz)) 0 0 (AC a sz) := by
  refine Met.ofW (cc := b_Tune_empty) (maxL := 1) (ret := none) (by decide) rfl ?_
  intro p e s m args below meth c s₁ B hml hv
  obtain ⟨rfl, hsz, hP, hK, hD0⟩ := hv
  have hx := B.exec
  have hb := B.bytes
  have hr := B.returns
  have hts := atoms_spec (ws := w_Tune_empty) B.pre
  have hw := wall_of hts
  have hown : s.vm.findClass R_Tune = some m.cls := findClass_of_methodNamed B.named
  have hlocks := B.notSynchronized
  subst hsz
  have hD := hDC (sz := s.heap.size) hD0
  have hA : ∀ q : Nat, s.heap.size ≤ q → AC a s.heap.size q := fun q h => Or.inr h
  have hS : va_S (AC a s.heap.size) s.heap s.heap [] := va_S.rf
  have hl := lv_entry ([.ref (a 3)]) (n := 1) (Nat.le_of_ble_eq_true rfl)
  rw [lg_entry_eq]
  generalize (lg_sl ([.ref (a 3)]) ++ List.replicate (1 - (lg_sl ([.ref (a 3)])).length) Slot.unset).toArray = ls at hl ⊢
  have hl : lv_has ls 1 [(0, .ref (a 3))] := hl
  unfold wp_Tune_empty at h
  refine lv_aload_n hx hb d_Tune_empty_0 rfl (lv_at hl 0 rfl) ?_
  refine lv_iconst (v := 0) hx hb d_Tune_empty_1 ic_0 ?_
  refine pC_Tune_barCount hx hb hw hown hK hD hS hP (hw _ m_Tune_40) d_Tune_empty_2 (fun H locs hP hS => ?_)
  refine lv_aload_n hx hb d_Tune_empty_5 rfl (lv_at hl 0 rfl) ?_
  refine lv_iconst (v := 0) hx hb d_Tune_empty_6 ic_0 ?_
  refine pC_Tune_itemCount hx hb hw hown hK hD hS hP (hw _ m_Tune_44) d_Tune_empty_7 (fun H locs hP hS => ?_)
  refine lv_aload_n hx hb d_Tune_empty_10 rfl (lv_at hl 0 rfl) ?_
  refine lv_iconst (v := 0) hx hb d_Tune_empty_11 ic_0 ?_
  refine pC_Tune_noteCount hx hb hw hown hK hD hS hP (hw _ m_Tune_47) d_Tune_empty_12 (fun H locs hP hS => ?_)
  refine lv_aload_n hx hb d_Tune_empty_15 rfl (lv_at hl 0 rfl) ?_
  refine gC_Tune_line hx hb hw hown hK hP (hw _ m_Tune_9) d_Tune_empty_16 ?_
  refine lv_iconst (v := 0) hx hb d_Tune_empty_19 ic_0 ?_
  refine lv_iconst (v := 0) hx hb d_Tune_empty_20 ic_0 ?_
  obtain ⟨hin, h⟩ := h
  refine sC4 hx hb hK hD hS hP hin d_Tune_empty_21 (fun H locs hP hS => ?_)
  refine lv_aload_n hx hb d_Tune_empty_22 rfl (lv_at hl 0 rfl) ?_
  refine gC_Tune_firstItem hx hb hw hown hK hP (hw _ m_Tune_24) d_Tune_empty_23 ?_
  refine lv_iconst (v := 0) hx hb d_Tune_empty_26 ic_0 ?_
  refine lv_iconst (v := 0) hx hb d_Tune_empty_27 ic_0 ?_
  obtain ⟨hin, h⟩ := h
  refine sC8 hx hb hK hD hS hP hin d_Tune_empty_28 (fun H locs hP hS => ?_)
  refine lv_aload_n hx hb d_Tune_empty_29 rfl (lv_at hl 0 rfl) ?_
  refine gC_Tune_firstNote hx hb hw hown hK hP (hw _ m_Tune_27) d_Tune_empty_30 ?_
  refine lv_iconst (v := 0) hx hb d_Tune_empty_33 ic_0 ?_
  refine lv_iconst (v := 0) hx hb d_Tune_empty_34 ic_0 ?_
  obtain ⟨hin, h⟩ := h
  refine sC9 hx hb hK hD hS hP hin d_Tune_empty_35 (fun H locs hP hS => ?_)
  exact W.vret hx hb hr (fun t ht hW => ⟨⟨((upd (upd (upd I 0 0) 1 0) 2 0), (upd2 (upd2 (upd2 A 4 ((0 : Int32).toNatClampNeg) 0) 8 ((0 : Int32).toNatClampNeg) 0) 9 ((0 : Int32).toNatClampNeg) 0)), rfl, h, endC_of ht hP⟩, hS.F ht⟩) hS.2.2 d_Tune_empty_36
theorem k_Tune_empty {p : Program} {l : Launch} {e : Env} {R : Room} {s : State} {m : MethodId} {args : Array Value} {below : List Frame} {meth : Method} {c : Code} {H : Heap} {locs : List Loc} {cells slots : Nat} {Q : State → Prop} {cc : ByteArray} {pc nL idx : Nat} {own : String} {ls : Array Slot} {D : va_G} {cA a : Nat → Nat} {AA : Nat → Prop} {I : Nat → Int32} {A : Nat → Nat → Int32} {post : (Nat → Int32) → (Nat → Nat → Int32) → Prop} {rest : List Value} (S : CallFix p m c cc nL s args WALL own) (hK : KC D cA a AA s) (hD : ∀ I A, va_D AA (wC cA a I A)) (hA : ∀ q : Nat, s.heap.size ≤ q → AA q) (hS : va_S AA s.heap H locs) (hP : va_P D cls (wC cA a I A) H) (hl1 : ls.size = nL) (hlink : (Cond.methodLink own idx y_Tune_empty).before args s = true) (hst : (rest.map fun v => v.category).sum ≤ 8) (hR : ({ frames := 0, cells := 0, slots := 0, locals := 0 } : Room).frames + 1 ≤ R.frames ∧ 8 + (1 + 11) + ({ frames := 0, cells := 0, slots := 0, locals := 0 } : Room).locals ≤ R.locals) (hcs : cells ≤ R.cells ∧ slots ≤ R.slots) (hdg : decode cc pc = .ok (.invokevirtual idx, 3)) (h : wp_Tune_empty I A post) (kk : ∀ (I1 : Nat → Int32) (A1 : Nat → Nat → Int32) (H1 : Heap) (locs1 : List Loc), post I1 A1 → va_P D cls (wC cA a I1 A1) H1 → va_S AA s.heap H1 locs1 → W p l e R s m args below meth c H1 locs1 cells slots Q (F0 m (pc + 3) ls rest)) : W p l e R s m args below meth c H locs cells slots Q (F0 m pc ls (.ref (a 3) :: rest)) :=
  va_callv (va_runV (As := []) (rest := rest) S (c_Tune_empty l D cA a H.size I A post h) ⟨callB_of 0 S.2.2.2.2 g_Tune_empty rfl rfl rfl (S.2.2.2.2 _ mi_Tune) hlink ⟨by decide, by decide, by decide +kernel⟩ hR, S.2.2.2.2 _ mn_Tune_empty, S.2.2.2.2 _ ms_Tune_empty⟩ (preCV hK hD hA hS hP 3 rfl rfl) rfl rfl hl1 rfl (lv_room hst) hdg hcs) hS (fun q _ z => AC_le hD hA hS q z) (fun q z => AC_le hD hA hS q z) (fun u t H1 locs1 ht _ hp hB _ _ hS1 => kk u.1 u.2 H1 locs1 hp (of_endC ht hB) hS1)
def wp_Reader_prepare (x1 : Int32) (x2 : Int32) (x3 : Int32) (I : Nat → Int32) (A : Nat → Nat → Int32) (post : (Nat → Int32) → (Nat → Nat → Int32) → Prop) : Prop := (wp_PitchFinder_startTune x3 (upd (upd I 12 x1) 13 x2) A (fun I15 A15 => (wp_ItemLength_restart I15 A15 (fun I22 A22 => (wp_Tune_empty I22 A22 (fun I29 A29 => post (upd (upd (upd (upd (upd (upd (upd (upd (upd (upd I29 3 0) 4 0) 14 0) 16 0) 17 0) 18 0) 19 0) 20 0) 21 0) 22 0) A29))))))
theorem d_Reader_prepare_0 : decode b_Reader_prepare 0 = .ok (.aload_n 0, 1) := by decide +kernel
theorem d_Reader_prepare_1 : decode b_Reader_prepare 1 = .ok (.iload_n 1, 1) := by decide +kernel
theorem d_Reader_prepare_2 : decode b_Reader_prepare 2 = .ok (.putfield 32, 3) := by decide +kernel
theorem d_Reader_prepare_5 : decode b_Reader_prepare 5 = .ok (.aload_n 0, 1) := by decide +kernel
theorem d_Reader_prepare_6 : decode b_Reader_prepare 6 = .ok (.iload_n 2, 1) := by decide +kernel
theorem d_Reader_prepare_7 : decode b_Reader_prepare 7 = .ok (.putfield 36, 3) := by decide +kernel
theorem d_Reader_prepare_10 : decode b_Reader_prepare 10 = .ok (.aload_n 0, 1) := by decide +kernel
theorem d_Reader_prepare_11 : decode b_Reader_prepare 11 = .ok (.getfield 21, 3) := by decide +kernel
theorem d_Reader_prepare_14 : decode b_Reader_prepare 14 = .ok (.iload_n 3, 1) := by decide +kernel
theorem d_Reader_prepare_15 : decode b_Reader_prepare 15 = .ok (.invokevirtual 39, 3) := by decide +kernel
theorem d_Reader_prepare_18 : decode b_Reader_prepare 18 = .ok (.aload_n 0, 1) := by decide +kernel
theorem d_Reader_prepare_19 : decode b_Reader_prepare 19 = .ok (.getfield 28, 3) := by decide +kernel
theorem d_Reader_prepare_22 : decode b_Reader_prepare 22 = .ok (.invokevirtual 43, 3) := by decide +kernel
theorem d_Reader_prepare_25 : decode b_Reader_prepare 25 = .ok (.aload_n 0, 1) := by decide +kernel
theorem d_Reader_prepare_26 : decode b_Reader_prepare 26 = .ok (.getfield 14, 3) := by decide +kernel
theorem d_Reader_prepare_29 : decode b_Reader_prepare 29 = .ok (.invokevirtual 46, 3) := by decide +kernel
theorem d_Reader_prepare_32 : decode b_Reader_prepare 32 = .ok (.aload_n 0, 1) := by decide +kernel
theorem d_Reader_prepare_33 : decode b_Reader_prepare 33 = .ok (.iconst 0, 1) := by decide +kernel
theorem d_Reader_prepare_34 : decode b_Reader_prepare 34 = .ok (.putfield 49, 3) := by decide +kernel
theorem d_Reader_prepare_37 : decode b_Reader_prepare 37 = .ok (.aload_n 0, 1) := by decide +kernel
theorem d_Reader_prepare_38 : decode b_Reader_prepare 38 = .ok (.iconst 0, 1) := by decide +kernel
theorem d_Reader_prepare_39 : decode b_Reader_prepare 39 = .ok (.putfield 52, 3) := by decide +kernel
theorem d_Reader_prepare_42 : decode b_Reader_prepare 42 = .ok (.aload_n 0, 1) := by decide +kernel
theorem d_Reader_prepare_43 : decode b_Reader_prepare 43 = .ok (.iconst 0, 1) := by decide +kernel
theorem d_Reader_prepare_44 : decode b_Reader_prepare 44 = .ok (.putfield 55, 3) := by decide +kernel
theorem d_Reader_prepare_47 : decode b_Reader_prepare 47 = .ok (.aload_n 0, 1) := by decide +kernel
theorem d_Reader_prepare_48 : decode b_Reader_prepare 48 = .ok (.iconst 0, 1) := by decide +kernel
theorem d_Reader_prepare_49 : decode b_Reader_prepare 49 = .ok (.putfield 58, 3) := by decide +kernel
theorem d_Reader_prepare_52 : decode b_Reader_prepare 52 = .ok (.aload_n 0, 1) := by decide +kernel
theorem d_Reader_prepare_53 : decode b_Reader_prepare 53 = .ok (.iconst 0, 1) := by decide +kernel
theorem d_Reader_prepare_54 : decode b_Reader_prepare 54 = .ok (.putfield 61, 3) := by decide +kernel
theorem d_Reader_prepare_57 : decode b_Reader_prepare 57 = .ok (.aload_n 0, 1) := by decide +kernel
theorem d_Reader_prepare_58 : decode b_Reader_prepare 58 = .ok (.iconst 0, 1) := by decide +kernel
theorem d_Reader_prepare_59 : decode b_Reader_prepare 59 = .ok (.putfield 64, 3) := by decide +kernel
theorem d_Reader_prepare_62 : decode b_Reader_prepare 62 = .ok (.aload_n 0, 1) := by decide +kernel
theorem d_Reader_prepare_63 : decode b_Reader_prepare 63 = .ok (.iconst 0, 1) := by decide +kernel
theorem d_Reader_prepare_64 : decode b_Reader_prepare 64 = .ok (.putfield 67, 3) := by decide +kernel
theorem d_Reader_prepare_67 : decode b_Reader_prepare 67 = .ok (.aload_n 0, 1) := by decide +kernel
theorem d_Reader_prepare_68 : decode b_Reader_prepare 68 = .ok (.iconst 0, 1) := by decide +kernel
theorem d_Reader_prepare_69 : decode b_Reader_prepare 69 = .ok (.putfield 70, 3) := by decide +kernel
theorem d_Reader_prepare_72 : decode b_Reader_prepare 72 = .ok (.aload_n 0, 1) := by decide +kernel
theorem d_Reader_prepare_73 : decode b_Reader_prepare 73 = .ok (.iconst 0, 1) := by decide +kernel
theorem d_Reader_prepare_74 : decode b_Reader_prepare 74 = .ok (.putfield 74, 3) := by decide +kernel
theorem d_Reader_prepare_77 : decode b_Reader_prepare 77 = .ok (.aload_n 0, 1) := by decide +kernel
theorem d_Reader_prepare_78 : decode b_Reader_prepare 78 = .ok (.iconst 0, 1) := by decide +kernel
theorem d_Reader_prepare_79 : decode b_Reader_prepare 79 = .ok (.putfield 77, 3) := by decide +kernel
theorem d_Reader_prepare_82 : decode b_Reader_prepare 82 = .ok (.return_, 1) := by decide +kernel
def w_Reader_prepare : List Cond := .code y_Reader_prepare b_Reader_prepare 4 none :: WALL
theorem g_Reader_prepare : GoodIn WALL w_Reader_prepare := good_of mc_Reader_prepare
set_option maxHeartbeats 4000000 in
set_option maxRecDepth 100000 in
theorem c_Reader_prepare (l : Launch) (D : va_G) (cA a : Nat → Nat) (sz : Nat) (x1 : Int32) (x2 : Int32) (x3 : Int32) (I : Nat → Int32) (A : Nat → Nat → Int32) (post : (Nat → Int32) → (Nat → Nat → Int32) → Prop) (h : wp_Reader_prepare x1 x2 x3 I A post) : Met l y_Reader_prepare w_Reader_prepare ({ frames := 1, cells := 0, slots := 0, locals := 21 }) (va_Pc [.ref (a 2), .int x1, .int x2, .int x3] (PreC D cA a I A sz)) (va_Qv (fun (u : StW) => post u.1 u.2) (EndC D cA a) (AC a sz)) 0 0 (AC a sz) := by
  refine Met.ofW (cc := b_Reader_prepare) (maxL := 4) (ret := none) (by decide) rfl ?_
  intro p e s m args below meth c s₁ B hml hv
  obtain ⟨rfl, hsz, hP, hK, hD0⟩ := hv
  have hx := B.exec
  have hb := B.bytes
  have hr := B.returns
  have hts := atoms_spec (ws := w_Reader_prepare) B.pre
  have hw := wall_of hts
  have hown : s.vm.findClass R_Reader = some m.cls := findClass_of_methodNamed B.named
  have hlocks := B.notSynchronized
  subst hsz
  have hD := hDC (sz := s.heap.size) hD0
  have hA : ∀ q : Nat, s.heap.size ≤ q → AC a s.heap.size q := fun q h => Or.inr h
  have hS : va_S (AC a s.heap.size) s.heap s.heap [] := va_S.rf
  have hl := lv_entry ([.ref (a 2), .int x1, .int x2, .int x3]) (n := 4) (Nat.le_of_ble_eq_true rfl)
  rw [lg_entry_eq]
  generalize (lg_sl ([.ref (a 2), .int x1, .int x2, .int x3]) ++ List.replicate (4 - (lg_sl ([.ref (a 2), .int x1, .int x2, .int x3])).length) Slot.unset).toArray = ls at hl ⊢
  have hl : lv_has ls 4 [(0, .ref (a 2)), (1, .int x1), (2, .int x2), (3, .int x3)] := hl
  unfold wp_Reader_prepare at h
  refine lv_aload_n hx hb d_Reader_prepare_0 rfl (lv_at hl 0 rfl) ?_
  refine lv_iload_n hx hb d_Reader_prepare_1 rfl (lv_at hl 1 rfl) ?_
  refine pC_Reader_fullBar hx hb hw hown hK hD hS hP (hw _ m_Reader_32) d_Reader_prepare_2 (fun H locs hP hS => ?_)
  refine lv_aload_n hx hb d_Reader_prepare_5 rfl (lv_at hl 0 rfl) ?_
  refine lv_iload_n hx hb d_Reader_prepare_6 rfl (lv_at hl 2 rfl) ?_
  refine pC_Reader_unitTicks hx hb hw hown hK hD hS hP (hw _ m_Reader_36) d_Reader_prepare_7 (fun H locs hP hS => ?_)
  refine lv_aload_n hx hb d_Reader_prepare_10 rfl (lv_at hl 0 rfl) ?_
  refine gC_Reader_pitches hx hb hw hown hK hP (hw _ m_Reader_21) d_Reader_prepare_11 ?_
  refine lv_iload_n hx hb d_Reader_prepare_14 rfl (lv_at hl 3 rfl) ?_
  refine k_PitchFinder_startTune x3 (rest := []) ⟨hx, hb, hml, hown, hw⟩ hK hD hA hS hP hl.1 (hw _ m_Reader_39) (Nat.le_of_ble_eq_true rfl) ⟨Nat.le_of_ble_eq_true rfl, Nat.le_of_ble_eq_true rfl⟩ ⟨Nat.zero_le _, Nat.zero_le _⟩ d_Reader_prepare_15 h (fun I15 A15 H locs h hP hS => ?_)
  refine lv_aload_n hx hb d_Reader_prepare_18 rfl (lv_at hl 0 rfl) ?_
  refine gC_Reader_itemLength hx hb hw hown hK hP (hw _ m_Reader_28) d_Reader_prepare_19 ?_
  refine k_ItemLength_restart (rest := []) ⟨hx, hb, hml, hown, hw⟩ hK hD hA hS hP hl.1 (hw _ m_Reader_43) (Nat.le_of_ble_eq_true rfl) ⟨Nat.le_of_ble_eq_true rfl, Nat.le_of_ble_eq_true rfl⟩ ⟨Nat.zero_le _, Nat.zero_le _⟩ d_Reader_prepare_22 h (fun I22 A22 H locs h hP hS => ?_)
  refine lv_aload_n hx hb d_Reader_prepare_25 rfl (lv_at hl 0 rfl) ?_
  refine gC_Reader_tune hx hb hw hown hK hP (hw _ m_Reader_14) d_Reader_prepare_26 ?_
  refine k_Tune_empty (rest := []) ⟨hx, hb, hml, hown, hw⟩ hK hD hA hS hP hl.1 (hw _ m_Reader_46) (Nat.le_of_ble_eq_true rfl) ⟨Nat.le_of_ble_eq_true rfl, Nat.le_of_ble_eq_true rfl⟩ ⟨Nat.zero_le _, Nat.zero_le _⟩ d_Reader_prepare_29 h (fun I29 A29 H locs h hP hS => ?_)
  refine lv_aload_n hx hb d_Reader_prepare_32 rfl (lv_at hl 0 rfl) ?_
  refine lv_iconst (v := 0) hx hb d_Reader_prepare_33 ic_0 ?_
  refine pC_Reader_fault hx hb hw hown hK hD hS hP (hw _ m_Reader_49) d_Reader_prepare_34 (fun H locs hP hS => ?_)
  refine lv_aload_n hx hb d_Reader_prepare_37 rfl (lv_at hl 0 rfl) ?_
  refine lv_iconst (v := 0) hx hb d_Reader_prepare_38 ic_0 ?_
  refine pC_Reader_faultPlace hx hb hw hown hK hD hS hP (hw _ m_Reader_52) d_Reader_prepare_39 (fun H locs hP hS => ?_)
  refine lv_aload_n hx hb d_Reader_prepare_42 rfl (lv_at hl 0 rfl) ?_
  refine lv_iconst (v := 0) hx hb d_Reader_prepare_43 ic_0 ?_
  refine pC_Reader_state hx hb hw hown hK hD hS hP (hw _ m_Reader_55) d_Reader_prepare_44 (fun H locs hP hS => ?_)
  refine lv_aload_n hx hb d_Reader_prepare_47 rfl (lv_at hl 0 rfl) ?_
  refine lv_iconst (v := 0) hx hb d_Reader_prepare_48 ic_0 ?_
  refine pC_Reader_linePlace hx hb hw hown hK hD hS hP (hw _ m_Reader_58) d_Reader_prepare_49 (fun H locs hP hS => ?_)
  refine lv_aload_n hx hb d_Reader_prepare_52 rfl (lv_at hl 0 rfl) ?_
  refine lv_iconst (v := 0) hx hb d_Reader_prepare_53 ic_0 ?_
  refine pC_Reader_tripletLeft hx hb hw hown hK hD hS hP (hw _ m_Reader_61) d_Reader_prepare_54 (fun H locs hP hS => ?_)
  refine lv_aload_n hx hb d_Reader_prepare_57 rfl (lv_at hl 0 rfl) ?_
  refine lv_iconst (v := 0) hx hb d_Reader_prepare_58 ic_0 ?_
  refine pC_Reader_chordNotes hx hb hw hown hK hD hS hP (hw _ m_Reader_64) d_Reader_prepare_59 (fun H locs hP hS => ?_)
  refine lv_aload_n hx hb d_Reader_prepare_62 rfl (lv_at hl 0 rfl) ?_
  refine lv_iconst (v := 0) hx hb d_Reader_prepare_63 ic_0 ?_
  refine pC_Reader_latestSign hx hb hw hown hK hD hS hP (hw _ m_Reader_67) d_Reader_prepare_64 (fun H locs hP hS => ?_)
  refine lv_aload_n hx hb d_Reader_prepare_67 rfl (lv_at hl 0 rfl) ?_
  refine lv_iconst (v := 0) hx hb d_Reader_prepare_68 ic_0 ?_
  refine pC_Reader_inBar hx hb hw hown hK hD hS hP (hw _ m_Reader_70) vz0 d_Reader_prepare_69 (fun H locs hP hS => ?_)
  refine lv_aload_n hx hb d_Reader_prepare_72 rfl (lv_at hl 0 rfl) ?_
  refine lv_iconst (v := 0) hx hb d_Reader_prepare_73 ic_0 ?_
  refine pC_Reader_inItem hx hb hw hown hK hD hS hP (hw _ m_Reader_74) vz0 d_Reader_prepare_74 (fun H locs hP hS => ?_)
  refine lv_aload_n hx hb d_Reader_prepare_77 rfl (lv_at hl 0 rfl) ?_
  refine lv_iconst (v := 0) hx hb d_Reader_prepare_78 ic_0 ?_
  refine pC_Reader_inChord hx hb hw hown hK hD hS hP (hw _ m_Reader_77) vz0 d_Reader_prepare_79 (fun H locs hP hS => ?_)
  exact W.vret hx hb hr (fun t ht hW => ⟨⟨((upd (upd (upd (upd (upd (upd (upd (upd (upd (upd I29 3 0) 4 0) 14 0) 16 0) 17 0) 18 0) 19 0) 20 0) 21 0) 22 0), A29), rfl, h, endC_of ht hP⟩, hS.F ht⟩) hS.2.2 d_Reader_prepare_82
theorem k_Reader_prepare {p : Program} {l : Launch} {e : Env} {R : Room} {s : State} {m : MethodId} {args : Array Value} {below : List Frame} {meth : Method} {c : Code} {H : Heap} {locs : List Loc} {cells slots : Nat} {Q : State → Prop} {cc : ByteArray} {pc nL idx : Nat} {own : String} {ls : Array Slot} {D : va_G} {cA a : Nat → Nat} {AA : Nat → Prop} {I : Nat → Int32} {A : Nat → Nat → Int32} {post : (Nat → Int32) → (Nat → Nat → Int32) → Prop} (x1 : Int32) (x2 : Int32) (x3 : Int32) {rest : List Value} (S : CallFix p m c cc nL s args WALL own) (hK : KC D cA a AA s) (hD : ∀ I A, va_D AA (wC cA a I A)) (hA : ∀ q : Nat, s.heap.size ≤ q → AA q) (hS : va_S AA s.heap H locs) (hP : va_P D cls (wC cA a I A) H) (hl1 : ls.size = nL) (hlink : (Cond.methodLink own idx y_Reader_prepare).before args s = true) (hst : (rest.map fun v => v.category).sum ≤ 8) (hR : ({ frames := 1, cells := 0, slots := 0, locals := 21 } : Room).frames + 1 ≤ R.frames ∧ 8 + (4 + 11) + ({ frames := 1, cells := 0, slots := 0, locals := 21 } : Room).locals ≤ R.locals) (hcs : cells ≤ R.cells ∧ slots ≤ R.slots) (hdg : decode cc pc = .ok (.invokevirtual idx, 3)) (h : wp_Reader_prepare x1 x2 x3 I A post) (kk : ∀ (I1 : Nat → Int32) (A1 : Nat → Nat → Int32) (H1 : Heap) (locs1 : List Loc), post I1 A1 → va_P D cls (wC cA a I1 A1) H1 → va_S AA s.heap H1 locs1 → W p l e R s m args below meth c H1 locs1 cells slots Q (F0 m (pc + 3) ls rest)) : W p l e R s m args below meth c H locs cells slots Q (F0 m pc ls (.int x3 :: .int x2 :: .int x1 :: .ref (a 2) :: rest)) :=
  va_callv (va_runV (As := [.int x1, .int x2, .int x3]) (rest := rest) S (c_Reader_prepare l D cA a H.size x1 x2 x3 I A post h) ⟨callB_of 3 S.2.2.2.2 g_Reader_prepare rfl rfl rfl (S.2.2.2.2 _ mi_Reader) hlink ⟨by decide, by decide, by decide +kernel⟩ hR, S.2.2.2.2 _ mn_Reader_prepare, S.2.2.2.2 _ ms_Reader_prepare⟩ (preCV hK hD hA hS hP 2 rfl rfl) rfl rfl hl1 rfl (lv_room hst) hdg hcs) hS (fun q _ z => AC_le hD hA hS q z) (fun q z => AC_le hD hA hS q z) (fun u t H1 locs1 ht _ hp hB _ _ hS1 => kk u.1 u.2 H1 locs1 hp (of_endC ht hB) hS1)
def wp_Reader_letterAt (x1 : Int32) (x2 : Int32) (I : Nat → Int32) (A : Nat → Nat → Int32) (post : Int32 → (Nat → Int32) → (Nat → Nat → Int32) → Prop) : Prop := ((x2 < 0 → post 0 I A) ∧ (¬ x2 < 0 → ((x1 ≤ x2 → post 0 I A) ∧ (¬ x1 ≤ x2 → ((120 ≤ x2 → post 0 I A) ∧ (¬ 120 ≤ x2 → (vp_in x2 120 ∧ post (A 1 (x2.toNatClampNeg)) I A)))))))
theorem d_Reader_letterAt_0 : decode b_Reader_letterAt 0 = .ok (.iload_n 2, 1) := by decide +kernel
theorem d_Reader_letterAt_1 : decode b_Reader_letterAt 1 = .ok (.ifCond .lt 20, 3) := by decide +kernel
theorem d_Reader_letterAt_4 : decode b_Reader_letterAt 4 = .ok (.iload_n 2, 1) := by decide +kernel
theorem d_Reader_letterAt_5 : decode b_Reader_letterAt 5 = .ok (.iload_n 1, 1) := by decide +kernel
theorem d_Reader_letterAt_6 : decode b_Reader_letterAt 6 = .ok (.if_icmp .ge 15, 3) := by decide +kernel
theorem d_Reader_letterAt_9 : decode b_Reader_letterAt 9 = .ok (.iload_n 2, 1) := by decide +kernel
theorem d_Reader_letterAt_10 : decode b_Reader_letterAt 10 = .ok (.aload_n 0, 1) := by decide +kernel
theorem d_Reader_letterAt_11 : decode b_Reader_letterAt 11 = .ok (.arraylength, 1) := by decide +kernel
theorem d_Reader_letterAt_12 : decode b_Reader_letterAt 12 = .ok (.if_icmp .ge 9, 3) := by decide +kernel
theorem d_Reader_letterAt_15 : decode b_Reader_letterAt 15 = .ok (.aload_n 0, 1) := by decide +kernel
theorem d_Reader_letterAt_16 : decode b_Reader_letterAt 16 = .ok (.iload_n 2, 1) := by decide +kernel
theorem d_Reader_letterAt_17 : decode b_Reader_letterAt 17 = .ok (.caload, 1) := by decide +kernel
theorem d_Reader_letterAt_18 : decode b_Reader_letterAt 18 = .ok (.goto 4, 3) := by decide +kernel
theorem d_Reader_letterAt_21 : decode b_Reader_letterAt 21 = .ok (.iconst 0, 1) := by decide +kernel
theorem d_Reader_letterAt_22 : decode b_Reader_letterAt 22 = .ok (.ireturn, 1) := by decide +kernel
def w_Reader_letterAt : List Cond := .code y_Reader_letterAt b_Reader_letterAt 3 (some .int) :: WALL
theorem g_Reader_letterAt : GoodIn WALL w_Reader_letterAt := good_of mc_Reader_letterAt
set_option maxHeartbeats 4000000 in
set_option maxRecDepth 100000 in
theorem c_Reader_letterAt (l : Launch) (D : va_G) (cA a : Nat → Nat) (sz : Nat) (x1 : Int32) (x2 : Int32) (I : Nat → Int32) (A : Nat → Nat → Int32) (post : Int32 → (Nat → Int32) → (Nat → Nat → Int32) → Prop) (h : wp_Reader_letterAt x1 x2 I A post) : Met l y_Reader_letterAt w_Reader_letterAt ({ frames := 0, cells := 0, slots := 0, locals := 0 }) (va_Pc [.ref (a 1), .int x1, .int x2] (PreC D cA a I A sz)) (va_Qi (fun r (u : StW) => post r u.1 u.2) (EndC D cA a) (AC a sz)) 0 0 (AC a sz) := by
  refine Met.ofW (cc := b_Reader_letterAt) (maxL := 3) (ret := (some .int)) (by decide) rfl ?_
  intro p e s m args below meth c s₁ B hml hv
  obtain ⟨rfl, hsz, hP, hK, hD0⟩ := hv
  have hx := B.exec
  have hb := B.bytes
  have hr := B.returns
  have hts := atoms_spec (ws := w_Reader_letterAt) B.pre
  have hw := wall_of hts
  have hown : s.vm.findClass R_Reader = some m.cls := findClass_of_methodNamed B.named
  have hlocks := B.notSynchronized
  subst hsz
  have hD := hDC (sz := s.heap.size) hD0
  have hA : ∀ q : Nat, s.heap.size ≤ q → AC a s.heap.size q := fun q h => Or.inr h
  have hS : va_S (AC a s.heap.size) s.heap s.heap [] := va_S.rf
  have hl := lv_entry ([.ref (a 1), .int x1, .int x2]) (n := 3) (Nat.le_of_ble_eq_true rfl)
  rw [lg_entry_eq]
  generalize (lg_sl ([.ref (a 1), .int x1, .int x2]) ++ List.replicate (3 - (lg_sl ([.ref (a 1), .int x1, .int x2])).length) Slot.unset).toArray = ls at hl ⊢
  have hl : lv_has ls 3 [(0, .ref (a 1)), (1, .int x1), (2, .int x2)] := hl
  unfold wp_Reader_letterAt at h
  refine lv_iload_n hx hb d_Reader_letterAt_0 rfl (lv_at hl 2 rfl) ?_
  refine lv_if_lt (tgt := 21) hx hb d_Reader_letterAt_1 rfl (fun q => ?_) (fun q => ?_)
  · have h := h.1 q
    refine lv_iconst (v := 0) hx hb d_Reader_letterAt_21 ic_0 ?_
    exact W.iret hx hb hr (fun t ht hW => ⟨⟨_, (I, A), rfl, h, endC_of ht hP⟩, hS.F ht⟩) hS.2.2 d_Reader_letterAt_22
  · have h := h.2 q
    refine lv_iload_n hx hb d_Reader_letterAt_4 rfl (lv_at hl 2 rfl) ?_
    refine lv_iload_n hx hb d_Reader_letterAt_5 rfl (lv_at hl 1 rfl) ?_
    refine lv_icmp_ge (tgt := 21) hx hb d_Reader_letterAt_6 rfl (fun q => ?_) (fun q => ?_)
    · have h := h.1 q
      refine lv_iconst (v := 0) hx hb d_Reader_letterAt_21 ic_0 ?_
      exact W.iret hx hb hr (fun t ht hW => ⟨⟨_, (I, A), rfl, h, endC_of ht hP⟩, hS.F ht⟩) hS.2.2 d_Reader_letterAt_22
    · have h := h.2 q
      refine lv_iload_n hx hb d_Reader_letterAt_9 rfl (lv_at hl 2 rfl) ?_
      refine lv_aload_n hx hb d_Reader_letterAt_10 rfl (lv_at hl 0 rfl) ?_
      refine nC1 hx hb hK hP d_Reader_letterAt_11 ?_
      refine lv_icmp_ge (tgt := 21) hx hb d_Reader_letterAt_12 rfl (fun q => ?_) (fun q => ?_)
      · have h := h.1 q
        refine lv_iconst (v := 0) hx hb d_Reader_letterAt_21 ic_0 ?_
        exact W.iret hx hb hr (fun t ht hW => ⟨⟨_, (I, A), rfl, h, endC_of ht hP⟩, hS.F ht⟩) hS.2.2 d_Reader_letterAt_22
      · have h := h.2 q
        refine lv_aload_n hx hb d_Reader_letterAt_15 rfl (lv_at hl 0 rfl) ?_
        refine lv_iload_n hx hb d_Reader_letterAt_16 rfl (lv_at hl 2 rfl) ?_
        obtain ⟨hin, h⟩ := h
        refine lC1 hx hb hK hP hin d_Reader_letterAt_17 ?_
        refine lv_goto (tgt := 22) hx hb d_Reader_letterAt_18 rfl ?_
        exact W.iret hx hb hr (fun t ht hW => ⟨⟨_, (I, A), rfl, h, endC_of ht hP⟩, hS.F ht⟩) hS.2.2 d_Reader_letterAt_22
theorem k_Reader_letterAt {p : Program} {l : Launch} {e : Env} {R : Room} {s : State} {m : MethodId} {args : Array Value} {below : List Frame} {meth : Method} {c : Code} {H : Heap} {locs : List Loc} {cells slots : Nat} {Q : State → Prop} {cc : ByteArray} {pc nL idx : Nat} {own : String} {ls : Array Slot} {D : va_G} {cA a : Nat → Nat} {AA : Nat → Prop} {I : Nat → Int32} {A : Nat → Nat → Int32} {post : Int32 → (Nat → Int32) → (Nat → Nat → Int32) → Prop} (x1 : Int32) (x2 : Int32) {rest : List Value} (S : CallFix p m c cc nL s args WALL own) (hK : KC D cA a AA s) (hD : ∀ I A, va_D AA (wC cA a I A)) (hA : ∀ q : Nat, s.heap.size ≤ q → AA q) (hS : va_S AA s.heap H locs) (hP : va_P D cls (wC cA a I A) H) (hl1 : ls.size = nL) (hlink : (Cond.methodLink own idx y_Reader_letterAt).before args s = true) (hst : (rest.map fun v => v.category).sum ≤ 8) (hR : ({ frames := 0, cells := 0, slots := 0, locals := 0 } : Room).frames + 1 ≤ R.frames ∧ 8 + (3 + 11) + ({ frames := 0, cells := 0, slots := 0, locals := 0 } : Room).locals ≤ R.locals) (hcs : cells ≤ R.cells ∧ slots ≤ R.slots) (hdg : decode cc pc = .ok (.invokestatic idx, 3)) (h : wp_Reader_letterAt x1 x2 I A post) (kk : ∀ (r : Int32) (I1 : Nat → Int32) (A1 : Nat → Nat → Int32) (H1 : Heap) (locs1 : List Loc), post r I1 A1 → va_P D cls (wC cA a I1 A1) H1 → va_S AA s.heap H1 locs1 → W p l e R s m args below meth c H1 locs1 cells slots Q (F0 m (pc + 3) ls (.int r :: rest))) : W p l e R s m args below meth c H locs cells slots Q (F0 m pc ls (.int x2 :: .int x1 :: .ref (a 1) :: rest)) :=
  va_calli (va_runS (As := [.ref (a 1), .int x1, .int x2]) (rest := rest) S (c_Reader_letterAt l D cA a H.size x1 x2 I A post h) ⟨callB_of 3 S.2.2.2.2 g_Reader_letterAt rfl rfl rfl (S.2.2.2.2 _ mi_Reader) hlink ⟨by decide, by decide, by decide +kernel⟩ hR, S.2.2.2.2 _ mn_Reader_letterAt⟩ (preCS hK hD hA hS hP) rfl rfl hl1 rfl (lv_room hst) hdg hcs) hS (fun q _ z => AC_le hD hA hS q z) (fun q z => AC_le hD hA hS q z) (fun r u t H1 locs1 ht _ hp hB _ _ hS1 => kk r u.1 u.2 H1 locs1 hp (of_endC ht hB) hS1)
def wp_Reader_isDigit (x1 : Int32) (I : Nat → Int32) (A : Nat → Nat → Int32) (post : Int32 → (Nat → Int32) → (Nat → Nat → Int32) → Prop) : Prop := ((x1 < 48 → post 0 I A) ∧ (¬ x1 < 48 → ((57 < x1 → post 0 I A) ∧ (¬ 57 < x1 → post 1 I A))))
theorem d_Reader_isDigit_0 : decode b_Reader_isDigit 0 = .ok (.iload_n 0, 1) := by decide +kernel
theorem d_Reader_isDigit_1 : decode b_Reader_isDigit 1 = .ok (.bipush 48, 2) := by decide +kernel
theorem d_Reader_isDigit_3 : decode b_Reader_isDigit 3 = .ok (.if_icmp .lt 13, 3) := by decide +kernel
theorem d_Reader_isDigit_6 : decode b_Reader_isDigit 6 = .ok (.iload_n 0, 1) := by decide +kernel
theorem d_Reader_isDigit_7 : decode b_Reader_isDigit 7 = .ok (.bipush 57, 2) := by decide +kernel
theorem d_Reader_isDigit_9 : decode b_Reader_isDigit 9 = .ok (.if_icmp .gt 7, 3) := by decide +kernel
theorem d_Reader_isDigit_12 : decode b_Reader_isDigit 12 = .ok (.iconst 1, 1) := by decide +kernel
theorem d_Reader_isDigit_13 : decode b_Reader_isDigit 13 = .ok (.goto 4, 3) := by decide +kernel
theorem d_Reader_isDigit_16 : decode b_Reader_isDigit 16 = .ok (.iconst 0, 1) := by decide +kernel
theorem d_Reader_isDigit_17 : decode b_Reader_isDigit 17 = .ok (.ireturn, 1) := by decide +kernel
def w_Reader_isDigit : List Cond := .code y_Reader_isDigit b_Reader_isDigit 1 (some .boolean) :: WALL
theorem g_Reader_isDigit : GoodIn WALL w_Reader_isDigit := good_of mc_Reader_isDigit
set_option maxHeartbeats 4000000 in
set_option maxRecDepth 100000 in
theorem c_Reader_isDigit (l : Launch) (D : va_G) (cA a : Nat → Nat) (sz : Nat) (x1 : Int32) (I : Nat → Int32) (A : Nat → Nat → Int32) (post : Int32 → (Nat → Int32) → (Nat → Nat → Int32) → Prop) (h : wp_Reader_isDigit x1 I A post) : Met l y_Reader_isDigit w_Reader_isDigit ({ frames := 0, cells := 0, slots := 0, locals := 0 }) (va_Pc [.int x1] (PreC D cA a I A sz)) (va_Qi (fun r (u : StW) => post r u.1 u.2) (EndC D cA a) (AC a sz)) 0 0 (AC a sz) := by
  refine Met.ofW (cc := b_Reader_isDigit) (maxL := 1) (ret := (some .boolean)) (by decide) rfl ?_
  intro p e s m args below meth c s₁ B hml hv
  obtain ⟨rfl, hsz, hP, hK, hD0⟩ := hv
  have hx := B.exec
  have hb := B.bytes
  have hr := B.returns
  have hts := atoms_spec (ws := w_Reader_isDigit) B.pre
  have hw := wall_of hts
  have hown : s.vm.findClass R_Reader = some m.cls := findClass_of_methodNamed B.named
  have hlocks := B.notSynchronized
  subst hsz
  have hD := hDC (sz := s.heap.size) hD0
  have hA : ∀ q : Nat, s.heap.size ≤ q → AC a s.heap.size q := fun q h => Or.inr h
  have hS : va_S (AC a s.heap.size) s.heap s.heap [] := va_S.rf
  have hl := lv_entry ([.int x1]) (n := 1) (Nat.le_of_ble_eq_true rfl)
  rw [lg_entry_eq]
  generalize (lg_sl ([.int x1]) ++ List.replicate (1 - (lg_sl ([.int x1])).length) Slot.unset).toArray = ls at hl ⊢
  have hl : lv_has ls 1 [(0, .int x1)] := hl
  unfold wp_Reader_isDigit at h
  refine lv_iload_n hx hb d_Reader_isDigit_0 rfl (lv_at hl 0 rfl) ?_
  refine lv_bipush (v := 48) hx hb d_Reader_isDigit_1 bp_48 ?_
  refine lv_icmp_lt (tgt := 16) hx hb d_Reader_isDigit_3 rfl (fun q => ?_) (fun q => ?_)
  · have h := h.1 q
    refine lv_iconst (v := 0) hx hb d_Reader_isDigit_16 ic_0 ?_
    exact W.zret hx hb hr (vz_n vz0) (fun t ht hW => ⟨⟨_, (I, A), rfl, h, endC_of ht hP⟩, hS.F ht⟩) hS.2.2 d_Reader_isDigit_17
  · have h := h.2 q
    refine lv_iload_n hx hb d_Reader_isDigit_6 rfl (lv_at hl 0 rfl) ?_
    refine lv_bipush (v := 57) hx hb d_Reader_isDigit_7 bp_57 ?_
    refine lv_icmp_gt (tgt := 16) hx hb d_Reader_isDigit_9 rfl (fun q => ?_) (fun q => ?_)
    · have h := h.1 q
      refine lv_iconst (v := 0) hx hb d_Reader_isDigit_16 ic_0 ?_
      exact W.zret hx hb hr (vz_n vz0) (fun t ht hW => ⟨⟨_, (I, A), rfl, h, endC_of ht hP⟩, hS.F ht⟩) hS.2.2 d_Reader_isDigit_17
    · have h := h.2 q
      refine lv_iconst (v := 1) hx hb d_Reader_isDigit_12 ic_1 ?_
      refine lv_goto (tgt := 17) hx hb d_Reader_isDigit_13 rfl ?_
      exact W.zret hx hb hr (vz_n vz1) (fun t ht hW => ⟨⟨_, (I, A), rfl, h, endC_of ht hP⟩, hS.F ht⟩) hS.2.2 d_Reader_isDigit_17
theorem k_Reader_isDigit {p : Program} {l : Launch} {e : Env} {R : Room} {s : State} {m : MethodId} {args : Array Value} {below : List Frame} {meth : Method} {c : Code} {H : Heap} {locs : List Loc} {cells slots : Nat} {Q : State → Prop} {cc : ByteArray} {pc nL idx : Nat} {own : String} {ls : Array Slot} {D : va_G} {cA a : Nat → Nat} {AA : Nat → Prop} {I : Nat → Int32} {A : Nat → Nat → Int32} {post : Int32 → (Nat → Int32) → (Nat → Nat → Int32) → Prop} (x1 : Int32) {rest : List Value} (S : CallFix p m c cc nL s args WALL own) (hK : KC D cA a AA s) (hD : ∀ I A, va_D AA (wC cA a I A)) (hA : ∀ q : Nat, s.heap.size ≤ q → AA q) (hS : va_S AA s.heap H locs) (hP : va_P D cls (wC cA a I A) H) (hl1 : ls.size = nL) (hlink : (Cond.methodLink own idx y_Reader_isDigit).before args s = true) (hst : (rest.map fun v => v.category).sum ≤ 8) (hR : ({ frames := 0, cells := 0, slots := 0, locals := 0 } : Room).frames + 1 ≤ R.frames ∧ 8 + (1 + 11) + ({ frames := 0, cells := 0, slots := 0, locals := 0 } : Room).locals ≤ R.locals) (hcs : cells ≤ R.cells ∧ slots ≤ R.slots) (hdg : decode cc pc = .ok (.invokestatic idx, 3)) (h : wp_Reader_isDigit x1 I A post) (kk : ∀ (r : Int32) (I1 : Nat → Int32) (A1 : Nat → Nat → Int32) (H1 : Heap) (locs1 : List Loc), post r I1 A1 → va_P D cls (wC cA a I1 A1) H1 → va_S AA s.heap H1 locs1 → W p l e R s m args below meth c H1 locs1 cells slots Q (F0 m (pc + 3) ls (.int r :: rest))) : W p l e R s m args below meth c H locs cells slots Q (F0 m pc ls (.int x1 :: rest)) :=
  va_calli (va_runS (As := [.int x1]) (rest := rest) S (c_Reader_isDigit l D cA a H.size x1 I A post h) ⟨callB_of 1 S.2.2.2.2 g_Reader_isDigit rfl rfl rfl (S.2.2.2.2 _ mi_Reader) hlink ⟨by decide, by decide, by decide +kernel⟩ hR, S.2.2.2.2 _ mn_Reader_isDigit⟩ (preCS hK hD hA hS hP) rfl rfl hl1 rfl (lv_room hst) hdg hcs) hS (fun q _ z => AC_le hD hA hS q z) (fun q z => AC_le hD hA hS q z) (fun r u t H1 locs1 ht _ hp hB _ _ hS1 => kk r u.1 u.2 H1 locs1 hp (of_endC ht hB) hS1)
def wp_Reader_octavesEnd (x1 : Int32) (I : Nat → Int32) (A : Nat → Nat → Int32) (post : Int32 → (Nat → Int32) → (Nat → Nat → Int32) → Prop) : Prop := (((I 14) = 11 → ((x1 = 39 → post 0 I A) ∧ (¬ x1 = 39 → ((x1 = 44 → post 0 I A) ∧ (¬ x1 = 44 → post 1 I A))))) ∧ ((I 14) = 12 → ((x1 = 39 → post 0 I A) ∧ (¬ x1 = 39 → post 1 I A))) ∧ ((I 14) = 13 → ((x1 = 44 → post 0 I A) ∧ (¬ x1 = 44 → post 1 I A))) ∧ (¬ (I 14) = 11 → ¬ (I 14) = 12 → ¬ (I 14) = 13 → post 0 I A))
theorem d_Reader_octavesEnd_0 : decode b_Reader_octavesEnd 0 = .ok (.aload_n 0, 1) := by decide +kernel
theorem d_Reader_octavesEnd_1 : decode b_Reader_octavesEnd 1 = .ok (.getfield 55, 3) := by decide +kernel
theorem d_Reader_octavesEnd_4 : decode b_Reader_octavesEnd 4 = .ok (.tableswitch 70 11 13 #[28, 46, 58], 28) := by decide +kernel
theorem d_Reader_octavesEnd_32 : decode b_Reader_octavesEnd 32 = .ok (.iload_n 1, 1) := by decide +kernel
theorem d_Reader_octavesEnd_33 : decode b_Reader_octavesEnd 33 = .ok (.bipush 39, 2) := by decide +kernel
theorem d_Reader_octavesEnd_35 : decode b_Reader_octavesEnd 35 = .ok (.if_icmp .eq 13, 3) := by decide +kernel
theorem d_Reader_octavesEnd_38 : decode b_Reader_octavesEnd 38 = .ok (.iload_n 1, 1) := by decide +kernel
theorem d_Reader_octavesEnd_39 : decode b_Reader_octavesEnd 39 = .ok (.bipush 44, 2) := by decide +kernel
theorem d_Reader_octavesEnd_41 : decode b_Reader_octavesEnd 41 = .ok (.if_icmp .eq 7, 3) := by decide +kernel
theorem d_Reader_octavesEnd_44 : decode b_Reader_octavesEnd 44 = .ok (.iconst 1, 1) := by decide +kernel
theorem d_Reader_octavesEnd_45 : decode b_Reader_octavesEnd 45 = .ok (.goto 4, 3) := by decide +kernel
theorem d_Reader_octavesEnd_48 : decode b_Reader_octavesEnd 48 = .ok (.iconst 0, 1) := by decide +kernel
theorem d_Reader_octavesEnd_49 : decode b_Reader_octavesEnd 49 = .ok (.ireturn, 1) := by decide +kernel
theorem d_Reader_octavesEnd_50 : decode b_Reader_octavesEnd 50 = .ok (.iload_n 1, 1) := by decide +kernel
theorem d_Reader_octavesEnd_51 : decode b_Reader_octavesEnd 51 = .ok (.bipush 39, 2) := by decide +kernel
theorem d_Reader_octavesEnd_53 : decode b_Reader_octavesEnd 53 = .ok (.if_icmp .eq 7, 3) := by decide +kernel
theorem d_Reader_octavesEnd_56 : decode b_Reader_octavesEnd 56 = .ok (.iconst 1, 1) := by decide +kernel
theorem d_Reader_octavesEnd_57 : decode b_Reader_octavesEnd 57 = .ok (.goto 4, 3) := by decide +kernel
theorem d_Reader_octavesEnd_60 : decode b_Reader_octavesEnd 60 = .ok (.iconst 0, 1) := by decide +kernel
theorem d_Reader_octavesEnd_61 : decode b_Reader_octavesEnd 61 = .ok (.ireturn, 1) := by decide +kernel
theorem d_Reader_octavesEnd_62 : decode b_Reader_octavesEnd 62 = .ok (.iload_n 1, 1) := by decide +kernel
theorem d_Reader_octavesEnd_63 : decode b_Reader_octavesEnd 63 = .ok (.bipush 44, 2) := by decide +kernel
theorem d_Reader_octavesEnd_65 : decode b_Reader_octavesEnd 65 = .ok (.if_icmp .eq 7, 3) := by decide +kernel
theorem d_Reader_octavesEnd_68 : decode b_Reader_octavesEnd 68 = .ok (.iconst 1, 1) := by decide +kernel
theorem d_Reader_octavesEnd_69 : decode b_Reader_octavesEnd 69 = .ok (.goto 4, 3) := by decide +kernel
theorem d_Reader_octavesEnd_72 : decode b_Reader_octavesEnd 72 = .ok (.iconst 0, 1) := by decide +kernel
theorem d_Reader_octavesEnd_73 : decode b_Reader_octavesEnd 73 = .ok (.ireturn, 1) := by decide +kernel
theorem d_Reader_octavesEnd_74 : decode b_Reader_octavesEnd 74 = .ok (.iconst 0, 1) := by decide +kernel
theorem d_Reader_octavesEnd_75 : decode b_Reader_octavesEnd 75 = .ok (.ireturn, 1) := by decide +kernel
def w_Reader_octavesEnd : List Cond := .code y_Reader_octavesEnd b_Reader_octavesEnd 2 (some .boolean) :: WALL
theorem g_Reader_octavesEnd : GoodIn WALL w_Reader_octavesEnd := good_of mc_Reader_octavesEnd
set_option maxHeartbeats 4000000 in
set_option maxRecDepth 100000 in
theorem c_Reader_octavesEnd (l : Launch) (D : va_G) (cA a : Nat → Nat) (sz : Nat) (x1 : Int32) (I : Nat → Int32) (A : Nat → Nat → Int32) (post : Int32 → (Nat → Int32) → (Nat → Nat → Int32) → Prop) (h : wp_Reader_octavesEnd x1 I A post) : Met l y_Reader_octavesEnd w_Reader_octavesEnd ({ frames := 0, cells := 0, slots := 0, locals := 0 }) (va_Pc [.ref (a 2), .int x1] (PreC D cA a I A sz)) (va_Qi (fun r (u : StW) => post r u.1 u.2) (EndC D cA a) (AC a sz)) 0 0 (AC a sz) := by
  refine Met.ofW (cc := b_Reader_octavesEnd) (maxL := 2) (ret := (some .boolean)) (by decide) rfl ?_
  intro p e s m args below meth c s₁ B hml hv
  obtain ⟨rfl, hsz, hP, hK, hD0⟩ := hv
  have hx := B.exec
  have hb := B.bytes
  have hr := B.returns
  have hts := atoms_spec (ws := w_Reader_octavesEnd) B.pre
  have hw := wall_of hts
  have hown : s.vm.findClass R_Reader = some m.cls := findClass_of_methodNamed B.named
  have hlocks := B.notSynchronized
  subst hsz
  have hD := hDC (sz := s.heap.size) hD0
  have hA : ∀ q : Nat, s.heap.size ≤ q → AC a s.heap.size q := fun q h => Or.inr h
  have hS : va_S (AC a s.heap.size) s.heap s.heap [] := va_S.rf
  have hl := lv_entry ([.ref (a 2), .int x1]) (n := 2) (Nat.le_of_ble_eq_true rfl)
  rw [lg_entry_eq]
  generalize (lg_sl ([.ref (a 2), .int x1]) ++ List.replicate (2 - (lg_sl ([.ref (a 2), .int x1])).length) Slot.unset).toArray = ls at hl ⊢
  have hl : lv_has ls 2 [(0, .ref (a 2)), (1, .int x1)] := hl
  unfold wp_Reader_octavesEnd at h
  refine lv_aload_n hx hb d_Reader_octavesEnd_0 rfl (lv_at hl 0 rfl) ?_
  refine gC_Reader_state hx hb hw hown hK hP (hw _ m_Reader_55) d_Reader_octavesEnd_1 ?_
  by_cases q0 : (I 14) = 11
  · have h := h.1 q0
    refine lv_tableIn (off := 28) (tgt := 32) hx hb d_Reader_octavesEnd_4 (by rw [q0]; decide) (by rw [q0]; decide) (by rw [q0]; rfl) rfl ?_
    refine lv_iload_n hx hb d_Reader_octavesEnd_32 rfl (lv_at hl 1 rfl) ?_
    refine lv_bipush (v := 39) hx hb d_Reader_octavesEnd_33 bp_39 ?_
    refine lv_icmp_eq (tgt := 48) hx hb d_Reader_octavesEnd_35 rfl (fun q => ?_) (fun q => ?_)
    · have h := h.1 q
      refine lv_iconst (v := 0) hx hb d_Reader_octavesEnd_48 ic_0 ?_
      exact W.zret hx hb hr (vz_n vz0) (fun t ht hW => ⟨⟨_, (I, A), rfl, h, endC_of ht hP⟩, hS.F ht⟩) hS.2.2 d_Reader_octavesEnd_49
    · have h := h.2 q
      refine lv_iload_n hx hb d_Reader_octavesEnd_38 rfl (lv_at hl 1 rfl) ?_
      refine lv_bipush (v := 44) hx hb d_Reader_octavesEnd_39 bp_44 ?_
      refine lv_icmp_eq (tgt := 48) hx hb d_Reader_octavesEnd_41 rfl (fun q => ?_) (fun q => ?_)
      · have h := h.1 q
        refine lv_iconst (v := 0) hx hb d_Reader_octavesEnd_48 ic_0 ?_
        exact W.zret hx hb hr (vz_n vz0) (fun t ht hW => ⟨⟨_, (I, A), rfl, h, endC_of ht hP⟩, hS.F ht⟩) hS.2.2 d_Reader_octavesEnd_49
      · have h := h.2 q
        refine lv_iconst (v := 1) hx hb d_Reader_octavesEnd_44 ic_1 ?_
        refine lv_goto (tgt := 49) hx hb d_Reader_octavesEnd_45 rfl ?_
        exact W.zret hx hb hr (vz_n vz1) (fun t ht hW => ⟨⟨_, (I, A), rfl, h, endC_of ht hP⟩, hS.F ht⟩) hS.2.2 d_Reader_octavesEnd_49
  by_cases q1 : (I 14) = 12
  · have h := h.2.1 q1
    refine lv_tableIn (off := 46) (tgt := 50) hx hb d_Reader_octavesEnd_4 (by rw [q1]; decide) (by rw [q1]; decide) (by rw [q1]; rfl) rfl ?_
    refine lv_iload_n hx hb d_Reader_octavesEnd_50 rfl (lv_at hl 1 rfl) ?_
    refine lv_bipush (v := 39) hx hb d_Reader_octavesEnd_51 bp_39 ?_
    refine lv_icmp_eq (tgt := 60) hx hb d_Reader_octavesEnd_53 rfl (fun q => ?_) (fun q => ?_)
    · have h := h.1 q
      refine lv_iconst (v := 0) hx hb d_Reader_octavesEnd_60 ic_0 ?_
      exact W.zret hx hb hr (vz_n vz0) (fun t ht hW => ⟨⟨_, (I, A), rfl, h, endC_of ht hP⟩, hS.F ht⟩) hS.2.2 d_Reader_octavesEnd_61
    · have h := h.2 q
      refine lv_iconst (v := 1) hx hb d_Reader_octavesEnd_56 ic_1 ?_
      refine lv_goto (tgt := 61) hx hb d_Reader_octavesEnd_57 rfl ?_
      exact W.zret hx hb hr (vz_n vz1) (fun t ht hW => ⟨⟨_, (I, A), rfl, h, endC_of ht hP⟩, hS.F ht⟩) hS.2.2 d_Reader_octavesEnd_61
  by_cases q2 : (I 14) = 13
  · have h := h.2.2.1 q2
    refine lv_tableIn (off := 58) (tgt := 62) hx hb d_Reader_octavesEnd_4 (by rw [q2]; decide) (by rw [q2]; decide) (by rw [q2]; rfl) rfl ?_
    refine lv_iload_n hx hb d_Reader_octavesEnd_62 rfl (lv_at hl 1 rfl) ?_
    refine lv_bipush (v := 44) hx hb d_Reader_octavesEnd_63 bp_44 ?_
    refine lv_icmp_eq (tgt := 72) hx hb d_Reader_octavesEnd_65 rfl (fun q => ?_) (fun q => ?_)
    · have h := h.1 q
      refine lv_iconst (v := 0) hx hb d_Reader_octavesEnd_72 ic_0 ?_
      exact W.zret hx hb hr (vz_n vz0) (fun t ht hW => ⟨⟨_, (I, A), rfl, h, endC_of ht hP⟩, hS.F ht⟩) hS.2.2 d_Reader_octavesEnd_73
    · have h := h.2 q
      refine lv_iconst (v := 1) hx hb d_Reader_octavesEnd_68 ic_1 ?_
      refine lv_goto (tgt := 73) hx hb d_Reader_octavesEnd_69 rfl ?_
      exact W.zret hx hb hr (vz_n vz1) (fun t ht hW => ⟨⟨_, (I, A), rfl, h, endC_of ht hP⟩, hS.F ht⟩) hS.2.2 d_Reader_octavesEnd_73
  · have h := h.2.2.2 q0 q1 q2
    have z0 := lv_neT (a := 11) q0 (by decide)
    have z1 := lv_neT (a := 12) q1 (by decide)
    have z2 := lv_neT (a := 13) q2 (by decide)
    refine lv_tableOut (tgt := 74) hx hb d_Reader_octavesEnd_4 (by omega) rfl ?_
    refine lv_iconst (v := 0) hx hb d_Reader_octavesEnd_74 ic_0 ?_
    exact W.zret hx hb hr (vz_n vz0) (fun t ht hW => ⟨⟨_, (I, A), rfl, h, endC_of ht hP⟩, hS.F ht⟩) hS.2.2 d_Reader_octavesEnd_75
theorem k_Reader_octavesEnd {p : Program} {l : Launch} {e : Env} {R : Room} {s : State} {m : MethodId} {args : Array Value} {below : List Frame} {meth : Method} {c : Code} {H : Heap} {locs : List Loc} {cells slots : Nat} {Q : State → Prop} {cc : ByteArray} {pc nL idx : Nat} {own : String} {ls : Array Slot} {D : va_G} {cA a : Nat → Nat} {AA : Nat → Prop} {I : Nat → Int32} {A : Nat → Nat → Int32} {post : Int32 → (Nat → Int32) → (Nat → Nat → Int32) → Prop} (x1 : Int32) {rest : List Value} (S : CallFix p m c cc nL s args WALL own) (hK : KC D cA a AA s) (hD : ∀ I A, va_D AA (wC cA a I A)) (hA : ∀ q : Nat, s.heap.size ≤ q → AA q) (hS : va_S AA s.heap H locs) (hP : va_P D cls (wC cA a I A) H) (hl1 : ls.size = nL) (hlink : (Cond.methodLink own idx y_Reader_octavesEnd).before args s = true) (hst : (rest.map fun v => v.category).sum ≤ 8) (hR : ({ frames := 0, cells := 0, slots := 0, locals := 0 } : Room).frames + 1 ≤ R.frames ∧ 8 + (2 + 11) + ({ frames := 0, cells := 0, slots := 0, locals := 0 } : Room).locals ≤ R.locals) (hcs : cells ≤ R.cells ∧ slots ≤ R.slots) (hdg : decode cc pc = .ok (.invokevirtual idx, 3)) (h : wp_Reader_octavesEnd x1 I A post) (kk : ∀ (r : Int32) (I1 : Nat → Int32) (A1 : Nat → Nat → Int32) (H1 : Heap) (locs1 : List Loc), post r I1 A1 → va_P D cls (wC cA a I1 A1) H1 → va_S AA s.heap H1 locs1 → W p l e R s m args below meth c H1 locs1 cells slots Q (F0 m (pc + 3) ls (.int r :: rest))) : W p l e R s m args below meth c H locs cells slots Q (F0 m pc ls (.int x1 :: .ref (a 2) :: rest)) :=
  va_calli (va_runV (As := [.int x1]) (rest := rest) S (c_Reader_octavesEnd l D cA a H.size x1 I A post h) ⟨callB_of 1 S.2.2.2.2 g_Reader_octavesEnd rfl rfl rfl (S.2.2.2.2 _ mi_Reader) hlink ⟨by decide, by decide, by decide +kernel⟩ hR, S.2.2.2.2 _ mn_Reader_octavesEnd, S.2.2.2.2 _ ms_Reader_octavesEnd⟩ (preCV hK hD hA hS hP 2 rfl rfl) rfl rfl hl1 rfl (lv_room hst) hdg hcs) hS (fun q _ z => AC_le hD hA hS q z) (fun q z => AC_le hD hA hS q z) (fun r u t H1 locs1 ht _ hp hB _ _ hS1 => kk r u.1 u.2 H1 locs1 hp (of_endC ht hB) hS1)
def wp_Reader_lengthEnds_69 (post : Int32 → (Nat → Int32) → (Nat → Nat → Int32) → Prop) (y1 : Int32) (s0 : Int32) (I : Nat → Int32) (A : Nat → Nat → Int32) : Prop := ((s0 = 0 → post 0 I A) ∧ (¬ s0 = 0 → (wp_Reader_isDigit y1 I A (fun r75 I75 A75 => ((r75 = 0 → ((y1 = 47 → post 0 I75 A75) ∧ (¬ y1 = 47 → post 1 I75 A75))) ∧ (¬ r75 = 0 → post 0 I75 A75))))))
def wp_Reader_lengthEnds (x1 : Int32) (I : Nat → Int32) (A : Nat → Nat → Int32) (post : Int32 → (Nat → Int32) → (Nat → Nat → Int32) → Prop) : Prop := (((I 14) = 16 → (wp_Reader_isDigit x1 I A (fun r19 I19 A19 => ((r19 = 0 → post 1 I19 A19) ∧ (¬ r19 = 0 → post 0 I19 A19))))) ∧ (¬ (I 14) = 16 → (((I 14) = 17 → (wp_Reader_isDigit x1 I A (fun r19 I19 A19 => ((r19 = 0 → post 1 I19 A19) ∧ (¬ r19 = 0 → post 0 I19 A19))))) ∧ (¬ (I 14) = 17 → (((I 14) = 14 → wp_Reader_lengthEnds_69 post x1 1 I A) ∧ (¬ (I 14) = 14 → (((I 14) = 15 → wp_Reader_lengthEnds_69 post x1 1 I A) ∧ (¬ (I 14) = 15 → (wp_Reader_octavesEnd x1 I A (fun r51 I51 A51 => ((r51 = 0 → wp_Reader_lengthEnds_69 post x1 0 I51 A51) ∧ (¬ r51 = 0 → (((I51 22) = 0 → wp_Reader_lengthEnds_69 post x1 1 I51 A51) ∧ (¬ (I51 22) = 0 → wp_Reader_lengthEnds_69 post x1 0 I51 A51))))))))))))))
theorem d_Reader_lengthEnds_0 : decode b_Reader_lengthEnds 0 = .ok (.aload_n 0, 1) := by decide +kernel
theorem d_Reader_lengthEnds_1 : decode b_Reader_lengthEnds 1 = .ok (.getfield 55, 3) := by decide +kernel
theorem d_Reader_lengthEnds_4 : decode b_Reader_lengthEnds 4 = .ok (.bipush 16, 2) := by decide +kernel
theorem d_Reader_lengthEnds_6 : decode b_Reader_lengthEnds 6 = .ok (.if_icmp .eq 12, 3) := by decide +kernel
theorem d_Reader_lengthEnds_9 : decode b_Reader_lengthEnds 9 = .ok (.aload_n 0, 1) := by decide +kernel
theorem d_Reader_lengthEnds_10 : decode b_Reader_lengthEnds 10 = .ok (.getfield 55, 3) := by decide +kernel
theorem d_Reader_lengthEnds_13 : decode b_Reader_lengthEnds 13 = .ok (.bipush 17, 2) := by decide +kernel
theorem d_Reader_lengthEnds_15 : decode b_Reader_lengthEnds 15 = .ok (.if_icmp .ne 16, 3) := by decide +kernel
theorem d_Reader_lengthEnds_18 : decode b_Reader_lengthEnds 18 = .ok (.iload_n 1, 1) := by decide +kernel
theorem d_Reader_lengthEnds_19 : decode b_Reader_lengthEnds 19 = .ok (.invokestatic 123, 3) := by decide +kernel
theorem d_Reader_lengthEnds_22 : decode b_Reader_lengthEnds 22 = .ok (.ifCond .ne 7, 3) := by decide +kernel
theorem d_Reader_lengthEnds_25 : decode b_Reader_lengthEnds 25 = .ok (.iconst 1, 1) := by decide +kernel
theorem d_Reader_lengthEnds_26 : decode b_Reader_lengthEnds 26 = .ok (.goto 4, 3) := by decide +kernel
theorem d_Reader_lengthEnds_29 : decode b_Reader_lengthEnds 29 = .ok (.iconst 0, 1) := by decide +kernel
theorem d_Reader_lengthEnds_30 : decode b_Reader_lengthEnds 30 = .ok (.ireturn, 1) := by decide +kernel
theorem d_Reader_lengthEnds_31 : decode b_Reader_lengthEnds 31 = .ok (.aload_n 0, 1) := by decide +kernel
theorem d_Reader_lengthEnds_32 : decode b_Reader_lengthEnds 32 = .ok (.getfield 55, 3) := by decide +kernel
theorem d_Reader_lengthEnds_35 : decode b_Reader_lengthEnds 35 = .ok (.bipush 14, 2) := by decide +kernel
theorem d_Reader_lengthEnds_37 : decode b_Reader_lengthEnds 37 = .ok (.if_icmp .eq 27, 3) := by decide +kernel
theorem d_Reader_lengthEnds_40 : decode b_Reader_lengthEnds 40 = .ok (.aload_n 0, 1) := by decide +kernel
theorem d_Reader_lengthEnds_41 : decode b_Reader_lengthEnds 41 = .ok (.getfield 55, 3) := by decide +kernel
theorem d_Reader_lengthEnds_44 : decode b_Reader_lengthEnds 44 = .ok (.bipush 15, 2) := by decide +kernel
theorem d_Reader_lengthEnds_46 : decode b_Reader_lengthEnds 46 = .ok (.if_icmp .eq 18, 3) := by decide +kernel
theorem d_Reader_lengthEnds_49 : decode b_Reader_lengthEnds 49 = .ok (.aload_n 0, 1) := by decide +kernel
theorem d_Reader_lengthEnds_50 : decode b_Reader_lengthEnds 50 = .ok (.iload_n 1, 1) := by decide +kernel
theorem d_Reader_lengthEnds_51 : decode b_Reader_lengthEnds 51 = .ok (.invokevirtual 98, 3) := by decide +kernel
theorem d_Reader_lengthEnds_54 : decode b_Reader_lengthEnds 54 = .ok (.ifCond .eq 14, 3) := by decide +kernel
theorem d_Reader_lengthEnds_57 : decode b_Reader_lengthEnds 57 = .ok (.aload_n 0, 1) := by decide +kernel
theorem d_Reader_lengthEnds_58 : decode b_Reader_lengthEnds 58 = .ok (.getfield 77, 3) := by decide +kernel
theorem d_Reader_lengthEnds_61 : decode b_Reader_lengthEnds 61 = .ok (.ifCond .ne 7, 3) := by decide +kernel
theorem d_Reader_lengthEnds_64 : decode b_Reader_lengthEnds 64 = .ok (.iconst 1, 1) := by decide +kernel
theorem d_Reader_lengthEnds_65 : decode b_Reader_lengthEnds 65 = .ok (.goto 4, 3) := by decide +kernel
theorem d_Reader_lengthEnds_68 : decode b_Reader_lengthEnds 68 = .ok (.iconst 0, 1) := by decide +kernel
theorem d_Reader_lengthEnds_69 : decode b_Reader_lengthEnds 69 = .ok (.istore_n 2, 1) := by decide +kernel
theorem d_Reader_lengthEnds_70 : decode b_Reader_lengthEnds 70 = .ok (.iload_n 2, 1) := by decide +kernel
theorem d_Reader_lengthEnds_71 : decode b_Reader_lengthEnds 71 = .ok (.ifCond .eq 20, 3) := by decide +kernel
theorem d_Reader_lengthEnds_74 : decode b_Reader_lengthEnds 74 = .ok (.iload_n 1, 1) := by decide +kernel
theorem d_Reader_lengthEnds_75 : decode b_Reader_lengthEnds 75 = .ok (.invokestatic 123, 3) := by decide +kernel
theorem d_Reader_lengthEnds_78 : decode b_Reader_lengthEnds 78 = .ok (.ifCond .ne 13, 3) := by decide +kernel
theorem d_Reader_lengthEnds_81 : decode b_Reader_lengthEnds 81 = .ok (.iload_n 1, 1) := by decide +kernel
theorem d_Reader_lengthEnds_82 : decode b_Reader_lengthEnds 82 = .ok (.bipush 47, 2) := by decide +kernel
theorem d_Reader_lengthEnds_84 : decode b_Reader_lengthEnds 84 = .ok (.if_icmp .eq 7, 3) := by decide +kernel
theorem d_Reader_lengthEnds_87 : decode b_Reader_lengthEnds 87 = .ok (.iconst 1, 1) := by decide +kernel
theorem d_Reader_lengthEnds_88 : decode b_Reader_lengthEnds 88 = .ok (.goto 4, 3) := by decide +kernel
theorem d_Reader_lengthEnds_91 : decode b_Reader_lengthEnds 91 = .ok (.iconst 0, 1) := by decide +kernel
theorem d_Reader_lengthEnds_92 : decode b_Reader_lengthEnds 92 = .ok (.ireturn, 1) := by decide +kernel
def w_Reader_lengthEnds : List Cond := .code y_Reader_lengthEnds b_Reader_lengthEnds 3 (some .boolean) :: WALL
theorem g_Reader_lengthEnds : GoodIn WALL w_Reader_lengthEnds := good_of mc_Reader_lengthEnds
set_option maxHeartbeats 4000000 in
set_option maxRecDepth 100000 in
theorem c_Reader_lengthEnds (l : Launch) (D : va_G) (cA a : Nat → Nat) (sz : Nat) (x1 : Int32) (I : Nat → Int32) (A : Nat → Nat → Int32) (post : Int32 → (Nat → Int32) → (Nat → Nat → Int32) → Prop) (h : wp_Reader_lengthEnds x1 I A post) : Met l y_Reader_lengthEnds w_Reader_lengthEnds ({ frames := 1, cells := 0, slots := 0, locals := 21 }) (va_Pc [.ref (a 2), .int x1] (PreC D cA a I A sz)) (va_Qi (fun r (u : StW) => post r u.1 u.2) (EndC D cA a) (AC a sz)) 0 0 (AC a sz) := by
  refine Met.ofW (cc := b_Reader_lengthEnds) (maxL := 3) (ret := (some .boolean)) (by decide) rfl ?_
  intro p e s m args below meth c s₁ B hml hv
  obtain ⟨rfl, hsz, hP, hK, hD0⟩ := hv
  have hx := B.exec
  have hb := B.bytes
  have hr := B.returns
  have hts := atoms_spec (ws := w_Reader_lengthEnds) B.pre
  have hw := wall_of hts
  have hown : s.vm.findClass R_Reader = some m.cls := findClass_of_methodNamed B.named
  have hlocks := B.notSynchronized
  subst hsz
  have hD := hDC (sz := s.heap.size) hD0
  have hA : ∀ q : Nat, s.heap.size ≤ q → AC a s.heap.size q := fun q h => Or.inr h
  have hS : va_S (AC a s.heap.size) s.heap s.heap [] := va_S.rf
  have j69 : ∀ (y1 : Int32) (s0 : Int32) (I : Nat → Int32) (A : Nat → Nat → Int32) (H : Heap) (locs : List Loc) (ls : Array Slot), wp_Reader_lengthEnds_69 post y1 s0 I A → va_P D cls (wC cA a I A) H → va_S (AC a s.heap.size) s.heap H locs → lv_has ls 3 [(1, .int y1)] → W p l e (headSpec w_Reader_lengthEnds ({ frames := 1, cells := 0, slots := 0, locals := 21 })).room s m [.ref (a 2), .int x1].toArray below meth c H locs 0 0 (MQ below (va_Qi (fun r (u : StW) => post r u.1 u.2) (EndC D cA a) (AC a s.heap.size)) [.ref (a 2), .int x1].toArray s 0 0 (AC a s.heap.size)) (F0 m 69 ls [.int s0]) := by
    intro y1 s0 I A H locs ls h hP hS hl
    unfold wp_Reader_lengthEnds_69 at h
    refine lv_istore_n (lv' := [(2, .int s0), (1, .int y1)]) hx hb d_Reader_lengthEnds_69 rfl hl (by decide) rfl (fun ls hl => ?_)
    refine lv_iload_n hx hb d_Reader_lengthEnds_70 rfl (lv_at hl 0 rfl) ?_
    refine lv_if_eq (tgt := 91) hx hb d_Reader_lengthEnds_71 rfl (fun q => ?_) (fun q => ?_)
    · have h := h.1 q
      refine lv_iconst (v := 0) hx hb d_Reader_lengthEnds_91 ic_0 ?_
      exact W.zret hx hb hr (vz_n vz0) (fun t ht hW => ⟨⟨_, (I, A), rfl, h, endC_of ht hP⟩, hS.F ht⟩) hS.2.2 d_Reader_lengthEnds_92
    · have h := h.2 q
      refine lv_iload_n hx hb d_Reader_lengthEnds_74 rfl (lv_at hl 1 rfl) ?_
      refine k_Reader_isDigit y1 (rest := []) ⟨hx, hb, hml, hown, hw⟩ hK hD hA hS hP hl.1 (hw _ m_Reader_123) (Nat.le_of_ble_eq_true rfl) ⟨Nat.le_of_ble_eq_true rfl, Nat.le_of_ble_eq_true rfl⟩ ⟨Nat.zero_le _, Nat.zero_le _⟩ d_Reader_lengthEnds_75 h (fun r75 I75 A75 H locs h hP hS => ?_)
      refine lv_if_ne (tgt := 91) hx hb d_Reader_lengthEnds_78 rfl (fun q => ?_) (fun q => ?_)
      · have h := h.2 q
        refine lv_iconst (v := 0) hx hb d_Reader_lengthEnds_91 ic_0 ?_
        exact W.zret hx hb hr (vz_n vz0) (fun t ht hW => ⟨⟨_, (I75, A75), rfl, h, endC_of ht hP⟩, hS.F ht⟩) hS.2.2 d_Reader_lengthEnds_92
      · have h := h.1 q
        refine lv_iload_n hx hb d_Reader_lengthEnds_81 rfl (lv_at hl 1 rfl) ?_
        refine lv_bipush (v := 47) hx hb d_Reader_lengthEnds_82 bp_47 ?_
        refine lv_icmp_eq (tgt := 91) hx hb d_Reader_lengthEnds_84 rfl (fun q => ?_) (fun q => ?_)
        · have h := h.1 q
          refine lv_iconst (v := 0) hx hb d_Reader_lengthEnds_91 ic_0 ?_
          exact W.zret hx hb hr (vz_n vz0) (fun t ht hW => ⟨⟨_, (I75, A75), rfl, h, endC_of ht hP⟩, hS.F ht⟩) hS.2.2 d_Reader_lengthEnds_92
        · have h := h.2 q
          refine lv_iconst (v := 1) hx hb d_Reader_lengthEnds_87 ic_1 ?_
          refine lv_goto (tgt := 92) hx hb d_Reader_lengthEnds_88 rfl ?_
          exact W.zret hx hb hr (vz_n vz1) (fun t ht hW => ⟨⟨_, (I75, A75), rfl, h, endC_of ht hP⟩, hS.F ht⟩) hS.2.2 d_Reader_lengthEnds_92
  have hl := lv_entry ([.ref (a 2), .int x1]) (n := 3) (Nat.le_of_ble_eq_true rfl)
  rw [lg_entry_eq]
  generalize (lg_sl ([.ref (a 2), .int x1]) ++ List.replicate (3 - (lg_sl ([.ref (a 2), .int x1])).length) Slot.unset).toArray = ls at hl ⊢
  have hl : lv_has ls 3 [(0, .ref (a 2)), (1, .int x1)] := hl
  unfold wp_Reader_lengthEnds at h
  refine lv_aload_n hx hb d_Reader_lengthEnds_0 rfl (lv_at hl 0 rfl) ?_
  refine gC_Reader_state hx hb hw hown hK hP (hw _ m_Reader_55) d_Reader_lengthEnds_1 ?_
  refine lv_bipush (v := 16) hx hb d_Reader_lengthEnds_4 bp_16 ?_
  refine lv_icmp_eq (tgt := 18) hx hb d_Reader_lengthEnds_6 rfl (fun q => ?_) (fun q => ?_)
  · have h := h.1 q
    refine lv_iload_n hx hb d_Reader_lengthEnds_18 rfl (lv_at hl 1 rfl) ?_
    refine k_Reader_isDigit x1 (rest := []) ⟨hx, hb, hml, hown, hw⟩ hK hD hA hS hP hl.1 (hw _ m_Reader_123) (Nat.le_of_ble_eq_true rfl) ⟨Nat.le_of_ble_eq_true rfl, Nat.le_of_ble_eq_true rfl⟩ ⟨Nat.zero_le _, Nat.zero_le _⟩ d_Reader_lengthEnds_19 h (fun r19 I19 A19 H locs h hP hS => ?_)
    refine lv_if_ne (tgt := 29) hx hb d_Reader_lengthEnds_22 rfl (fun q => ?_) (fun q => ?_)
    · have h := h.2 q
      refine lv_iconst (v := 0) hx hb d_Reader_lengthEnds_29 ic_0 ?_
      exact W.zret hx hb hr (vz_n vz0) (fun t ht hW => ⟨⟨_, (I19, A19), rfl, h, endC_of ht hP⟩, hS.F ht⟩) hS.2.2 d_Reader_lengthEnds_30
    · have h := h.1 q
      refine lv_iconst (v := 1) hx hb d_Reader_lengthEnds_25 ic_1 ?_
      refine lv_goto (tgt := 30) hx hb d_Reader_lengthEnds_26 rfl ?_
      exact W.zret hx hb hr (vz_n vz1) (fun t ht hW => ⟨⟨_, (I19, A19), rfl, h, endC_of ht hP⟩, hS.F ht⟩) hS.2.2 d_Reader_lengthEnds_30
  · have h := h.2 q
    refine lv_aload_n hx hb d_Reader_lengthEnds_9 rfl (lv_at hl 0 rfl) ?_
    refine gC_Reader_state hx hb hw hown hK hP (hw _ m_Reader_55) d_Reader_lengthEnds_10 ?_
    refine lv_bipush (v := 17) hx hb d_Reader_lengthEnds_13 bp_17 ?_
    refine lv_icmp_ne (tgt := 31) hx hb d_Reader_lengthEnds_15 rfl (fun q => ?_) (fun q => ?_)
    · have h := h.2 q
      refine lv_aload_n hx hb d_Reader_lengthEnds_31 rfl (lv_at hl 0 rfl) ?_
      refine gC_Reader_state hx hb hw hown hK hP (hw _ m_Reader_55) d_Reader_lengthEnds_32 ?_
      refine lv_bipush (v := 14) hx hb d_Reader_lengthEnds_35 bp_14 ?_
      refine lv_icmp_eq (tgt := 64) hx hb d_Reader_lengthEnds_37 rfl (fun q => ?_) (fun q => ?_)
      · have h := h.1 q
        refine lv_iconst (v := 1) hx hb d_Reader_lengthEnds_64 ic_1 ?_
        refine lv_goto (tgt := 69) hx hb d_Reader_lengthEnds_65 rfl ?_
        exact j69 x1 1 I A _ _ _ h hP hS (lv_sub hl [1] rfl)
      · have h := h.2 q
        refine lv_aload_n hx hb d_Reader_lengthEnds_40 rfl (lv_at hl 0 rfl) ?_
        refine gC_Reader_state hx hb hw hown hK hP (hw _ m_Reader_55) d_Reader_lengthEnds_41 ?_
        refine lv_bipush (v := 15) hx hb d_Reader_lengthEnds_44 bp_15 ?_
        refine lv_icmp_eq (tgt := 64) hx hb d_Reader_lengthEnds_46 rfl (fun q => ?_) (fun q => ?_)
        · have h := h.1 q
          refine lv_iconst (v := 1) hx hb d_Reader_lengthEnds_64 ic_1 ?_
          refine lv_goto (tgt := 69) hx hb d_Reader_lengthEnds_65 rfl ?_
          exact j69 x1 1 I A _ _ _ h hP hS (lv_sub hl [1] rfl)
        · have h := h.2 q
          refine lv_aload_n hx hb d_Reader_lengthEnds_49 rfl (lv_at hl 0 rfl) ?_
          refine lv_iload_n hx hb d_Reader_lengthEnds_50 rfl (lv_at hl 1 rfl) ?_
          refine k_Reader_octavesEnd x1 (rest := []) ⟨hx, hb, hml, hown, hw⟩ hK hD hA hS hP hl.1 (hw _ m_Reader_98) (Nat.le_of_ble_eq_true rfl) ⟨Nat.le_of_ble_eq_true rfl, Nat.le_of_ble_eq_true rfl⟩ ⟨Nat.zero_le _, Nat.zero_le _⟩ d_Reader_lengthEnds_51 h (fun r51 I51 A51 H locs h hP hS => ?_)
          refine lv_if_eq (tgt := 68) hx hb d_Reader_lengthEnds_54 rfl (fun q => ?_) (fun q => ?_)
          · have h := h.1 q
            refine lv_iconst (v := 0) hx hb d_Reader_lengthEnds_68 ic_0 ?_
            exact j69 x1 0 I51 A51 _ _ _ h hP hS (lv_sub hl [1] rfl)
          · have h := h.2 q
            refine lv_aload_n hx hb d_Reader_lengthEnds_57 rfl (lv_at hl 0 rfl) ?_
            refine gC_Reader_inChord hx hb hw hown hK hP (hw _ m_Reader_77) d_Reader_lengthEnds_58 ?_
            refine lv_if_ne (tgt := 68) hx hb d_Reader_lengthEnds_61 rfl (fun q => ?_) (fun q => ?_)
            · have h := h.2 q
              refine lv_iconst (v := 0) hx hb d_Reader_lengthEnds_68 ic_0 ?_
              exact j69 x1 0 I51 A51 _ _ _ h hP hS (lv_sub hl [1] rfl)
            · have h := h.1 q
              refine lv_iconst (v := 1) hx hb d_Reader_lengthEnds_64 ic_1 ?_
              refine lv_goto (tgt := 69) hx hb d_Reader_lengthEnds_65 rfl ?_
              exact j69 x1 1 I51 A51 _ _ _ h hP hS (lv_sub hl [1] rfl)
    · have h := h.1 q
      refine lv_iload_n hx hb d_Reader_lengthEnds_18 rfl (lv_at hl 1 rfl) ?_
      refine k_Reader_isDigit x1 (rest := []) ⟨hx, hb, hml, hown, hw⟩ hK hD hA hS hP hl.1 (hw _ m_Reader_123) (Nat.le_of_ble_eq_true rfl) ⟨Nat.le_of_ble_eq_true rfl, Nat.le_of_ble_eq_true rfl⟩ ⟨Nat.zero_le _, Nat.zero_le _⟩ d_Reader_lengthEnds_19 h (fun r19 I19 A19 H locs h hP hS => ?_)
      refine lv_if_ne (tgt := 29) hx hb d_Reader_lengthEnds_22 rfl (fun q => ?_) (fun q => ?_)
      · have h := h.2 q
        refine lv_iconst (v := 0) hx hb d_Reader_lengthEnds_29 ic_0 ?_
        exact W.zret hx hb hr (vz_n vz0) (fun t ht hW => ⟨⟨_, (I19, A19), rfl, h, endC_of ht hP⟩, hS.F ht⟩) hS.2.2 d_Reader_lengthEnds_30
      · have h := h.1 q
        refine lv_iconst (v := 1) hx hb d_Reader_lengthEnds_25 ic_1 ?_
        refine lv_goto (tgt := 30) hx hb d_Reader_lengthEnds_26 rfl ?_
        exact W.zret hx hb hr (vz_n vz1) (fun t ht hW => ⟨⟨_, (I19, A19), rfl, h, endC_of ht hP⟩, hS.F ht⟩) hS.2.2 d_Reader_lengthEnds_30
theorem k_Reader_lengthEnds {p : Program} {l : Launch} {e : Env} {R : Room} {s : State} {m : MethodId} {args : Array Value} {below : List Frame} {meth : Method} {c : Code} {H : Heap} {locs : List Loc} {cells slots : Nat} {Q : State → Prop} {cc : ByteArray} {pc nL idx : Nat} {own : String} {ls : Array Slot} {D : va_G} {cA a : Nat → Nat} {AA : Nat → Prop} {I : Nat → Int32} {A : Nat → Nat → Int32} {post : Int32 → (Nat → Int32) → (Nat → Nat → Int32) → Prop} (x1 : Int32) {rest : List Value} (S : CallFix p m c cc nL s args WALL own) (hK : KC D cA a AA s) (hD : ∀ I A, va_D AA (wC cA a I A)) (hA : ∀ q : Nat, s.heap.size ≤ q → AA q) (hS : va_S AA s.heap H locs) (hP : va_P D cls (wC cA a I A) H) (hl1 : ls.size = nL) (hlink : (Cond.methodLink own idx y_Reader_lengthEnds).before args s = true) (hst : (rest.map fun v => v.category).sum ≤ 8) (hR : ({ frames := 1, cells := 0, slots := 0, locals := 21 } : Room).frames + 1 ≤ R.frames ∧ 8 + (3 + 11) + ({ frames := 1, cells := 0, slots := 0, locals := 21 } : Room).locals ≤ R.locals) (hcs : cells ≤ R.cells ∧ slots ≤ R.slots) (hdg : decode cc pc = .ok (.invokevirtual idx, 3)) (h : wp_Reader_lengthEnds x1 I A post) (kk : ∀ (r : Int32) (I1 : Nat → Int32) (A1 : Nat → Nat → Int32) (H1 : Heap) (locs1 : List Loc), post r I1 A1 → va_P D cls (wC cA a I1 A1) H1 → va_S AA s.heap H1 locs1 → W p l e R s m args below meth c H1 locs1 cells slots Q (F0 m (pc + 3) ls (.int r :: rest))) : W p l e R s m args below meth c H locs cells slots Q (F0 m pc ls (.int x1 :: .ref (a 2) :: rest)) :=
  va_calli (va_runV (As := [.int x1]) (rest := rest) S (c_Reader_lengthEnds l D cA a H.size x1 I A post h) ⟨callB_of 1 S.2.2.2.2 g_Reader_lengthEnds rfl rfl rfl (S.2.2.2.2 _ mi_Reader) hlink ⟨by decide, by decide, by decide +kernel⟩ hR, S.2.2.2.2 _ mn_Reader_lengthEnds, S.2.2.2.2 _ ms_Reader_lengthEnds⟩ (preCV hK hD hA hS hP 2 rfl rfl) rfl rfl hl1 rfl (lv_room hst) hdg hcs) hS (fun q _ z => AC_le hD hA hS q z) (fun q z => AC_le hD hA hS q z) (fun r u t H1 locs1 ht _ hp hB _ _ hS1 => kk r u.1 u.2 H1 locs1 hp (of_endC ht hB) hS1)
def wp_ItemLength_inTicks_30 (post : Int32 → (Nat → Int32) → (Nat → Nat → Int32) → Prop) (y3 : Int32) (s0 : Int32) (s1 : Int32) (I : Nat → Int32) (A : Nat → Nat → Int32) : Prop := (∀ v31 : Int32, v31 = s1 * s0 → ((v31 = 0 → post 0 I A) ∧ (¬ v31 = 0 → (¬ v31 = 0 ∧ (((y3 - y3 / v31 * v31) = 0 → (¬ v31 = 0 ∧ (((y3 / v31) ≤ 1536 → (¬ v31 = 0 ∧ post (y3 / v31) I A)) ∧ (¬ (y3 / v31) ≤ 1536 → post 0 I A)))) ∧ (¬ (y3 - y3 / v31 * v31) = 0 → post 0 I A))))))
def wp_ItemLength_inTicks (x1 : Int32) (x2 : Int32) (I : Nat → Int32) (A : Nat → Nat → Int32) (post : Int32 → (Nat → Int32) → (Nat → Nat → Int32) → Prop) : Prop := ((x2 = 0 → (∀ v16 : Int32, v16 = ((I 9) * x1) * 1 → ((x2 = 0 → wp_ItemLength_inTicks_30 post v16 1 (I 10) I A) ∧ (¬ x2 = 0 → wp_ItemLength_inTicks_30 post v16 3 (I 10) I A)))) ∧ (¬ x2 = 0 → (∀ v16 : Int32, v16 = ((I 9) * x1) * 2 → ((x2 = 0 → wp_ItemLength_inTicks_30 post v16 1 (I 10) I A) ∧ (¬ x2 = 0 → wp_ItemLength_inTicks_30 post v16 3 (I 10) I A)))))
theorem d_ItemLength_inTicks_0 : decode b_ItemLength_inTicks 0 = .ok (.aload_n 0, 1) := by decide +kernel
theorem d_ItemLength_inTicks_1 : decode b_ItemLength_inTicks 1 = .ok (.getfield 7, 3) := by decide +kernel
theorem d_ItemLength_inTicks_4 : decode b_ItemLength_inTicks 4 = .ok (.iload_n 1, 1) := by decide +kernel
theorem d_ItemLength_inTicks_5 : decode b_ItemLength_inTicks 5 = .ok (.imul, 1) := by decide +kernel
theorem d_ItemLength_inTicks_6 : decode b_ItemLength_inTicks 6 = .ok (.iload_n 2, 1) := by decide +kernel
theorem d_ItemLength_inTicks_7 : decode b_ItemLength_inTicks 7 = .ok (.ifCond .eq 7, 3) := by decide +kernel
theorem d_ItemLength_inTicks_10 : decode b_ItemLength_inTicks 10 = .ok (.iconst 2, 1) := by decide +kernel
theorem d_ItemLength_inTicks_11 : decode b_ItemLength_inTicks 11 = .ok (.goto 4, 3) := by decide +kernel
theorem d_ItemLength_inTicks_14 : decode b_ItemLength_inTicks 14 = .ok (.iconst 1, 1) := by decide +kernel
theorem d_ItemLength_inTicks_15 : decode b_ItemLength_inTicks 15 = .ok (.imul, 1) := by decide +kernel
theorem d_ItemLength_inTicks_16 : decode b_ItemLength_inTicks 16 = .ok (.istore_n 3, 1) := by decide +kernel
theorem d_ItemLength_inTicks_17 : decode b_ItemLength_inTicks 17 = .ok (.aload_n 0, 1) := by decide +kernel
theorem d_ItemLength_inTicks_18 : decode b_ItemLength_inTicks 18 = .ok (.getfield 13, 3) := by decide +kernel
theorem d_ItemLength_inTicks_21 : decode b_ItemLength_inTicks 21 = .ok (.iload_n 2, 1) := by decide +kernel
theorem d_ItemLength_inTicks_22 : decode b_ItemLength_inTicks 22 = .ok (.ifCond .eq 7, 3) := by decide +kernel
theorem d_ItemLength_inTicks_25 : decode b_ItemLength_inTicks 25 = .ok (.iconst 3, 1) := by decide +kernel
theorem d_ItemLength_inTicks_26 : decode b_ItemLength_inTicks 26 = .ok (.goto 4, 3) := by decide +kernel
theorem d_ItemLength_inTicks_29 : decode b_ItemLength_inTicks 29 = .ok (.iconst 1, 1) := by decide +kernel
theorem d_ItemLength_inTicks_30 : decode b_ItemLength_inTicks 30 = .ok (.imul, 1) := by decide +kernel
theorem d_ItemLength_inTicks_31 : decode b_ItemLength_inTicks 31 = .ok (.istore 4, 2) := by decide +kernel
theorem d_ItemLength_inTicks_33 : decode b_ItemLength_inTicks 33 = .ok (.iload 4, 2) := by decide +kernel
theorem d_ItemLength_inTicks_35 : decode b_ItemLength_inTicks 35 = .ok (.ifCond .eq 20, 3) := by decide +kernel
theorem d_ItemLength_inTicks_38 : decode b_ItemLength_inTicks 38 = .ok (.iload_n 3, 1) := by decide +kernel
theorem d_ItemLength_inTicks_39 : decode b_ItemLength_inTicks 39 = .ok (.iload 4, 2) := by decide +kernel
theorem d_ItemLength_inTicks_41 : decode b_ItemLength_inTicks 41 = .ok (.irem, 1) := by decide +kernel
theorem d_ItemLength_inTicks_42 : decode b_ItemLength_inTicks 42 = .ok (.ifCond .ne 13, 3) := by decide +kernel
theorem d_ItemLength_inTicks_45 : decode b_ItemLength_inTicks 45 = .ok (.iload_n 3, 1) := by decide +kernel
theorem d_ItemLength_inTicks_46 : decode b_ItemLength_inTicks 46 = .ok (.iload 4, 2) := by decide +kernel
theorem d_ItemLength_inTicks_48 : decode b_ItemLength_inTicks 48 = .ok (.idiv, 1) := by decide +kernel
theorem d_ItemLength_inTicks_49 : decode b_ItemLength_inTicks 49 = .ok (.sipush 1536, 3) := by decide +kernel
theorem d_ItemLength_inTicks_52 : decode b_ItemLength_inTicks 52 = .ok (.if_icmp .le 5, 3) := by decide +kernel
theorem d_ItemLength_inTicks_55 : decode b_ItemLength_inTicks 55 = .ok (.iconst 0, 1) := by decide +kernel
theorem d_ItemLength_inTicks_56 : decode b_ItemLength_inTicks 56 = .ok (.ireturn, 1) := by decide +kernel
theorem d_ItemLength_inTicks_57 : decode b_ItemLength_inTicks 57 = .ok (.iload_n 3, 1) := by decide +kernel
theorem d_ItemLength_inTicks_58 : decode b_ItemLength_inTicks 58 = .ok (.iload 4, 2) := by decide +kernel
theorem d_ItemLength_inTicks_60 : decode b_ItemLength_inTicks 60 = .ok (.idiv, 1) := by decide +kernel
theorem d_ItemLength_inTicks_61 : decode b_ItemLength_inTicks 61 = .ok (.ireturn, 1) := by decide +kernel
def w_ItemLength_inTicks : List Cond := .code y_ItemLength_inTicks b_ItemLength_inTicks 5 (some .int) :: WALL
theorem g_ItemLength_inTicks : GoodIn WALL w_ItemLength_inTicks := good_of mc_ItemLength_inTicks
set_option maxHeartbeats 4000000 in
set_option maxRecDepth 100000 in
theorem c_ItemLength_inTicks (l : Launch) (D : va_G) (cA a : Nat → Nat) (sz : Nat) (x1 : Int32) (x2 : Int32) (I : Nat → Int32) (A : Nat → Nat → Int32) (post : Int32 → (Nat → Int32) → (Nat → Nat → Int32) → Prop) (h : wp_ItemLength_inTicks x1 x2 I A post) : Met l y_ItemLength_inTicks w_ItemLength_inTicks ({ frames := 0, cells := 0, slots := 0, locals := 0 }) (va_Pc [.ref (a 15), .int x1, .int x2] (PreC D cA a I A sz)) (va_Qi (fun r (u : StW) => post r u.1 u.2) (EndC D cA a) (AC a sz)) 0 0 (AC a sz) := by
  refine Met.ofW (cc := b_ItemLength_inTicks) (maxL := 5) (ret := (some .int)) (by decide) rfl ?_
  intro p e s m args below meth c s₁ B hml hv
  obtain ⟨rfl, hsz, hP, hK, hD0⟩ := hv
  have hx := B.exec
  have hb := B.bytes
  have hr := B.returns
  have hts := atoms_spec (ws := w_ItemLength_inTicks) B.pre
  have hw := wall_of hts
  have hown : s.vm.findClass R_ItemLength = some m.cls := findClass_of_methodNamed B.named
  have hlocks := B.notSynchronized
  subst hsz
  have hD := hDC (sz := s.heap.size) hD0
  have hA : ∀ q : Nat, s.heap.size ≤ q → AC a s.heap.size q := fun q h => Or.inr h
  have hS : va_S (AC a s.heap.size) s.heap s.heap [] := va_S.rf
  have j30 : ∀ (y3 : Int32) (s0 : Int32) (s1 : Int32) (I : Nat → Int32) (A : Nat → Nat → Int32) (H : Heap) (locs : List Loc) (ls : Array Slot), wp_ItemLength_inTicks_30 post y3 s0 s1 I A → va_P D cls (wC cA a I A) H → va_S (AC a s.heap.size) s.heap H locs → lv_has ls 5 [(3, .int y3)] → W p l e (headSpec w_ItemLength_inTicks ({ frames := 0, cells := 0, slots := 0, locals := 0 })).room s m [.ref (a 15), .int x1, .int x2].toArray below meth c H locs 0 0 (MQ below (va_Qi (fun r (u : StW) => post r u.1 u.2) (EndC D cA a) (AC a s.heap.size)) [.ref (a 15), .int x1, .int x2].toArray s 0 0 (AC a s.heap.size)) (F0 m 30 ls [.int s0, .int s1]) := by
    intro y3 s0 s1 I A H locs ls h hP hS hl
    unfold wp_ItemLength_inTicks_30 at h
    refine lv_imul hx hb d_ItemLength_inTicks_30 ?_
    refine lv_topi (fun v31 ev31 => ?_)
    have h := h v31 ev31
    refine lv_istore (lv' := [(4, .int v31), (3, .int y3)]) hx hb d_ItemLength_inTicks_31 hl (by decide) rfl (fun ls hl => ?_)
    refine lv_iload hx hb d_ItemLength_inTicks_33 (lv_at hl 0 rfl) ?_
    refine lv_if_eq (tgt := 55) hx hb d_ItemLength_inTicks_35 rfl (fun q => ?_) (fun q => ?_)
    · have h := h.1 q
      refine lv_iconst (v := 0) hx hb d_ItemLength_inTicks_55 ic_0 ?_
      exact W.iret hx hb hr (fun t ht hW => ⟨⟨_, (I, A), rfl, h, endC_of ht hP⟩, hS.F ht⟩) hS.2.2 d_ItemLength_inTicks_56
    · have h := h.2 q
      refine lv_iload_n hx hb d_ItemLength_inTicks_38 rfl (lv_at hl 1 rfl) ?_
      refine lv_iload hx hb d_ItemLength_inTicks_39 (lv_at hl 0 rfl) ?_
      obtain ⟨hne, h⟩ := h
      refine lv_irem hx hb d_ItemLength_inTicks_41 hne ?_
      refine lv_if_ne (tgt := 55) hx hb d_ItemLength_inTicks_42 rfl (fun q => ?_) (fun q => ?_)
      · have h := h.2 q
        refine lv_iconst (v := 0) hx hb d_ItemLength_inTicks_55 ic_0 ?_
        exact W.iret hx hb hr (fun t ht hW => ⟨⟨_, (I, A), rfl, h, endC_of ht hP⟩, hS.F ht⟩) hS.2.2 d_ItemLength_inTicks_56
      · have h := h.1 q
        refine lv_iload_n hx hb d_ItemLength_inTicks_45 rfl (lv_at hl 1 rfl) ?_
        refine lv_iload hx hb d_ItemLength_inTicks_46 (lv_at hl 0 rfl) ?_
        obtain ⟨hne, h⟩ := h
        refine lv_idiv hx hb d_ItemLength_inTicks_48 hne ?_
        refine lv_sipush (v := 1536) hx hb d_ItemLength_inTicks_49 sp_1536 ?_
        refine lv_icmp_le (tgt := 57) hx hb d_ItemLength_inTicks_52 rfl (fun q => ?_) (fun q => ?_)
        · have h := h.1 q
          refine lv_iload_n hx hb d_ItemLength_inTicks_57 rfl (lv_at hl 1 rfl) ?_
          refine lv_iload hx hb d_ItemLength_inTicks_58 (lv_at hl 0 rfl) ?_
          obtain ⟨hne, h⟩ := h
          refine lv_idiv hx hb d_ItemLength_inTicks_60 hne ?_
          exact W.iret hx hb hr (fun t ht hW => ⟨⟨_, (I, A), rfl, h, endC_of ht hP⟩, hS.F ht⟩) hS.2.2 d_ItemLength_inTicks_61
        · have h := h.2 q
          refine lv_iconst (v := 0) hx hb d_ItemLength_inTicks_55 ic_0 ?_
          exact W.iret hx hb hr (fun t ht hW => ⟨⟨_, (I, A), rfl, h, endC_of ht hP⟩, hS.F ht⟩) hS.2.2 d_ItemLength_inTicks_56
  have hl := lv_entry ([.ref (a 15), .int x1, .int x2]) (n := 5) (Nat.le_of_ble_eq_true rfl)
  rw [lg_entry_eq]
  generalize (lg_sl ([.ref (a 15), .int x1, .int x2]) ++ List.replicate (5 - (lg_sl ([.ref (a 15), .int x1, .int x2])).length) Slot.unset).toArray = ls at hl ⊢
  have hl : lv_has ls 5 [(0, .ref (a 15)), (1, .int x1), (2, .int x2)] := hl
  unfold wp_ItemLength_inTicks at h
  refine lv_aload_n hx hb d_ItemLength_inTicks_0 rfl (lv_at hl 0 rfl) ?_
  refine gC_ItemLength_top hx hb hw hown hK hP (hw _ m_ItemLength_7) d_ItemLength_inTicks_1 ?_
  refine lv_iload_n hx hb d_ItemLength_inTicks_4 rfl (lv_at hl 1 rfl) ?_
  refine lv_imul hx hb d_ItemLength_inTicks_5 ?_
  refine lv_iload_n hx hb d_ItemLength_inTicks_6 rfl (lv_at hl 2 rfl) ?_
  refine lv_if_eq (tgt := 14) hx hb d_ItemLength_inTicks_7 rfl (fun q => ?_) (fun q => ?_)
  · have h := h.1 q
    refine lv_iconst (v := 1) hx hb d_ItemLength_inTicks_14 ic_1 ?_
    refine lv_imul hx hb d_ItemLength_inTicks_15 ?_
    refine lv_topi (fun v16 ev16 => ?_)
    have h := h v16 ev16
    refine lv_istore_n (lv' := [(3, .int v16), (0, .ref (a 15)), (1, .int x1), (2, .int x2)]) hx hb d_ItemLength_inTicks_16 rfl hl (by decide) rfl (fun ls hl => ?_)
    refine lv_aload_n hx hb d_ItemLength_inTicks_17 rfl (lv_at hl 1 rfl) ?_
    refine gC_ItemLength_bottom hx hb hw hown hK hP (hw _ m_ItemLength_13) d_ItemLength_inTicks_18 ?_
    refine lv_iload_n hx hb d_ItemLength_inTicks_21 rfl (lv_at hl 3 rfl) ?_
    refine lv_if_eq (tgt := 29) hx hb d_ItemLength_inTicks_22 rfl (fun q => ?_) (fun q => ?_)
    · have h := h.1 q
      refine lv_iconst (v := 1) hx hb d_ItemLength_inTicks_29 ic_1 ?_
      exact j30 v16 1 (I 10) I A _ _ _ h hP hS (lv_sub hl [0] rfl)
    · have h := h.2 q
      refine lv_iconst (v := 3) hx hb d_ItemLength_inTicks_25 ic_3 ?_
      refine lv_goto (tgt := 30) hx hb d_ItemLength_inTicks_26 rfl ?_
      exact j30 v16 3 (I 10) I A _ _ _ h hP hS (lv_sub hl [0] rfl)
  · have h := h.2 q
    refine lv_iconst (v := 2) hx hb d_ItemLength_inTicks_10 ic_2 ?_
    refine lv_goto (tgt := 15) hx hb d_ItemLength_inTicks_11 rfl ?_
    refine lv_imul hx hb d_ItemLength_inTicks_15 ?_
    refine lv_topi (fun v16 ev16 => ?_)
    have h := h v16 ev16
    refine lv_istore_n (lv' := [(3, .int v16), (0, .ref (a 15)), (1, .int x1), (2, .int x2)]) hx hb d_ItemLength_inTicks_16 rfl hl (by decide) rfl (fun ls hl => ?_)
    refine lv_aload_n hx hb d_ItemLength_inTicks_17 rfl (lv_at hl 1 rfl) ?_
    refine gC_ItemLength_bottom hx hb hw hown hK hP (hw _ m_ItemLength_13) d_ItemLength_inTicks_18 ?_
    refine lv_iload_n hx hb d_ItemLength_inTicks_21 rfl (lv_at hl 3 rfl) ?_
    refine lv_if_eq (tgt := 29) hx hb d_ItemLength_inTicks_22 rfl (fun q => ?_) (fun q => ?_)
    · have h := h.1 q
      refine lv_iconst (v := 1) hx hb d_ItemLength_inTicks_29 ic_1 ?_
      exact j30 v16 1 (I 10) I A _ _ _ h hP hS (lv_sub hl [0] rfl)
    · have h := h.2 q
      refine lv_iconst (v := 3) hx hb d_ItemLength_inTicks_25 ic_3 ?_
      refine lv_goto (tgt := 30) hx hb d_ItemLength_inTicks_26 rfl ?_
      exact j30 v16 3 (I 10) I A _ _ _ h hP hS (lv_sub hl [0] rfl)
theorem k_ItemLength_inTicks {p : Program} {l : Launch} {e : Env} {R : Room} {s : State} {m : MethodId} {args : Array Value} {below : List Frame} {meth : Method} {c : Code} {H : Heap} {locs : List Loc} {cells slots : Nat} {Q : State → Prop} {cc : ByteArray} {pc nL idx : Nat} {own : String} {ls : Array Slot} {D : va_G} {cA a : Nat → Nat} {AA : Nat → Prop} {I : Nat → Int32} {A : Nat → Nat → Int32} {post : Int32 → (Nat → Int32) → (Nat → Nat → Int32) → Prop} (x1 : Int32) (x2 : Int32) {rest : List Value} (S : CallFix p m c cc nL s args WALL own) (hK : KC D cA a AA s) (hD : ∀ I A, va_D AA (wC cA a I A)) (hA : ∀ q : Nat, s.heap.size ≤ q → AA q) (hS : va_S AA s.heap H locs) (hP : va_P D cls (wC cA a I A) H) (hl1 : ls.size = nL) (hlink : (Cond.methodLink own idx y_ItemLength_inTicks).before args s = true) (hst : (rest.map fun v => v.category).sum ≤ 8) (hR : ({ frames := 0, cells := 0, slots := 0, locals := 0 } : Room).frames + 1 ≤ R.frames ∧ 8 + (5 + 11) + ({ frames := 0, cells := 0, slots := 0, locals := 0 } : Room).locals ≤ R.locals) (hcs : cells ≤ R.cells ∧ slots ≤ R.slots) (hdg : decode cc pc = .ok (.invokevirtual idx, 3)) (h : wp_ItemLength_inTicks x1 x2 I A post) (kk : ∀ (r : Int32) (I1 : Nat → Int32) (A1 : Nat → Nat → Int32) (H1 : Heap) (locs1 : List Loc), post r I1 A1 → va_P D cls (wC cA a I1 A1) H1 → va_S AA s.heap H1 locs1 → W p l e R s m args below meth c H1 locs1 cells slots Q (F0 m (pc + 3) ls (.int r :: rest))) : W p l e R s m args below meth c H locs cells slots Q (F0 m pc ls (.int x2 :: .int x1 :: .ref (a 15) :: rest)) :=
  va_calli (va_runV (As := [.int x1, .int x2]) (rest := rest) S (c_ItemLength_inTicks l D cA a H.size x1 x2 I A post h) ⟨callB_of 2 S.2.2.2.2 g_ItemLength_inTicks rfl rfl rfl (S.2.2.2.2 _ mi_ItemLength) hlink ⟨by decide, by decide, by decide +kernel⟩ hR, S.2.2.2.2 _ mn_ItemLength_inTicks, S.2.2.2.2 _ ms_ItemLength_inTicks⟩ (preCV hK hD hA hS hP 15 rfl rfl) rfl rfl hl1 rfl (lv_room hst) hdg hcs) hS (fun q _ z => AC_le hD hA hS q z) (fun q z => AC_le hD hA hS q z) (fun r u t H1 locs1 ht _ hp hB _ _ hS1 => kk r u.1 u.2 H1 locs1 hp (of_endC ht hB) hS1)

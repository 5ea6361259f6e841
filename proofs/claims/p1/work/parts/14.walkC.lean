def wp_Reader_checkMany_56 (post : (Nat → Int32) → (Nat → Nat → Int32) → Prop) (I : Nat → Int32) (A : Nat → Nat → Int32) : Prop := (wp_Reader_fail (-6) (I 15) I A (fun I63 A63 => post I63 A63))
def wp_Reader_checkMany_40 (post : (Nat → Int32) → (Nat → Nat → Int32) → Prop) (y1 : Int32) (I : Nat → Int32) (A : Nat → Nat → Int32) : Prop := (wp_Reader_opensChordNote y1 I A (fun r42 I42 A42 => ((r42 = 0 → post I42 A42) ∧ (¬ r42 = 0 → (((I42 18) = 4 → wp_Reader_checkMany_56 post I42 A42) ∧ (¬ (I42 18) = 4 → post I42 A42))))))
def wp_Reader_checkMany_20 (post : (Nat → Int32) → (Nat → Nat → Int32) → Prop) (y1 : Int32) (I : Nat → Int32) (A : Nat → Nat → Int32) : Prop := (wp_Reader_opensItem y1 I A (fun r22 I22 A22 => ((r22 = 0 → wp_Reader_checkMany_40 post y1 I22 A22) ∧ (¬ r22 = 0 → (((I22 1) = 48 → wp_Reader_checkMany_56 post I22 A22) ∧ (¬ (I22 1) = 48 → wp_Reader_checkMany_40 post y1 I22 A22))))))
def wp_Reader_checkMany (x1 : Int32) (I : Nat → Int32) (A : Nat → Nat → Int32) (post : (Nat → Int32) → (Nat → Nat → Int32) → Prop) : Prop := (wp_Reader_opensBar x1 I A (fun r2 I2 A2 => ((r2 = 0 → wp_Reader_checkMany_20 post x1 I2 A2) ∧ (¬ r2 = 0 → (((I2 0) = 8 → wp_Reader_checkMany_56 post I2 A2) ∧ (¬ (I2 0) = 8 → wp_Reader_checkMany_20 post x1 I2 A2))))))
theorem d_Reader_checkMany_0 : decode b_Reader_checkMany 0 = .ok (.aload_n 0, 1) := by decide +kernel
theorem d_Reader_checkMany_1 : decode b_Reader_checkMany 1 = .ok (.iload_n 1, 1) := by decide +kernel
theorem d_Reader_checkMany_2 : decode b_Reader_checkMany 2 = .ok (.invokevirtual 177, 3) := by decide +kernel
theorem d_Reader_checkMany_5 : decode b_Reader_checkMany 5 = .ok (.ifCond .eq 15, 3) := by decide +kernel
theorem d_Reader_checkMany_8 : decode b_Reader_checkMany 8 = .ok (.aload_n 0, 1) := by decide +kernel
theorem d_Reader_checkMany_9 : decode b_Reader_checkMany 9 = .ok (.getfield 14, 3) := by decide +kernel
theorem d_Reader_checkMany_12 : decode b_Reader_checkMany 12 = .ok (.getfield 144, 3) := by decide +kernel
theorem d_Reader_checkMany_15 : decode b_Reader_checkMany 15 = .ok (.bipush 8, 2) := by decide +kernel
theorem d_Reader_checkMany_17 : decode b_Reader_checkMany 17 = .ok (.if_icmp .eq 39, 3) := by decide +kernel
theorem d_Reader_checkMany_20 : decode b_Reader_checkMany 20 = .ok (.aload_n 0, 1) := by decide +kernel
theorem d_Reader_checkMany_21 : decode b_Reader_checkMany 21 = .ok (.iload_n 1, 1) := by decide +kernel
theorem d_Reader_checkMany_22 : decode b_Reader_checkMany 22 = .ok (.invokevirtual 174, 3) := by decide +kernel
theorem d_Reader_checkMany_25 : decode b_Reader_checkMany 25 = .ok (.ifCond .eq 15, 3) := by decide +kernel
theorem d_Reader_checkMany_28 : decode b_Reader_checkMany 28 = .ok (.aload_n 0, 1) := by decide +kernel
theorem d_Reader_checkMany_29 : decode b_Reader_checkMany 29 = .ok (.getfield 14, 3) := by decide +kernel
theorem d_Reader_checkMany_32 : decode b_Reader_checkMany 32 = .ok (.getfield 186, 3) := by decide +kernel
theorem d_Reader_checkMany_35 : decode b_Reader_checkMany 35 = .ok (.bipush 48, 2) := by decide +kernel
theorem d_Reader_checkMany_37 : decode b_Reader_checkMany 37 = .ok (.if_icmp .eq 19, 3) := by decide +kernel
theorem d_Reader_checkMany_40 : decode b_Reader_checkMany 40 = .ok (.aload_n 0, 1) := by decide +kernel
theorem d_Reader_checkMany_41 : decode b_Reader_checkMany 41 = .ok (.iload_n 1, 1) := by decide +kernel
theorem d_Reader_checkMany_42 : decode b_Reader_checkMany 42 = .ok (.invokevirtual 189, 3) := by decide +kernel
theorem d_Reader_checkMany_45 : decode b_Reader_checkMany 45 = .ok (.ifCond .eq 21, 3) := by decide +kernel
theorem d_Reader_checkMany_48 : decode b_Reader_checkMany 48 = .ok (.aload_n 0, 1) := by decide +kernel
theorem d_Reader_checkMany_49 : decode b_Reader_checkMany 49 = .ok (.getfield 64, 3) := by decide +kernel
theorem d_Reader_checkMany_52 : decode b_Reader_checkMany 52 = .ok (.iconst 4, 1) := by decide +kernel
theorem d_Reader_checkMany_53 : decode b_Reader_checkMany 53 = .ok (.if_icmp .ne 13, 3) := by decide +kernel
theorem d_Reader_checkMany_56 : decode b_Reader_checkMany 56 = .ok (.aload_n 0, 1) := by decide +kernel
theorem d_Reader_checkMany_57 : decode b_Reader_checkMany 57 = .ok (.bipush (-6), 2) := by decide +kernel
theorem d_Reader_checkMany_59 : decode b_Reader_checkMany 59 = .ok (.aload_n 0, 1) := by decide +kernel
theorem d_Reader_checkMany_60 : decode b_Reader_checkMany 60 = .ok (.getfield 80, 3) := by decide +kernel
theorem d_Reader_checkMany_63 : decode b_Reader_checkMany 63 = .ok (.invokevirtual 108, 3) := by decide +kernel
theorem d_Reader_checkMany_66 : decode b_Reader_checkMany 66 = .ok (.return_, 1) := by decide +kernel
def w_Reader_checkMany : List Cond := .code y_Reader_checkMany b_Reader_checkMany 2 none :: WALL
theorem g_Reader_checkMany : GoodIn WALL w_Reader_checkMany := good_of mc_Reader_checkMany
set_option maxHeartbeats 4000000 in
set_option maxRecDepth 100000 in
theorem c_Reader_checkMany (l : Launch) (D : va_G) (cA a : Nat → Nat) (sz : Nat) (x1 : Int32) (I : Nat → Int32) (A : Nat → Nat → Int32) (post : (Nat → Int32) → (Nat → Nat → Int32) → Prop) (h : wp_Reader_checkMany x1 I A post) : Met l y_Reader_checkMany w_Reader_checkMany ({ frames := 3, cells := 0, slots := 0, locals := 62 }) (va_Pc [.ref (a 2), .int x1] (PreC D cA a I A sz)) (va_Qv (fun (u : StW) => post u.1 u.2) (EndC D cA a) (AC a sz)) 0 0 (AC a sz) := by
  refine Met.ofW (cc := b_Reader_checkMany) (maxL := 2) (ret := none) (by decide) rfl ?_
  intro p e s m args below meth c s₁ B hml hv
  obtain ⟨rfl, hsz, hP, hK, hD0⟩ := hv
  have hx := B.exec
  have hb := B.bytes
  have hr := B.returns
  have hts := atoms_spec (ws := w_Reader_checkMany) B.pre
  have hw := wall_of hts
  have hown : s.vm.findClass R_Reader = some m.cls := findClass_of_methodNamed B.named
  have hlocks := B.notSynchronized
  subst hsz
  have hD := hDC (sz := s.heap.size) hD0
  have hA : ∀ q : Nat, s.heap.size ≤ q → AC a s.heap.size q := fun q h => Or.inr h
  have hS : va_S (AC a s.heap.size) s.heap s.heap [] := va_S.rf
  have j56 : ∀ (I : Nat → Int32) (A : Nat → Nat → Int32) (H : Heap) (locs : List Loc) (ls : Array Slot), wp_Reader_checkMany_56 post I A → va_P D cls (wC cA a I A) H → va_S (AC a s.heap.size) s.heap H locs → lv_has ls 2 [(0, .ref (a 2))] → W p l e (headSpec w_Reader_checkMany ({ frames := 3, cells := 0, slots := 0, locals := 62 })).room s m [.ref (a 2), .int x1].toArray below meth c H locs 0 0 (MQ below (va_Qv (fun (u : StW) => post u.1 u.2) (EndC D cA a) (AC a s.heap.size)) [.ref (a 2), .int x1].toArray s 0 0 (AC a s.heap.size)) (F0 m 56 ls []) := by
    intro I A H locs ls h hP hS hl
    unfold wp_Reader_checkMany_56 at h
    refine lv_aload_n hx hb d_Reader_checkMany_56 rfl (lv_at hl 0 rfl) ?_
    refine lv_bipush (v := (-6)) hx hb d_Reader_checkMany_57 bp_m6 ?_
    refine lv_aload_n hx hb d_Reader_checkMany_59 rfl (lv_at hl 0 rfl) ?_
    refine gC_Reader_spot hx hb hw hown hK hP (hw _ m_Reader_80) d_Reader_checkMany_60 ?_
    refine k_Reader_fail (-6) (I 15) (rest := []) ⟨hx, hb, hml, hown, hw⟩ hK hD hA hS hP hl.1 (hw _ m_Reader_108) (Nat.le_of_ble_eq_true rfl) ⟨Nat.le_of_ble_eq_true rfl, Nat.le_of_ble_eq_true rfl⟩ ⟨Nat.zero_le _, Nat.zero_le _⟩ d_Reader_checkMany_63 h (fun I63 A63 H locs h hP hS => ?_)
    exact W.vret hx hb hr (fun t ht hW => ⟨⟨(I63, A63), rfl, h, endC_of ht hP⟩, hS.F ht⟩) hS.2.2 d_Reader_checkMany_66
  have j40 : ∀ (y1 : Int32) (I : Nat → Int32) (A : Nat → Nat → Int32) (H : Heap) (locs : List Loc) (ls : Array Slot), wp_Reader_checkMany_40 post y1 I A → va_P D cls (wC cA a I A) H → va_S (AC a s.heap.size) s.heap H locs → lv_has ls 2 [(0, .ref (a 2)), (1, .int y1)] → W p l e (headSpec w_Reader_checkMany ({ frames := 3, cells := 0, slots := 0, locals := 62 })).room s m [.ref (a 2), .int x1].toArray below meth c H locs 0 0 (MQ below (va_Qv (fun (u : StW) => post u.1 u.2) (EndC D cA a) (AC a s.heap.size)) [.ref (a 2), .int x1].toArray s 0 0 (AC a s.heap.size)) (F0 m 40 ls []) := by
    intro y1 I A H locs ls h hP hS hl
    unfold wp_Reader_checkMany_40 at h
    refine lv_aload_n hx hb d_Reader_checkMany_40 rfl (lv_at hl 0 rfl) ?_
    refine lv_iload_n hx hb d_Reader_checkMany_41 rfl (lv_at hl 1 rfl) ?_
    refine k_Reader_opensChordNote y1 (rest := []) ⟨hx, hb, hml, hown, hw⟩ hK hD hA hS hP hl.1 (hw _ m_Reader_189) (Nat.le_of_ble_eq_true rfl) ⟨Nat.le_of_ble_eq_true rfl, Nat.le_of_ble_eq_true rfl⟩ ⟨Nat.zero_le _, Nat.zero_le _⟩ d_Reader_checkMany_42 h (fun r42 I42 A42 H locs h hP hS => ?_)
    refine lv_if_eq (tgt := 66) hx hb d_Reader_checkMany_45 rfl (fun q => ?_) (fun q => ?_)
    · have h := h.1 q
      exact W.vret hx hb hr (fun t ht hW => ⟨⟨(I42, A42), rfl, h, endC_of ht hP⟩, hS.F ht⟩) hS.2.2 d_Reader_checkMany_66
    · have h := h.2 q
      refine lv_aload_n hx hb d_Reader_checkMany_48 rfl (lv_at hl 0 rfl) ?_
      refine gC_Reader_chordNotes hx hb hw hown hK hP (hw _ m_Reader_64) d_Reader_checkMany_49 ?_
      refine lv_iconst (v := 4) hx hb d_Reader_checkMany_52 ic_4 ?_
      refine lv_icmp_ne (tgt := 66) hx hb d_Reader_checkMany_53 rfl (fun q => ?_) (fun q => ?_)
      · have h := h.2 q
        exact W.vret hx hb hr (fun t ht hW => ⟨⟨(I42, A42), rfl, h, endC_of ht hP⟩, hS.F ht⟩) hS.2.2 d_Reader_checkMany_66
      · have h := h.1 q
        exact j56 I42 A42 _ _ _ h hP hS (lv_sub hl [0] rfl)
  have j20 : ∀ (y1 : Int32) (I : Nat → Int32) (A : Nat → Nat → Int32) (H : Heap) (locs : List Loc) (ls : Array Slot), wp_Reader_checkMany_20 post y1 I A → va_P D cls (wC cA a I A) H → va_S (AC a s.heap.size) s.heap H locs → lv_has ls 2 [(0, .ref (a 2)), (1, .int y1)] → W p l e (headSpec w_Reader_checkMany ({ frames := 3, cells := 0, slots := 0, locals := 62 })).room s m [.ref (a 2), .int x1].toArray below meth c H locs 0 0 (MQ below (va_Qv (fun (u : StW) => post u.1 u.2) (EndC D cA a) (AC a s.heap.size)) [.ref (a 2), .int x1].toArray s 0 0 (AC a s.heap.size)) (F0 m 20 ls []) := by
    intro y1 I A H locs ls h hP hS hl
    unfold wp_Reader_checkMany_20 at h
    refine lv_aload_n hx hb d_Reader_checkMany_20 rfl (lv_at hl 0 rfl) ?_
    refine lv_iload_n hx hb d_Reader_checkMany_21 rfl (lv_at hl 1 rfl) ?_
    refine k_Reader_opensItem y1 (rest := []) ⟨hx, hb, hml, hown, hw⟩ hK hD hA hS hP hl.1 (hw _ m_Reader_174) (Nat.le_of_ble_eq_true rfl) ⟨Nat.le_of_ble_eq_true rfl, Nat.le_of_ble_eq_true rfl⟩ ⟨Nat.zero_le _, Nat.zero_le _⟩ d_Reader_checkMany_22 h (fun r22 I22 A22 H locs h hP hS => ?_)
    refine lv_if_eq (tgt := 40) hx hb d_Reader_checkMany_25 rfl (fun q => ?_) (fun q => ?_)
    · have h := h.1 q
      exact j40 y1 I22 A22 _ _ _ h hP hS (lv_sub hl [0, 1] rfl)
    · have h := h.2 q
      refine lv_aload_n hx hb d_Reader_checkMany_28 rfl (lv_at hl 0 rfl) ?_
      refine gC_Reader_tune hx hb hw hown hK hP (hw _ m_Reader_14) d_Reader_checkMany_29 ?_
      refine gC_Tune_itemCount hx hb hw hown hK hP (hw _ m_Reader_186) d_Reader_checkMany_32 ?_
      refine lv_bipush (v := 48) hx hb d_Reader_checkMany_35 bp_48 ?_
      refine lv_icmp_eq (tgt := 56) hx hb d_Reader_checkMany_37 rfl (fun q => ?_) (fun q => ?_)
      · have h := h.1 q
        exact j56 I22 A22 _ _ _ h hP hS (lv_sub hl [0] rfl)
      · have h := h.2 q
        exact j40 y1 I22 A22 _ _ _ h hP hS (lv_sub hl [0, 1] rfl)
  have hl := lv_entry ([.ref (a 2), .int x1]) (n := 2) (Nat.le_of_ble_eq_true rfl)
  rw [lg_entry_eq]
  generalize (lg_sl ([.ref (a 2), .int x1]) ++ List.replicate (2 - (lg_sl ([.ref (a 2), .int x1])).length) Slot.unset).toArray = ls at hl ⊢
  have hl : lv_has ls 2 [(0, .ref (a 2)), (1, .int x1)] := hl
  unfold wp_Reader_checkMany at h
  refine lv_aload_n hx hb d_Reader_checkMany_0 rfl (lv_at hl 0 rfl) ?_
  refine lv_iload_n hx hb d_Reader_checkMany_1 rfl (lv_at hl 1 rfl) ?_
  refine k_Reader_opensBar x1 (rest := []) ⟨hx, hb, hml, hown, hw⟩ hK hD hA hS hP hl.1 (hw _ m_Reader_177) (Nat.le_of_ble_eq_true rfl) ⟨Nat.le_of_ble_eq_true rfl, Nat.le_of_ble_eq_true rfl⟩ ⟨Nat.zero_le _, Nat.zero_le _⟩ d_Reader_checkMany_2 h (fun r2 I2 A2 H locs h hP hS => ?_)
  refine lv_if_eq (tgt := 20) hx hb d_Reader_checkMany_5 rfl (fun q => ?_) (fun q => ?_)
  · have h := h.1 q
    exact j20 x1 I2 A2 _ _ _ h hP hS (lv_sub hl [0, 1] rfl)
  · have h := h.2 q
    refine lv_aload_n hx hb d_Reader_checkMany_8 rfl (lv_at hl 0 rfl) ?_
    refine gC_Reader_tune hx hb hw hown hK hP (hw _ m_Reader_14) d_Reader_checkMany_9 ?_
    refine gC_Tune_barCount hx hb hw hown hK hP (hw _ m_Reader_144) d_Reader_checkMany_12 ?_
    refine lv_bipush (v := 8) hx hb d_Reader_checkMany_15 bp_8 ?_
    refine lv_icmp_eq (tgt := 56) hx hb d_Reader_checkMany_17 rfl (fun q => ?_) (fun q => ?_)
    · have h := h.1 q
      exact j56 I2 A2 _ _ _ h hP hS (lv_sub hl [0] rfl)
    · have h := h.2 q
      exact j20 x1 I2 A2 _ _ _ h hP hS (lv_sub hl [0, 1] rfl)
theorem k_Reader_checkMany {p : Program} {l : Launch} {e : Env} {R : Room} {s : State} {m : MethodId} {args : Array Value} {below : List Frame} {meth : Method} {c : Code} {H : Heap} {locs : List Loc} {cells slots : Nat} {Q : State → Prop} {cc : ByteArray} {pc nL idx : Nat} {own : String} {ls : Array Slot} {D : va_G} {cA a : Nat → Nat} {AA : Nat → Prop} {I : Nat → Int32} {A : Nat → Nat → Int32} {post : (Nat → Int32) → (Nat → Nat → Int32) → Prop} (x1 : Int32) {rest : List Value} (S : CallFix p m c cc nL s args WALL own) (hK : KC D cA a AA s) (hD : ∀ I A, va_D AA (wC cA a I A)) (hA : ∀ q : Nat, s.heap.size ≤ q → AA q) (hS : va_S AA s.heap H locs) (hP : va_P D cls (wC cA a I A) H) (hl1 : ls.size = nL) (hlink : (Cond.methodLink own idx y_Reader_checkMany).before args s = true) (hst : (rest.map fun v => v.category).sum ≤ 8) (hR : ({ frames := 3, cells := 0, slots := 0, locals := 62 } : Room).frames + 1 ≤ R.frames ∧ 8 + (2 + 11) + ({ frames := 3, cells := 0, slots := 0, locals := 62 } : Room).locals ≤ R.locals) (hcs : cells ≤ R.cells ∧ slots ≤ R.slots) (hdg : decode cc pc = .ok (.invokevirtual idx, 3)) (h : wp_Reader_checkMany x1 I A post) (kk : ∀ (I1 : Nat → Int32) (A1 : Nat → Nat → Int32) (H1 : Heap) (locs1 : List Loc), post I1 A1 → va_P D cls (wC cA a I1 A1) H1 → va_S AA s.heap H1 locs1 → W p l e R s m args below meth c H1 locs1 cells slots Q (F0 m (pc + 3) ls rest)) : W p l e R s m args below meth c H locs cells slots Q (F0 m pc ls (.int x1 :: .ref (a 2) :: rest)) :=
  va_callv (va_runV (As := [.int x1]) (rest := rest) S (c_Reader_checkMany l D cA a H.size x1 I A post h) ⟨callB_of 1 S.2.2.2.2 g_Reader_checkMany rfl rfl rfl (S.2.2.2.2 _ mi_Reader) hlink ⟨by decide, by decide, by decide +kernel⟩ hR, S.2.2.2.2 _ mn_Reader_checkMany, S.2.2.2.2 _ ms_Reader_checkMany⟩ (preCV hK hD hA hS hP 2 rfl rfl) rfl rfl hl1 rfl (lv_room hst) hdg hcs) hS (fun q _ z => AC_le hD hA hS q z) (fun q z => AC_le hD hA hS q z) (fun u t H1 locs1 ht _ hp hB _ _ hS1 => kk u.1 u.2 H1 locs1 hp (of_endC ht hB) hS1)
def wp_Tune_latestBarTicks (I : Nat → Int32) (A : Nat → Nat → Int32) (post : Int32 → (Nat → Int32) → (Nat → Nat → Int32) → Prop) : Prop := (((I 0) = 0 → post 0 I A) ∧ (¬ (I 0) = 0 → (vp_in ((I 0) - 1) 8 ∧ post (A 6 (((I 0) - 1).toNatClampNeg)) I A)))
theorem d_Tune_latestBarTicks_0 : decode b_Tune_latestBarTicks 0 = .ok (.aload_n 0, 1) := by decide +kernel
theorem d_Tune_latestBarTicks_1 : decode b_Tune_latestBarTicks 1 = .ok (.getfield 40, 3) := by decide +kernel
theorem d_Tune_latestBarTicks_4 : decode b_Tune_latestBarTicks 4 = .ok (.ifCond .ne 7, 3) := by decide +kernel
theorem d_Tune_latestBarTicks_7 : decode b_Tune_latestBarTicks 7 = .ok (.iconst 0, 1) := by decide +kernel
theorem d_Tune_latestBarTicks_8 : decode b_Tune_latestBarTicks 8 = .ok (.goto 14, 3) := by decide +kernel
theorem d_Tune_latestBarTicks_11 : decode b_Tune_latestBarTicks 11 = .ok (.aload_n 0, 1) := by decide +kernel
theorem d_Tune_latestBarTicks_12 : decode b_Tune_latestBarTicks 12 = .ok (.getfield 18, 3) := by decide +kernel
theorem d_Tune_latestBarTicks_15 : decode b_Tune_latestBarTicks 15 = .ok (.aload_n 0, 1) := by decide +kernel
theorem d_Tune_latestBarTicks_16 : decode b_Tune_latestBarTicks 16 = .ok (.getfield 40, 3) := by decide +kernel
theorem d_Tune_latestBarTicks_19 : decode b_Tune_latestBarTicks 19 = .ok (.iconst 1, 1) := by decide +kernel
theorem d_Tune_latestBarTicks_20 : decode b_Tune_latestBarTicks 20 = .ok (.isub, 1) := by decide +kernel
theorem d_Tune_latestBarTicks_21 : decode b_Tune_latestBarTicks 21 = .ok (.iaload, 1) := by decide +kernel
theorem d_Tune_latestBarTicks_22 : decode b_Tune_latestBarTicks 22 = .ok (.ireturn, 1) := by decide +kernel
def w_Tune_latestBarTicks : List Cond := .code y_Tune_latestBarTicks b_Tune_latestBarTicks 1 (some .int) :: WALL
theorem g_Tune_latestBarTicks : GoodIn WALL w_Tune_latestBarTicks := good_of mc_Tune_latestBarTicks
set_option maxHeartbeats 4000000 in
set_option maxRecDepth 100000 in
theorem c_Tune_latestBarTicks (l : Launch) (D : va_G) (cA a : Nat → Nat) (sz : Nat) (I : Nat → Int32) (A : Nat → Nat → Int32) (post : Int32 → (Nat → Int32) → (Nat → Nat → Int32) → Prop) (h : wp_Tune_latestBarTicks I A post) : Met l y_Tune_latestBarTicks w_Tune_latestBarTicks ({ frames := 0, cells := 0, slots := 0, locals := 0 }) (va_Pc [.ref (a 3)] (PreC D cA a I A sz)) (va_Qi (fun r (u : StW) => post r u.1 u.2) (EndC D cA a) (AC a sz)) 0 0 (AC a sz) := by
  refine Met.ofW (cc := b_Tune_latestBarTicks) (maxL := 1) (ret := (some .int)) (by decide) rfl ?_
  intro p e s m args below meth c s₁ B hml hv
  obtain ⟨rfl, hsz, hP, hK, hD0⟩ := hv
  have hx := B.exec
  have hb := B.bytes
  have hr := B.returns
  have hts := atoms_spec (ws := w_Tune_latestBarTicks) B.pre
  have hw := wall_of hts
  have hown : s.vm.findClass R_Tune = some m.cls := findClass_of_methodNamed B.named
  have hlocks := B.notSynchronized
  subst hsz
  have hD := hDC (sz := s.heap.size) hD0
  have hA : ∀ q : Nat, s.heap.size ≤ q → AC a s.heap.size q := fun q h => Or.inr h
  have hS : va_S (AC a s.heap.size) s.heap s.heap [] := va_S.rf
  have hl := lv_entry ([.ref (a 3)]) (n := 1) (Nat.le_of_ble_eq_true rfl)
  rw [lg_entry_eq]
  generalize (lg_sl ([.ref (a 3)]) ++ List.replicate (1 - (lg_sl ([.ref (a 3)])).length) Slot.unset).toArray = ls at hl ⊢
  have hl : lv_has ls 1 [(0, .ref (a 3))] := hl
  unfold wp_Tune_latestBarTicks at h
  refine lv_aload_n hx hb d_Tune_latestBarTicks_0 rfl (lv_at hl 0 rfl) ?_
  refine gC_Tune_barCount hx hb hw hown hK hP (hw _ m_Tune_40) d_Tune_latestBarTicks_1 ?_
  refine lv_if_ne (tgt := 11) hx hb d_Tune_latestBarTicks_4 rfl (fun q => ?_) (fun q => ?_)
  · have h := h.2 q
    refine lv_aload_n hx hb d_Tune_latestBarTicks_11 rfl (lv_at hl 0 rfl) ?_
    refine gC_Tune_barTicks hx hb hw hown hK hP (hw _ m_Tune_18) d_Tune_latestBarTicks_12 ?_
    refine lv_aload_n hx hb d_Tune_latestBarTicks_15 rfl (lv_at hl 0 rfl) ?_
    refine gC_Tune_barCount hx hb hw hown hK hP (hw _ m_Tune_40) d_Tune_latestBarTicks_16 ?_
    refine lv_iconst (v := 1) hx hb d_Tune_latestBarTicks_19 ic_1 ?_
    refine lv_isub hx hb d_Tune_latestBarTicks_20 ?_
    obtain ⟨hin, h⟩ := h
    refine lC6 hx hb hK hP hin d_Tune_latestBarTicks_21 ?_
    exact W.iret hx hb hr (fun t ht hW => ⟨⟨_, (I, A), rfl, h, endC_of ht hP⟩, hS.F ht⟩) hS.2.2 d_Tune_latestBarTicks_22
  · have h := h.1 q
    refine lv_iconst (v := 0) hx hb d_Tune_latestBarTicks_7 ic_0 ?_
    refine lv_goto (tgt := 22) hx hb d_Tune_latestBarTicks_8 rfl ?_
    exact W.iret hx hb hr (fun t ht hW => ⟨⟨_, (I, A), rfl, h, endC_of ht hP⟩, hS.F ht⟩) hS.2.2 d_Tune_latestBarTicks_22
theorem k_Tune_latestBarTicks {p : Program} {l : Launch} {e : Env} {R : Room} {s : State} {m : MethodId} {args : Array Value} {below : List Frame} {meth : Method} {c : Code} {H : Heap} {locs : List Loc} {cells slots : Nat} {Q : State → Prop} {cc : ByteArray} {pc nL idx : Nat} {own : String} {ls : Array Slot} {D : va_G} {cA a : Nat → Nat} {AA : Nat → Prop} {I : Nat → Int32} {A : Nat → Nat → Int32} {post : Int32 → (Nat → Int32) → (Nat → Nat → Int32) → Prop} {rest : List Value} (S : CallFix p m c cc nL s args WALL own) (hK : KC D cA a AA s) (hD : ∀ I A, va_D AA (wC cA a I A)) (hA : ∀ q : Nat, s.heap.size ≤ q → AA q) (hS : va_S AA s.heap H locs) (hP : va_P D cls (wC cA a I A) H) (hl1 : ls.size = nL) (hlink : (Cond.methodLink own idx y_Tune_latestBarTicks).before args s = true) (hst : (rest.map fun v => v.category).sum ≤ 8) (hR : ({ frames := 0, cells := 0, slots := 0, locals := 0 } : Room).frames + 1 ≤ R.frames ∧ 8 + (1 + 11) + ({ frames := 0, cells := 0, slots := 0, locals := 0 } : Room).locals ≤ R.locals) (hcs : cells ≤ R.cells ∧ slots ≤ R.slots) (hdg : decode cc pc = .ok (.invokevirtual idx, 3)) (h : wp_Tune_latestBarTicks I A post) (kk : ∀ (r : Int32) (I1 : Nat → Int32) (A1 : Nat → Nat → Int32) (H1 : Heap) (locs1 : List Loc), post r I1 A1 → va_P D cls (wC cA a I1 A1) H1 → va_S AA s.heap H1 locs1 → W p l e R s m args below meth c H1 locs1 cells slots Q (F0 m (pc + 3) ls (.int r :: rest))) : W p l e R s m args below meth c H locs cells slots Q (F0 m pc ls (.ref (a 3) :: rest)) :=
  va_calli (va_runV (As := []) (rest := rest) S (c_Tune_latestBarTicks l D cA a H.size I A post h) ⟨callB_of 0 S.2.2.2.2 g_Tune_latestBarTicks rfl rfl rfl (S.2.2.2.2 _ mi_Tune) hlink ⟨by decide, by decide, by decide +kernel⟩ hR, S.2.2.2.2 _ mn_Tune_latestBarTicks, S.2.2.2.2 _ ms_Tune_latestBarTicks⟩ (preCV hK hD hA hS hP 3 rfl rfl) rfl rfl hl1 rfl (lv_room hst) hdg hcs) hS (fun q _ z => AC_le hD hA hS q z) (fun q z => AC_le hD hA hS q z) (fun r u t H1 locs1 ht _ hp hB _ _ hS1 => kk r u.1 u.2 H1 locs1 hp (of_endC ht hB) hS1)
def wp_Reader_opensLine (x1 : Int32) (I : Nat → Int32) (A : Nat → Nat → Int32) (post : Int32 → (Nat → Int32) → (Nat → Nat → Int32) → Prop) : Prop := ((x1 = 1 → post 1 I A) ∧ (¬ x1 = 1 → ((x1 = 2 → post 1 I A) ∧ (¬ x1 = 2 → post 0 I A))))
theorem d_Reader_opensLine_0 : decode b_Reader_opensLine 0 = .ok (.iload_n 0, 1) := by decide +kernel
theorem d_Reader_opensLine_1 : decode b_Reader_opensLine 1 = .ok (.iconst 1, 1) := by decide +kernel
theorem d_Reader_opensLine_2 : decode b_Reader_opensLine 2 = .ok (.if_icmp .eq 8, 3) := by decide +kernel
theorem d_Reader_opensLine_5 : decode b_Reader_opensLine 5 = .ok (.iload_n 0, 1) := by decide +kernel
theorem d_Reader_opensLine_6 : decode b_Reader_opensLine 6 = .ok (.iconst 2, 1) := by decide +kernel
theorem d_Reader_opensLine_7 : decode b_Reader_opensLine 7 = .ok (.if_icmp .ne 7, 3) := by decide +kernel
theorem d_Reader_opensLine_10 : decode b_Reader_opensLine 10 = .ok (.iconst 1, 1) := by decide +kernel
theorem d_Reader_opensLine_11 : decode b_Reader_opensLine 11 = .ok (.goto 4, 3) := by decide +kernel
theorem d_Reader_opensLine_14 : decode b_Reader_opensLine 14 = .ok (.iconst 0, 1) := by decide +kernel
theorem d_Reader_opensLine_15 : decode b_Reader_opensLine 15 = .ok (.ireturn, 1) := by decide +kernel
def w_Reader_opensLine : List Cond := .code y_Reader_opensLine b_Reader_opensLine 1 (some .boolean) :: WALL
theorem g_Reader_opensLine : GoodIn WALL w_Reader_opensLine := good_of mc_Reader_opensLine
set_option maxHeartbeats 4000000 in
set_option maxRecDepth 100000 in
theorem c_Reader_opensLine (l : Launch) (D : va_G) (cA a : Nat → Nat) (sz : Nat) (x1 : Int32) (I : Nat → Int32) (A : Nat → Nat → Int32) (post : Int32 → (Nat → Int32) → (Nat → Nat → Int32) → Prop) (h : wp_Reader_opensLine x1 I A post) : Met l y_Reader_opensLine w_Reader_opensLine ({ frames := 0, cells := 0, slots := 0, locals := 0 }) (va_Pc [.int x1] (PreC D cA a I A sz)) (va_Qi (fun r (u : StW) => post r u.1 u.2) (EndC D cA a) (AC a sz)) 0 0 (AC a sz) := by
  refine Met.ofW (cc := b_Reader_opensLine) (maxL := 1) (ret := (some .boolean)) (by decide) rfl ?_
  intro p e s m args below meth c s₁ B hml hv
  obtain ⟨rfl, hsz, hP, hK, hD0⟩ := hv
  have hx := B.exec
  have hb := B.bytes
  have hr := B.returns
  have hts := atoms_spec (ws := w_Reader_opensLine) B.pre
  have hw := wall_of hts
  have hown : s.vm.findClass R_Reader = some m.cls := findClass_of_methodNamed B.named
  have hlocks := B.notSynchronized
  subst hsz
  have hD := hDC (sz := s.heap.size) hD0
  have hA : ∀ q : Nat, s.heap.size ≤ q → AC a s.heap.size q := fun q h => Or.inr h
  have hS : va_S (AC a s.heap.size) s.heap s.heap [] := va_S.rf
  have hl := lv_entry ([.int x1]) (n := 1) (Nat.le_of_ble_eq_true rfl)
  rw [lg_entry_eq]
  generalize (lg_sl ([.int x1]) ++ List.replicate (1 - (lg_sl ([.int x1])).length) Slot.unset).toArray = ls at hl ⊢
  have hl : lv_has ls 1 [(0, .int x1)] := hl
  unfold wp_Reader_opensLine at h
  refine lv_iload_n hx hb d_Reader_opensLine_0 rfl (lv_at hl 0 rfl) ?_
  refine lv_iconst (v := 1) hx hb d_Reader_opensLine_1 ic_1 ?_
  refine lv_icmp_eq (tgt := 10) hx hb d_Reader_opensLine_2 rfl (fun q => ?_) (fun q => ?_)
  · have h := h.1 q
    refine lv_iconst (v := 1) hx hb d_Reader_opensLine_10 ic_1 ?_
    refine lv_goto (tgt := 15) hx hb d_Reader_opensLine_11 rfl ?_
    exact W.zret hx hb hr (vz_n vz1) (fun t ht hW => ⟨⟨_, (I, A), rfl, h, endC_of ht hP⟩, hS.F ht⟩) hS.2.2 d_Reader_opensLine_15
  · have h := h.2 q
    refine lv_iload_n hx hb d_Reader_opensLine_5 rfl (lv_at hl 0 rfl) ?_
    refine lv_iconst (v := 2) hx hb d_Reader_opensLine_6 ic_2 ?_
    refine lv_icmp_ne (tgt := 14) hx hb d_Reader_opensLine_7 rfl (fun q => ?_) (fun q => ?_)
    · have h := h.2 q
      refine lv_iconst (v := 0) hx hb d_Reader_opensLine_14 ic_0 ?_
      exact W.zret hx hb hr (vz_n vz0) (fun t ht hW => ⟨⟨_, (I, A), rfl, h, endC_of ht hP⟩, hS.F ht⟩) hS.2.2 d_Reader_opensLine_15
    · have h := h.1 q
      refine lv_iconst (v := 1) hx hb d_Reader_opensLine_10 ic_1 ?_
      refine lv_goto (tgt := 15) hx hb d_Reader_opensLine_11 rfl ?_
      exact W.zret hx hb hr (vz_n vz1) (fun t ht hW => ⟨⟨_, (I, A), rfl, h, endC_of ht hP⟩, hS.F ht⟩) hS.2.2 d_Reader_opensLine_15
theorem k_Reader_opensLine {p : Program} {l : Launch} {e : Env} {R : Room} {s : State} {m : MethodId} {args : Array Value} {below : List Frame} {meth : Method} {c : Code} {H : Heap} {locs : List Loc} {cells slots : Nat} {Q : State → Prop} {cc : ByteArray} {pc nL idx : Nat} {own : String} {ls : Array Slot} {D : va_G} {cA a : Nat → Nat} {AA : Nat → Prop} {I : Nat → Int32} {A : Nat → Nat → Int32} {post : Int32 → (Nat → Int32) → (Nat → Nat → Int32) → Prop} (x1 : Int32) {rest : List Value} (S : CallFix p m c cc nL s args WALL own) (hK : KC D cA a AA s) (hD : ∀ I A, va_D AA (wC cA a I A)) (hA : ∀ q : Nat, s.heap.size ≤ q → AA q) (hS : va_S AA s.heap H locs) (hP : va_P D cls (wC cA a I A) H) (hl1 : ls.size = nL) (hlink : (Cond.methodLink own idx y_Reader_opensLine).before args s = true) (hst : (rest.map fun v => v.category).sum ≤ 8) (hR : ({ frames := 0, cells := 0, slots := 0, locals := 0 } : Room).frames + 1 ≤ R.frames ∧ 8 + (1 + 11) + ({ frames := 0, cells := 0, slots := 0, locals := 0 } : Room).locals ≤ R.locals) (hcs : cells ≤ R.cells ∧ slots ≤ R.slots) (hdg : decode cc pc = .ok (.invokestatic idx, 3)) (h : wp_Reader_opensLine x1 I A post) (kk : ∀ (r : Int32) (I1 : Nat → Int32) (A1 : Nat → Nat → Int32) (H1 : Heap) (locs1 : List Loc), post r I1 A1 → va_P D cls (wC cA a I1 A1) H1 → va_S AA s.heap H1 locs1 → W p l e R s m args below meth c H1 locs1 cells slots Q (F0 m (pc + 3) ls (.int r :: rest))) : W p l e R s m args below meth c H locs cells slots Q (F0 m pc ls (.int x1 :: rest)) :=
  va_calli (va_runS (As := [.int x1]) (rest := rest) S (c_Reader_opensLine l D cA a H.size x1 I A post h) ⟨callB_of 1 S.2.2.2.2 g_Reader_opensLine rfl rfl rfl (S.2.2.2.2 _ mi_Reader) hlink ⟨by decide, by decide, by decide +kernel⟩ hR, S.2.2.2.2 _ mn_Reader_opensLine⟩ (preCS hK hD hA hS hP) rfl rfl hl1 rfl (lv_room hst) hdg hcs) hS (fun q _ z => AC_le hD hA hS q z) (fun q z => AC_le hD hA hS q z) (fun r u t H1 locs1 ht _ hp hB _ _ hS1 => kk r u.1 u.2 H1 locs1 hp (of_endC ht hB) hS1)
def wp_Reader_checkBars_43 (post : (Nat → Int32) → (Nat → Nat → Int32) → Prop) (y1 : Int32) (I : Nat → Int32) (A : Nat → Nat → Int32) : Prop := (wp_Reader_opensLine y1 I A (fun r44 I44 A44 => ((r44 = 0 → post I44 A44) ∧ (¬ r44 = 0 → (wp_Tune_latestBarTicks I44 A44 (fun r54 I54 A54 => (((I54 12) < r54 → (wp_Reader_fail (-5) (I54 15) I54 A54 (fun I78 A78 => post I78 A78))) ∧ (¬ (I54 12) < r54 → (((I54 17) ≤ 0 → post I54 A54) ∧ (¬ (I54 17) ≤ 0 → (wp_Reader_fail (-5) (I54 15) I54 A54 (fun I78 A78 => post I78 A78))))))))))))
def wp_Reader_checkBars (x1 : Int32) (I : Nat → Int32) (A : Nat → Nat → Int32) (post : (Nat → Int32) → (Nat → Nat → Int32) → Prop) : Prop := (wp_Reader_opensBar x1 I A (fun r2 I2 A2 => ((r2 = 0 → wp_Reader_checkBars_43 post x1 I2 A2) ∧ (¬ r2 = 0 → (((I2 0) < 2 → wp_Reader_checkBars_43 post x1 I2 A2) ∧ (¬ (I2 0) < 2 → (wp_Tune_latestBarTicks I2 A2 (fun r23 I23 A23 => (((I23 12) ≤ r23 → wp_Reader_checkBars_43 post x1 I23 A23) ∧ (¬ (I23 12) ≤ r23 → (wp_Reader_fail (-5) (I23 16) I23 A23 (fun I40 A40 => wp_Reader_checkBars_43 post x1 I40 A40))))))))))))
theorem d_Reader_checkBars_0 : decode b_Reader_checkBars 0 = .ok (.aload_n 0, 1) := by decide +kernel
theorem d_Reader_checkBars_1 : decode b_Reader_checkBars 1 = .ok (.iload_n 1, 1) := by decide +kernel
theorem d_Reader_checkBars_2 : decode b_Reader_checkBars 2 = .ok (.invokevirtual 177, 3) := by decide +kernel
theorem d_Reader_checkBars_5 : decode b_Reader_checkBars 5 = .ok (.ifCond .eq 38, 3) := by decide +kernel
theorem d_Reader_checkBars_8 : decode b_Reader_checkBars 8 = .ok (.aload_n 0, 1) := by decide +kernel
theorem d_Reader_checkBars_9 : decode b_Reader_checkBars 9 = .ok (.getfield 14, 3) := by decide +kernel
theorem d_Reader_checkBars_12 : decode b_Reader_checkBars 12 = .ok (.getfield 144, 3) := by decide +kernel
theorem d_Reader_checkBars_15 : decode b_Reader_checkBars 15 = .ok (.iconst 2, 1) := by decide +kernel
theorem d_Reader_checkBars_16 : decode b_Reader_checkBars 16 = .ok (.if_icmp .lt 27, 3) := by decide +kernel
theorem d_Reader_checkBars_19 : decode b_Reader_checkBars 19 = .ok (.aload_n 0, 1) := by decide +kernel
theorem d_Reader_checkBars_20 : decode b_Reader_checkBars 20 = .ok (.getfield 14, 3) := by decide +kernel
theorem d_Reader_checkBars_23 : decode b_Reader_checkBars 23 = .ok (.invokevirtual 180, 3) := by decide +kernel
theorem d_Reader_checkBars_26 : decode b_Reader_checkBars 26 = .ok (.aload_n 0, 1) := by decide +kernel
theorem d_Reader_checkBars_27 : decode b_Reader_checkBars 27 = .ok (.getfield 32, 3) := by decide +kernel
theorem d_Reader_checkBars_30 : decode b_Reader_checkBars 30 = .ok (.if_icmp .ge 13, 3) := by decide +kernel
theorem d_Reader_checkBars_33 : decode b_Reader_checkBars 33 = .ok (.aload_n 0, 1) := by decide +kernel
theorem d_Reader_checkBars_34 : decode b_Reader_checkBars 34 = .ok (.bipush (-5), 2) := by decide +kernel
theorem d_Reader_checkBars_36 : decode b_Reader_checkBars 36 = .ok (.aload_n 0, 1) := by decide +kernel
theorem d_Reader_checkBars_37 : decode b_Reader_checkBars 37 = .ok (.getfield 58, 3) := by decide +kernel
theorem d_Reader_checkBars_40 : decode b_Reader_checkBars 40 = .ok (.invokevirtual 108, 3) := by decide +kernel
theorem d_Reader_checkBars_43 : decode b_Reader_checkBars 43 = .ok (.iload_n 1, 1) := by decide +kernel
theorem d_Reader_checkBars_44 : decode b_Reader_checkBars 44 = .ok (.invokestatic 183, 3) := by decide +kernel
theorem d_Reader_checkBars_47 : decode b_Reader_checkBars 47 = .ok (.ifCond .eq 34, 3) := by decide +kernel
theorem d_Reader_checkBars_50 : decode b_Reader_checkBars 50 = .ok (.aload_n 0, 1) := by decide +kernel
theorem d_Reader_checkBars_51 : decode b_Reader_checkBars 51 = .ok (.getfield 14, 3) := by decide +kernel
theorem d_Reader_checkBars_54 : decode b_Reader_checkBars 54 = .ok (.invokevirtual 180, 3) := by decide +kernel
theorem d_Reader_checkBars_57 : decode b_Reader_checkBars 57 = .ok (.aload_n 0, 1) := by decide +kernel
theorem d_Reader_checkBars_58 : decode b_Reader_checkBars 58 = .ok (.getfield 32, 3) := by decide +kernel
theorem d_Reader_checkBars_61 : decode b_Reader_checkBars 61 = .ok (.if_icmp .gt 10, 3) := by decide +kernel
theorem d_Reader_checkBars_64 : decode b_Reader_checkBars 64 = .ok (.aload_n 0, 1) := by decide +kernel
theorem d_Reader_checkBars_65 : decode b_Reader_checkBars 65 = .ok (.getfield 61, 3) := by decide +kernel
theorem d_Reader_checkBars_68 : decode b_Reader_checkBars 68 = .ok (.ifCond .le 13, 3) := by decide +kernel
theorem d_Reader_checkBars_71 : decode b_Reader_checkBars 71 = .ok (.aload_n 0, 1) := by decide +kernel
theorem d_Reader_checkBars_72 : decode b_Reader_checkBars 72 = .ok (.bipush (-5), 2) := by decide +kernel
theorem d_Reader_checkBars_74 : decode b_Reader_checkBars 74 = .ok (.aload_n 0, 1) := by decide +kernel
theorem d_Reader_checkBars_75 : decode b_Reader_checkBars 75 = .ok (.getfield 80, 3) := by decide +kernel
theorem d_Reader_checkBars_78 : decode b_Reader_checkBars 78 = .ok (.invokevirtual 108, 3) := by decide +kernel
theorem d_Reader_checkBars_81 : decode b_Reader_checkBars 81 = .ok (.return_, 1) := by decide +kernel
def w_Reader_checkBars : List Cond := .code y_Reader_checkBars b_Reader_checkBars 2 none :: WALL
theorem g_Reader_checkBars : GoodIn WALL w_Reader_checkBars := good_of mc_Reader_checkBars
set_option maxHeartbeats 4000000 in
set_option maxRecDepth 100000 in
theorem c_Reader_checkBars (l : Launch) (D : va_G) (cA a : Nat → Nat) (sz : Nat) (x1 : Int32) (I : Nat → Int32) (A : Nat → Nat → Int32) (post : (Nat → Int32) → (Nat → Nat → Int32) → Prop) (h : wp_Reader_checkBars x1 I A post) : Met l y_Reader_checkBars w_Reader_checkBars ({ frames := 3, cells := 0, slots := 0, locals := 62 }) (va_Pc [.ref (a 2), .int x1] (PreC D cA a I A sz)) (va_Qv (fun (u : StW) => post u.1 u.2) (EndC D cA a) (AC a sz)) 0 0 (AC a sz) := by
  refine Met.ofW (cc := b_Reader_checkBars) (maxL := 2) (ret := none) (by decide) rfl ?_
  intro p e s m args below meth c s₁ B hml hv
  obtain ⟨rfl, hsz, hP, hK, hD0⟩ := hv
  have hx := B.exec
  have hb := B.bytes
  have hr := B.returns
  have hts := atoms_spec (ws := w_Reader_checkBars) B.pre
  have hw := wall_of hts
  have hown : s.vm.findClass R_Reader = some m.cls := findClass_of_methodNamed B.named
  have hlocks := B.notSynchronized
  subst hsz
  have hD := hDC (sz := s.heap.size) hD0
  have hA : ∀ q : Nat, s.heap.size ≤ q → AC a s.heap.size q := fun q h => Or.inr h
  have hS : va_S (AC a s.heap.size) s.heap s.heap [] := va_S.rf
  have j43 : ∀ (y1 : Int32) (I : Nat → Int32) (A : Nat → Nat → Int32) (H : Heap) (locs : List Loc) (ls : Array Slot), wp_Reader_checkBars_43 post y1 I A → va_P D cls (wC cA a I A) H → va_S (AC a s.heap.size) s.heap H locs → lv_has ls 2 [(0, .ref (a 2)), (1, .int y1)] → W p l e (headSpec w_Reader_checkBars ({ frames := 3, cells := 0, slots := 0, locals := 62 })).room s m [.ref (a 2), .int x1].toArray below meth c H locs 0 0 (MQ below (va_Qv (fun (u : StW) => post u.1 u.2) (EndC D cA a) (AC a s.heap.size)) [.ref (a 2), .int x1].toArray s 0 0 (AC a s.heap.size)) (F0 m 43 ls []) := by
    intro y1 I A H locs ls h hP hS hl
    unfold wp_Reader_checkBars_43 at h
    refine lv_iload_n hx hb d_Reader_checkBars_43 rfl (lv_at hl 1 rfl) ?_
    refine k_Reader_opensLine y1 (rest := []) ⟨hx, hb, hml, hown, hw⟩ hK hD hA hS hP hl.1 (hw _ m_Reader_183) (Nat.le_of_ble_eq_true rfl) ⟨Nat.le_of_ble_eq_true rfl, Nat.le_of_ble_eq_true rfl⟩ ⟨Nat.zero_le _, Nat.zero_le _⟩ d_Reader_checkBars_44 h (fun r44 I44 A44 H locs h hP hS => ?_)
    refine lv_if_eq (tgt := 81) hx hb d_Reader_checkBars_47 rfl (fun q => ?_) (fun q => ?_)
    · have h := h.1 q
      exact W.vret hx hb hr (fun t ht hW => ⟨⟨(I44, A44), rfl, h, endC_of ht hP⟩, hS.F ht⟩) hS.2.2 d_Reader_checkBars_81
    · have h := h.2 q
      refine lv_aload_n hx hb d_Reader_checkBars_50 rfl (lv_at hl 0 rfl) ?_
      refine gC_Reader_tune hx hb hw hown hK hP (hw _ m_Reader_14) d_Reader_checkBars_51 ?_
      refine k_Tune_latestBarTicks (rest := []) ⟨hx, hb, hml, hown, hw⟩ hK hD hA hS hP hl.1 (hw _ m_Reader_180) (Nat.le_of_ble_eq_true rfl) ⟨Nat.le_of_ble_eq_true rfl, Nat.le_of_ble_eq_true rfl⟩ ⟨Nat.zero_le _, Nat.zero_le _⟩ d_Reader_checkBars_54 h (fun r54 I54 A54 H locs h hP hS => ?_)
      refine lv_aload_n hx hb d_Reader_checkBars_57 rfl (lv_at hl 0 rfl) ?_
      refine gC_Reader_fullBar hx hb hw hown hK hP (hw _ m_Reader_32) d_Reader_checkBars_58 ?_
      refine lv_icmp_gt (tgt := 71) hx hb d_Reader_checkBars_61 rfl (fun q => ?_) (fun q => ?_)
      · have h := h.1 q
        refine lv_aload_n hx hb d_Reader_checkBars_71 rfl (lv_at hl 0 rfl) ?_
        refine lv_bipush (v := (-5)) hx hb d_Reader_checkBars_72 bp_m5 ?_
        refine lv_aload_n hx hb d_Reader_checkBars_74 rfl (lv_at hl 0 rfl) ?_
        refine gC_Reader_spot hx hb hw hown hK hP (hw _ m_Reader_80) d_Reader_checkBars_75 ?_
        refine k_Reader_fail (-5) (I54 15) (rest := []) ⟨hx, hb, hml, hown, hw⟩ hK hD hA hS hP hl.1 (hw _ m_Reader_108) (Nat.le_of_ble_eq_true rfl) ⟨Nat.le_of_ble_eq_true rfl, Nat.le_of_ble_eq_true rfl⟩ ⟨Nat.zero_le _, Nat.zero_le _⟩ d_Reader_checkBars_78 h (fun I78 A78 H locs h hP hS => ?_)
        exact W.vret hx hb hr (fun t ht hW => ⟨⟨(I78, A78), rfl, h, endC_of ht hP⟩, hS.F ht⟩) hS.2.2 d_Reader_checkBars_81
      · have h := h.2 q
        refine lv_aload_n hx hb d_Reader_checkBars_64 rfl (lv_at hl 0 rfl) ?_
        refine gC_Reader_tripletLeft hx hb hw hown hK hP (hw _ m_Reader_61) d_Reader_checkBars_65 ?_
        refine lv_if_le (tgt := 81) hx hb d_Reader_checkBars_68 rfl (fun q => ?_) (fun q => ?_)
        · have h := h.1 q
          exact W.vret hx hb hr (fun t ht hW => ⟨⟨(I54, A54), rfl, h, endC_of ht hP⟩, hS.F ht⟩) hS.2.2 d_Reader_checkBars_81
        · have h := h.2 q
          refine lv_aload_n hx hb d_Reader_checkBars_71 rfl (lv_at hl 0 rfl) ?_
          refine lv_bipush (v := (-5)) hx hb d_Reader_checkBars_72 bp_m5 ?_
          refine lv_aload_n hx hb d_Reader_checkBars_74 rfl (lv_at hl 0 rfl) ?_
          refine gC_Reader_spot hx hb hw hown hK hP (hw _ m_Reader_80) d_Reader_checkBars_75 ?_
          refine k_Reader_fail (-5) (I54 15) (rest := []) ⟨hx, hb, hml, hown, hw⟩ hK hD hA hS hP hl.1 (hw _ m_Reader_108) (Nat.le_of_ble_eq_true rfl) ⟨Nat.le_of_ble_eq_true rfl, Nat.le_of_ble_eq_true rfl⟩ ⟨Nat.zero_le _, Nat.zero_le _⟩ d_Reader_checkBars_78 h (fun I78 A78 H locs h hP hS => ?_)
          exact W.vret hx hb hr (fun t ht hW => ⟨⟨(I78, A78), rfl, h, endC_of ht hP⟩, hS.F ht⟩) hS.2.2 d_Reader_checkBars_81
  have hl := lv_entry ([.ref (a 2), .int x1]) (n := 2) (Nat.le_of_ble_eq_true rfl)
  rw [lg_entry_eq]
  generalize (lg_sl ([.ref (a 2), .int x1]) ++ List.replicate (2 - (lg_sl ([.ref (a 2), .int x1])).length) Slot.unset).toArray = ls at hl ⊢
  have hl : lv_has ls 2 [(0, .ref (a 2)), (1, .int x1)] := hl
  unfold wp_Reader_checkBars at h
  refine lv_aload_n hx hb d_Reader_checkBars_0 rfl (lv_at hl 0 rfl) ?_
  refine lv_iload_n hx hb d_Reader_checkBars_1 rfl (lv_at hl 1 rfl) ?_
  refine k_Reader_opensBar x1 (rest := []) ⟨hx, hb, hml, hown, hw⟩ hK hD hA hS hP hl.1 (hw _ m_Reader_177) (Nat.le_of_ble_eq_true rfl) ⟨Nat.le_of_ble_eq_true rfl, Nat.le_of_ble_eq_true rfl⟩ ⟨Nat.zero_le _, Nat.zero_le _⟩ d_Reader_checkBars_2 h (fun r2 I2 A2 H locs h hP hS => ?_)
  refine lv_if_eq (tgt := 43) hx hb d_Reader_checkBars_5 rfl (fun q => ?_) (fun q => ?_)
  · have h := h.1 q
    exact j43 x1 I2 A2 _ _ _ h hP hS (lv_sub hl [0, 1] rfl)
  · have h := h.2 q
    refine lv_aload_n hx hb d_Reader_checkBars_8 rfl (lv_at hl 0 rfl) ?_
    refine gC_Reader_tune hx hb hw hown hK hP (hw _ m_Reader_14) d_Reader_checkBars_9 ?_
    refine gC_Tune_barCount hx hb hw hown hK hP (hw _ m_Reader_144) d_Reader_checkBars_12 ?_
    refine lv_iconst (v := 2) hx hb d_Reader_checkBars_15 ic_2 ?_
    refine lv_icmp_lt (tgt := 43) hx hb d_Reader_checkBars_16 rfl (fun q => ?_) (fun q => ?_)
    · have h := h.1 q
      exact j43 x1 I2 A2 _ _ _ h hP hS (lv_sub hl [0, 1] rfl)
    · have h := h.2 q
      refine lv_aload_n hx hb d_Reader_checkBars_19 rfl (lv_at hl 0 rfl) ?_
      refine gC_Reader_tune hx hb hw hown hK hP (hw _ m_Reader_14) d_Reader_checkBars_20 ?_
      refine k_Tune_latestBarTicks (rest := []) ⟨hx, hb, hml, hown, hw⟩ hK hD hA hS hP hl.1 (hw _ m_Reader_180) (Nat.le_of_ble_eq_true rfl) ⟨Nat.le_of_ble_eq_true rfl, Nat.le_of_ble_eq_true rfl⟩ ⟨Nat.zero_le _, Nat.zero_le _⟩ d_Reader_checkBars_23 h (fun r23 I23 A23 H locs h hP hS => ?_)
      refine lv_aload_n hx hb d_Reader_checkBars_26 rfl (lv_at hl 0 rfl) ?_
      refine gC_Reader_fullBar hx hb hw hown hK hP (hw _ m_Reader_32) d_Reader_checkBars_27 ?_
      refine lv_icmp_ge (tgt := 43) hx hb d_Reader_checkBars_30 rfl (fun q => ?_) (fun q => ?_)
      · have h := h.1 q
        exact j43 x1 I23 A23 _ _ _ h hP hS (lv_sub hl [0, 1] rfl)
      · have h := h.2 q
        refine lv_aload_n hx hb d_Reader_checkBars_33 rfl (lv_at hl 0 rfl) ?_
        refine lv_bipush (v := (-5)) hx hb d_Reader_checkBars_34 bp_m5 ?_
        refine lv_aload_n hx hb d_Reader_checkBars_36 rfl (lv_at hl 0 rfl) ?_
        refine gC_Reader_linePlace hx hb hw hown hK hP (hw _ m_Reader_58) d_Reader_checkBars_37 ?_
        refine k_Reader_fail (-5) (I23 16) (rest := []) ⟨hx, hb, hml, hown, hw⟩ hK hD hA hS hP hl.1 (hw _ m_Reader_108) (Nat.le_of_ble_eq_true rfl) ⟨Nat.le_of_ble_eq_true rfl, Nat.le_of_ble_eq_true rfl⟩ ⟨Nat.zero_le _, Nat.zero_le _⟩ d_Reader_checkBars_40 h (fun I40 A40 H locs h hP hS => ?_)
        exact j43 x1 I40 A40 _ _ _ h hP hS (lv_sub hl [0, 1] rfl)
theorem k_Reader_checkBars {p : Program} {l : Launch} {e : Env} {R : Room} {s : State} {m : MethodId} {args : Array Value} {below : List Frame} {meth : Method} {c : Code} {H : Heap} {locs : List Loc} {cells slots : Nat} {Q : State → Prop} {cc : ByteArray} {pc nL idx : Nat} {own : String} {ls : Array Slot} {D : va_G} {cA a : Nat → Nat} {AA : Nat → Prop} {I : Nat → Int32} {A : Nat → Nat → Int32} {post : (Nat → Int32) → (Nat → Nat → Int32) → Prop} (x1 : Int32) {rest : List Value} (S : CallFix p m c cc nL s args WALL own) (hK : KC D cA a AA s) (hD : ∀ I A, va_D AA (wC cA a I A)) (hA : ∀ q : Nat, s.heap.size ≤ q → AA q) (hS : va_S AA s.heap H locs) (hP : va_P D cls (wC cA a I A) H) (hl1 : ls.size = nL) (hlink : (Cond.methodLink own idx y_Reader_checkBars).before args s = true) (hst : (rest.map fun v => v.category).sum ≤ 8) (hR : ({ frames := 3, cells := 0, slots := 0, locals := 62 } : Room).frames + 1 ≤ R.frames ∧ 8 + (2 + 11) + ({ frames := 3, cells := 0, slots := 0, locals := 62 } : Room).locals ≤ R.locals) (hcs : cells ≤ R.cells ∧ slots ≤ R.slots) (hdg : decode cc pc = .ok (.invokevirtual idx, 3)) (h : wp_Reader_checkBars x1 I A post) (kk : ∀ (I1 : Nat → Int32) (A1 : Nat → Nat → Int32) (H1 : Heap) (locs1 : List Loc), post I1 A1 → va_P D cls (wC cA a I1 A1) H1 → va_S AA s.heap H1 locs1 → W p l e R s m args below meth c H1 locs1 cells slots Q (F0 m (pc + 3) ls rest)) : W p l e R s m args below meth c H locs cells slots Q (F0 m pc ls (.int x1 :: .ref (a 2) :: rest)) :=
  va_callv (va_runV (As := [.int x1]) (rest := rest) S (c_Reader_checkBars l D cA a H.size x1 I A post h) ⟨callB_of 1 S.2.2.2.2 g_Reader_checkBars rfl rfl rfl (S.2.2.2.2 _ mi_Reader) hlink ⟨by decide, by decide, by decide +kernel⟩ hR, S.2.2.2.2 _ mn_Reader_checkBars, S.2.2.2.2 _ ms_Reader_checkBars⟩ (preCV hK hD hA hS hP 2 rfl rfl) rfl rfl hl1 rfl (lv_room hst) hdg hcs) hS (fun q _ z => AC_le hD hA hS q z) (fun q z => AC_le hD hA hS q z) (fun u t H1 locs1 ht _ hp hB _ _ hS1 => kk u.1 u.2 H1 locs1 hp (of_endC ht hB) hS1)
def wp_Tune_openBar_62 (post : (Nat → Int32) → (Nat → Nat → Int32) → Prop) (s0 : Int32) (s1 : Int32) (I : Nat → Int32) (A : Nat → Nat → Int32) : Prop := (vp_in s1 8 ∧ (vp_in (I 0) 8 ∧ (vp_in (I 0) 8 ∧ (vp_in ((I 0) + 1) 9 ∧ post (upd I 0 ((I 0) + 1)) (upd2 (upd2 (upd2 (upd2 A 5 (s1.toNatClampNeg) s0) 6 ((I 0).toNatClampNeg) 0) 7 ((I 0).toNatClampNeg) 2) 8 (((I 0) + 1).toNatClampNeg) (I 1))))))
def wp_Tune_openBar_34 (post : (Nat → Int32) → (Nat → Nat → Int32) → Prop) (s0 : Int32) (I : Nat → Int32) (A : Nat → Nat → Int32) : Prop := ((s0 = 0 → wp_Tune_openBar_62 post 0 (I 0) I A) ∧ (¬ s0 = 0 → (vp_in ((I 0) - 1) 8 ∧ wp_Tune_openBar_62 post (A 5 (((I 0) - 1).toNatClampNeg)) (I 0) I A)))
def wp_Tune_openBar (I : Nat → Int32) (A : Nat → Nat → Int32) (post : (Nat → Int32) → (Nat → Nat → Int32) → Prop) : Prop := (((I 0) < 8 → (((I 0) ≤ 0 → wp_Tune_openBar_34 post 0 I A) ∧ (¬ (I 0) ≤ 0 → (vp_in (I 0) 9 ∧ (((A 4 ((I 0).toNatClampNeg)) = 0 → wp_Tune_openBar_34 post 1 I A) ∧ (¬ (A 4 ((I 0).toNatClampNeg)) = 0 → wp_Tune_openBar_34 post 0 I A)))))) ∧ (¬ (I 0) < 8 → post I A))
theorem d_Tune_openBar_0 : decode b_Tune_openBar 0 = .ok (.aload_n 0, 1) := by decide +kernel
theorem d_Tune_openBar_1 : decode b_Tune_openBar 1 = .ok (.getfield 40, 3) := by decide +kernel
theorem d_Tune_openBar_4 : decode b_Tune_openBar 4 = .ok (.bipush 8, 2) := by decide +kernel
theorem d_Tune_openBar_6 : decode b_Tune_openBar 6 = .ok (.if_icmp .lt 4, 3) := by decide +kernel
theorem d_Tune_openBar_9 : decode b_Tune_openBar 9 = .ok (.return_, 1) := by decide +kernel
theorem d_Tune_openBar_10 : decode b_Tune_openBar 10 = .ok (.aload_n 0, 1) := by decide +kernel
theorem d_Tune_openBar_11 : decode b_Tune_openBar 11 = .ok (.getfield 40, 3) := by decide +kernel
theorem d_Tune_openBar_14 : decode b_Tune_openBar 14 = .ok (.ifCond .le 19, 3) := by decide +kernel
theorem d_Tune_openBar_17 : decode b_Tune_openBar 17 = .ok (.aload_n 0, 1) := by decide +kernel
theorem d_Tune_openBar_18 : decode b_Tune_openBar 18 = .ok (.getfield 9, 3) := by decide +kernel
theorem d_Tune_openBar_21 : decode b_Tune_openBar 21 = .ok (.aload_n 0, 1) := by decide +kernel
theorem d_Tune_openBar_22 : decode b_Tune_openBar 22 = .ok (.getfield 40, 3) := by decide +kernel
theorem d_Tune_openBar_25 : decode b_Tune_openBar 25 = .ok (.iaload, 1) := by decide +kernel
theorem d_Tune_openBar_26 : decode b_Tune_openBar 26 = .ok (.ifCond .ne 7, 3) := by decide +kernel
theorem d_Tune_openBar_29 : decode b_Tune_openBar 29 = .ok (.iconst 1, 1) := by decide +kernel
theorem d_Tune_openBar_30 : decode b_Tune_openBar 30 = .ok (.goto 4, 3) := by decide +kernel
theorem d_Tune_openBar_33 : decode b_Tune_openBar 33 = .ok (.iconst 0, 1) := by decide +kernel
theorem d_Tune_openBar_34 : decode b_Tune_openBar 34 = .ok (.istore_n 1, 1) := by decide +kernel
theorem d_Tune_openBar_35 : decode b_Tune_openBar 35 = .ok (.aload_n 0, 1) := by decide +kernel
theorem d_Tune_openBar_36 : decode b_Tune_openBar 36 = .ok (.getfield 15, 3) := by decide +kernel
theorem d_Tune_openBar_39 : decode b_Tune_openBar 39 = .ok (.aload_n 0, 1) := by decide +kernel
theorem d_Tune_openBar_40 : decode b_Tune_openBar 40 = .ok (.getfield 40, 3) := by decide +kernel
theorem d_Tune_openBar_43 : decode b_Tune_openBar 43 = .ok (.iload_n 1, 1) := by decide +kernel
theorem d_Tune_openBar_44 : decode b_Tune_openBar 44 = .ok (.ifCond .eq 17, 3) := by decide +kernel
theorem d_Tune_openBar_47 : decode b_Tune_openBar 47 = .ok (.aload_n 0, 1) := by decide +kernel
theorem d_Tune_openBar_48 : decode b_Tune_openBar 48 = .ok (.getfield 15, 3) := by decide +kernel
theorem d_Tune_openBar_51 : decode b_Tune_openBar 51 = .ok (.aload_n 0, 1) := by decide +kernel
theorem d_Tune_openBar_52 : decode b_Tune_openBar 52 = .ok (.getfield 40, 3) := by decide +kernel
theorem d_Tune_openBar_55 : decode b_Tune_openBar 55 = .ok (.iconst 1, 1) := by decide +kernel
theorem d_Tune_openBar_56 : decode b_Tune_openBar 56 = .ok (.isub, 1) := by decide +kernel
theorem d_Tune_openBar_57 : decode b_Tune_openBar 57 = .ok (.iaload, 1) := by decide +kernel
theorem d_Tune_openBar_58 : decode b_Tune_openBar 58 = .ok (.goto 4, 3) := by decide +kernel
theorem d_Tune_openBar_61 : decode b_Tune_openBar 61 = .ok (.iconst 0, 1) := by decide +kernel
theorem d_Tune_openBar_62 : decode b_Tune_openBar 62 = .ok (.iastore, 1) := by decide +kernel
theorem d_Tune_openBar_63 : decode b_Tune_openBar 63 = .ok (.aload_n 0, 1) := by decide +kernel
theorem d_Tune_openBar_64 : decode b_Tune_openBar 64 = .ok (.getfield 18, 3) := by decide +kernel
theorem d_Tune_openBar_67 : decode b_Tune_openBar 67 = .ok (.aload_n 0, 1) := by decide +kernel
theorem d_Tune_openBar_68 : decode b_Tune_openBar 68 = .ok (.getfield 40, 3) := by decide +kernel
theorem d_Tune_openBar_71 : decode b_Tune_openBar 71 = .ok (.iconst 0, 1) := by decide +kernel
theorem d_Tune_openBar_72 : decode b_Tune_openBar 72 = .ok (.iastore, 1) := by decide +kernel
theorem d_Tune_openBar_73 : decode b_Tune_openBar 73 = .ok (.aload_n 0, 1) := by decide +kernel
theorem d_Tune_openBar_74 : decode b_Tune_openBar 74 = .ok (.getfield 21, 3) := by decide +kernel
theorem d_Tune_openBar_77 : decode b_Tune_openBar 77 = .ok (.aload_n 0, 1) := by decide +kernel
theorem d_Tune_openBar_78 : decode b_Tune_openBar 78 = .ok (.getfield 40, 3) := by decide +kernel
theorem d_Tune_openBar_81 : decode b_Tune_openBar 81 = .ok (.iconst 2, 1) := by decide +kernel
theorem d_Tune_openBar_82 : decode b_Tune_openBar 82 = .ok (.iastore, 1) := by decide +kernel
theorem d_Tune_openBar_83 : decode b_Tune_openBar 83 = .ok (.aload_n 0, 1) := by decide +kernel
theorem d_Tune_openBar_84 : decode b_Tune_openBar 84 = .ok (.dup, 1) := by decide +kernel
theorem d_Tune_openBar_85 : decode b_Tune_openBar 85 = .ok (.getfield 40, 3) := by decide +kernel
theorem d_Tune_openBar_88 : decode b_Tune_openBar 88 = .ok (.iconst 1, 1) := by decide +kernel
theorem d_Tune_openBar_89 : decode b_Tune_openBar 89 = .ok (.iadd, 1) := by decide +kernel
theorem d_Tune_openBar_90 : decode b_Tune_openBar 90 = .ok (.putfield 40, 3) := by decide +kernel
theorem d_Tune_openBar_93 : decode b_Tune_openBar 93 = .ok (.aload_n 0, 1) := by decide +kernel
theorem d_Tune_openBar_94 : decode b_Tune_openBar 94 = .ok (.getfield 24, 3) := by decide +kernel
theorem d_Tune_openBar_97 : decode b_Tune_openBar 97 = .ok (.aload_n 0, 1) := by decide +kernel
theorem d_Tune_openBar_98 : decode b_Tune_openBar 98 = .ok (.getfield 40, 3) := by decide +kernel
theorem d_Tune_openBar_101 : decode b_Tune_openBar 101 = .ok (.aload_n 0, 1) := by decide +kernel
theorem d_Tune_openBar_102 : decode b_Tune_openBar 102 = .ok (.getfield 44, 3) := by decide +kernel
theorem d_Tune_openBar_105 : decode b_Tune_openBar 105 = .ok (.iastore, 1) := by decide +kernel
theorem d_Tune_openBar_106 : decode b_Tune_openBar 106 = .ok (.return_, 1) := by decide +kernel
def w_Tune_openBar : List Cond := .code y_Tune_openBar b_Tune_openBar 2 none :: WALL
theorem g_Tune_openBar : GoodIn WALL w_Tune_openBar := good_of mc_Tune_openBar
set_option maxHeartbeats 4000000 in
set_option maxRecDepth 100000 in
theorem c_Tune_openBar (l : Launch) (D : va_G) (cA a : Nat → Nat) (sz : Nat) (I : Nat → Int32) (A : Nat → Nat → Int32) (post : (Nat → Int32) → (Nat → Nat → Int32) → Prop) (h : wp_Tune_openBar I A post) : Met l y_Tune_openBar w_Tune_openBar ({ frames := 0, cells := 0, slots := 0, locals := 0 }) (va_Pc [.ref (a 3)] (PreC D cA a I A sz)) (va_Qv (fun (u : StW) => post u.1 u.2) (EndC D cA a) (AC a sz)) 0 0 (AC a sz) := by
  refine Met.ofW (cc := b_Tune_openBar) (maxL := 2) (ret := none) (by decide) rfl ?_
  intro p e s m args below meth c s₁ B hml hv
  obtain ⟨rfl, hsz, hP, hK, hD0⟩ := hv
  have hx := B.exec
  have hb := B.bytes
  have hr := B.returns
  have hts := atoms_spec (ws := w_Tune_openBar) B.pre
  have hw := wall_of hts
  have hown : s.vm.findClass R_Tune = some m.cls := findClass_of_methodNamed B.named
  have hlocks := B.notSynchronized
  subst hsz
  have hD := hDC (sz := s.heap.size) hD0
  have hA : ∀ q : Nat, s.heap.size ≤ q → AC a s.heap.size q := fun q h => Or.inr h
  have hS : va_S (AC a s.heap.size) s.heap s.heap [] := va_S.rf
  have j62 : ∀ (s0 : Int32) (s1 : Int32) (I : Nat → Int32) (A : Nat → Nat → Int32) (H : Heap) (locs : List Loc) (ls : Array Slot), wp_Tune_openBar_62 post s0 s1 I A → va_P D cls (wC cA a I A) H → va_S (AC a s.heap.size) s.heap H locs → lv_has ls 2 [(0, .ref (a 3))] → W p l e (headSpec w_Tune_openBar ({ frames := 0, cells := 0, slots := 0, locals := 0 })).room s m [.ref (a 3)].toArray below meth c H locs 0 0 (MQ below (va_Qv (fun (u : StW) => post u.1 u.2) (EndC D cA a) (AC a s.heap.size)) [.ref (a 3)].toArray s 0 0 (AC a s.heap.size)) (F0 m 62 ls [.int s0, .int s1, .ref (a 5)]) := by
    intro s0 s1 I A H locs ls h hP hS hl
    unfold wp_Tune_openBar_62 at h
    obtain ⟨hin, h⟩ := h
    refine sC5 hx hb hK hD hS hP hin d_Tune_openBar_62 (fun H locs hP hS => ?_)
    refine lv_aload_n hx hb d_Tune_openBar_63 rfl (lv_at hl 0 rfl) ?_
    refine gC_Tune_barTicks hx hb hw hown hK hP (hw _ m_Tune_18) d_Tune_openBar_64 ?_
    refine lv_aload_n hx hb d_Tune_openBar_67 rfl (lv_at hl 0 rfl) ?_
    refine gC_Tune_barCount hx hb hw hown hK hP (hw _ m_Tune_40) d_Tune_openBar_68 ?_
    refine lv_iconst (v := 0) hx hb d_Tune_openBar_71 ic_0 ?_
    obtain ⟨hin, h⟩ := h
    refine sC6 hx hb hK hD hS hP hin d_Tune_openBar_72 (fun H locs hP hS => ?_)
    refine lv_aload_n hx hb d_Tune_openBar_73 rfl (lv_at hl 0 rfl) ?_
    refine gC_Tune_barWidth hx hb hw hown hK hP (hw _ m_Tune_21) d_Tune_openBar_74 ?_
    refine lv_aload_n hx hb d_Tune_openBar_77 rfl (lv_at hl 0 rfl) ?_
    refine gC_Tune_barCount hx hb hw hown hK hP (hw _ m_Tune_40) d_Tune_openBar_78 ?_
    refine lv_iconst (v := 2) hx hb d_Tune_openBar_81 ic_2 ?_
    obtain ⟨hin, h⟩ := h
    refine sC7 hx hb hK hD hS hP hin d_Tune_openBar_82 (fun H locs hP hS => ?_)
    refine lv_aload_n hx hb d_Tune_openBar_83 rfl (lv_at hl 0 rfl) ?_
    refine lv_dup hx hb d_Tune_openBar_84 rfl ?_
    refine gC_Tune_barCount hx hb hw hown hK hP (hw _ m_Tune_40) d_Tune_openBar_85 ?_
    refine lv_iconst (v := 1) hx hb d_Tune_openBar_88 ic_1 ?_
    refine lv_iadd hx hb d_Tune_openBar_89 ?_
    refine pC_Tune_barCount hx hb hw hown hK hD hS hP (hw _ m_Tune_40) d_Tune_openBar_90 (fun H locs hP hS => ?_)
    refine lv_aload_n hx hb d_Tune_openBar_93 rfl (lv_at hl 0 rfl) ?_
    refine gC_Tune_firstItem hx hb hw hown hK hP (hw _ m_Tune_24) d_Tune_openBar_94 ?_
    refine lv_aload_n hx hb d_Tune_openBar_97 rfl (lv_at hl 0 rfl) ?_
    refine gC_Tune_barCount hx hb hw hown hK hP (hw _ m_Tune_40) d_Tune_openBar_98 ?_
    refine lv_aload_n hx hb d_Tune_openBar_101 rfl (lv_at hl 0 rfl) ?_
    refine gC_Tune_itemCount hx hb hw hown hK hP (hw _ m_Tune_44) d_Tune_openBar_102 ?_
    obtain ⟨hin, h⟩ := h
    refine sC8 hx hb hK hD hS hP hin d_Tune_openBar_105 (fun H locs hP hS => ?_)
    exact W.vret hx hb hr (fun t ht hW => ⟨⟨((upd I 0 ((I 0) + 1)), (upd2 (upd2 (upd2 (upd2 A 5 (s1.toNatClampNeg) s0) 6 ((I 0).toNatClampNeg) 0) 7 ((I 0).toNatClampNeg) 2) 8 (((I 0) + 1).toNatClampNeg) (I 1))), rfl, h, endC_of ht hP⟩, hS.F ht⟩) hS.2.2 d_Tune_openBar_106
  have j34 : ∀ (s0 : Int32) (I : Nat → Int32) (A : Nat → Nat → Int32) (H : Heap) (locs : List Loc) (ls : Array Slot), wp_Tune_openBar_34 post s0 I A → va_P D cls (wC cA a I A) H → va_S (AC a s.heap.size) s.heap H locs → lv_has ls 2 [(0, .ref (a 3))] → W p l e (headSpec w_Tune_openBar ({ frames := 0, cells := 0, slots := 0, locals := 0 })).room s m [.ref (a 3)].toArray below meth c H locs 0 0 (MQ below (va_Qv (fun (u : StW) => post u.1 u.2) (EndC D cA a) (AC a s.heap.size)) [.ref (a 3)].toArray s 0 0 (AC a s.heap.size)) (F0 m 34 ls [.int s0]) := by
    intro s0 I A H locs ls h hP hS hl
    unfold wp_Tune_openBar_34 at h
    refine lv_istore_n (lv' := [(1, .int s0), (0, .ref (a 3))]) hx hb d_Tune_openBar_34 rfl hl (by decide) rfl (fun ls hl => ?_)
    refine lv_aload_n hx hb d_Tune_openBar_35 rfl (lv_at hl 1 rfl) ?_
    refine gC_Tune_ending hx hb hw hown hK hP (hw _ m_Tune_15) d_Tune_openBar_36 ?_
    refine lv_aload_n hx hb d_Tune_openBar_39 rfl (lv_at hl 1 rfl) ?_
    refine gC_Tune_barCount hx hb hw hown hK hP (hw _ m_Tune_40) d_Tune_openBar_40 ?_
    refine lv_iload_n hx hb d_Tune_openBar_43 rfl (lv_at hl 0 rfl) ?_
    refine lv_if_eq (tgt := 61) hx hb d_Tune_openBar_44 rfl (fun q => ?_) (fun q => ?_)
    · have h := h.1 q
      refine lv_iconst (v := 0) hx hb d_Tune_openBar_61 ic_0 ?_
      exact j62 0 (I 0) I A _ _ _ h hP hS (lv_sub hl [1] rfl)
    · have h := h.2 q
      refine lv_aload_n hx hb d_Tune_openBar_47 rfl (lv_at hl 1 rfl) ?_
      refine gC_Tune_ending hx hb hw hown hK hP (hw _ m_Tune_15) d_Tune_openBar_48 ?_
      refine lv_aload_n hx hb d_Tune_openBar_51 rfl (lv_at hl 1 rfl) ?_
      refine gC_Tune_barCount hx hb hw hown hK hP (hw _ m_Tune_40) d_Tune_openBar_52 ?_
      refine lv_iconst (v := 1) hx hb d_Tune_openBar_55 ic_1 ?_
      refine lv_isub hx hb d_Tune_openBar_56 ?_
      obtain ⟨hin, h⟩ := h
      refine lC5 hx hb hK hP hin d_Tune_openBar_57 ?_
      refine lv_goto (tgt := 62) hx hb d_Tune_openBar_58 rfl ?_
      exact j62 (A 5 (((I 0) - 1).toNatClampNeg)) (I 0) I A _ _ _ h hP hS (lv_sub hl [1] rfl)
  have hl := lv_entry ([.ref (a 3)]) (n := 2) (Nat.le_of_ble_eq_true rfl)
  rw [lg_entry_eq]
  generalize (lg_sl ([.ref (a 3)]) ++ List.replicate (2 - (lg_sl ([.ref (a 3)])).length) Slot.unset).toArray = ls at hl ⊢
  have hl : lv_has ls 2 [(0, .ref (a 3))] := hl
  unfold wp_Tune_openBar at h
  refine lv_aload_n hx hb d_Tune_openBar_0 rfl (lv_at hl 0 rfl) ?_
  refine gC_Tune_barCount hx hb hw hown hK hP (hw _ m_Tune_40) d_Tune_openBar_1 ?_
  refine lv_bipush (v := 8) hx hb d_Tune_openBar_4 bp_8 ?_
  refine lv_icmp_lt (tgt := 10) hx hb d_Tune_openBar_6 rfl (fun q => ?_) (fun q => ?_)
  · have h := h.1 q
    refine lv_aload_n hx hb d_Tune_openBar_10 rfl (lv_at hl 0 rfl) ?_
    refine gC_Tune_barCount hx hb hw hown hK hP (hw _ m_Tune_40) d_Tune_openBar_11 ?_
    refine lv_if_le (tgt := 33) hx hb d_Tune_openBar_14 rfl (fun q => ?_) (fun q => ?_)
    · have h := h.1 q
      refine lv_iconst (v := 0) hx hb d_Tune_openBar_33 ic_0 ?_
      exact j34 0 I A _ _ _ h hP hS (lv_sub hl [0] rfl)
    · have h := h.2 q
      refine lv_aload_n hx hb d_Tune_openBar_17 rfl (lv_at hl 0 rfl) ?_
      refine gC_Tune_line hx hb hw hown hK hP (hw _ m_Tune_9) d_Tune_openBar_18 ?_
      refine lv_aload_n hx hb d_Tune_openBar_21 rfl (lv_at hl 0 rfl) ?_
      refine gC_Tune_barCount hx hb hw hown hK hP (hw _ m_Tune_40) d_Tune_openBar_22 ?_
      obtain ⟨hin, h⟩ := h
      refine lC4 hx hb hK hP hin d_Tune_openBar_25 ?_
      refine lv_if_ne (tgt := 33) hx hb d_Tune_openBar_26 rfl (fun q => ?_) (fun q => ?_)
      · have h := h.2 q
        refine lv_iconst (v := 0) hx hb d_Tune_openBar_33 ic_0 ?_
        exact j34 0 I A _ _ _ h hP hS (lv_sub hl [0] rfl)
      · have h := h.1 q
        refine lv_iconst (v := 1) hx hb d_Tune_openBar_29 ic_1 ?_
        refine lv_goto (tgt := 34) hx hb d_Tune_openBar_30 rfl ?_
        exact j34 1 I A _ _ _ h hP hS (lv_sub hl [0] rfl)
  · have h := h.2 q
    exact W.vret hx hb hr (fun t ht hW => ⟨⟨(I, A), rfl, h, endC_of ht hP⟩, hS.F ht⟩) hS.2.2 d_Tune_openBar_9
theorem k_Tune_openBar {p : Program} {l : Launch} {e : Env} {R : Room} {s : State} {m : MethodId} {args : Array Value} {below : List Frame} {meth : Method} {c : Code} {H : Heap} {locs : List Loc} {cells slots : Nat} {Q : State → Prop} {cc : ByteArray} {pc nL idx : Nat} {own : String} {ls : Array Slot} {D : va_G} {cA a : Nat → Nat} {AA : Nat → Prop} {I : Nat → Int32} {A : Nat → Nat → Int32} {post : (Nat → Int32) → (Nat → Nat → Int32) → Prop} {rest : List Value} (S : CallFix p m c cc nL s args WALL own) (hK : KC D cA a AA s) (hD : ∀ I A, va_D AA (wC cA a I A)) (hA : ∀ q : Nat, s.heap.size ≤ q → AA q) (hS : va_S AA s.heap H locs) (hP : va_P D cls (wC cA a I A) H) (hl1 : ls.size = nL) (hlink : (Cond.methodLink own idx y_Tune_openBar).before args s = true) (hst : (rest.map fun v => v.category).sum ≤ 8) (hR : ({ frames := 0, cells := 0, slots := 0, locals := 0 } : Room).frames + 1 ≤ R.frames ∧ 8 + (2 + 11) + ({ frames := 0, cells := 0, slots := 0, locals := 0 } : Room).locals ≤ R.locals) (hcs : cells ≤ R.cells ∧ slots ≤ R.slots) (hdg : decode cc pc = .ok (.invokevirtual idx, 3)) (h : wp_Tune_openBar I A post) (kk : ∀ (I1 : Nat → Int32) (A1 : Nat → Nat → Int32) (H1 : Heap) (locs1 : List Loc), post I1 A1 → va_P D cls (wC cA a I1 A1) H1 → va_S AA s.heap H1 locs1 → W p l e R s m args below meth c H1 locs1 cells slots Q (F0 m (pc + 3) ls rest)) : W p l e R s m args below meth c H locs cells slots Q (F0 m pc ls (.ref (a 3) :: rest)) :=
  va_callv (va_runV (As := []) (rest := rest) S (c_Tune_openBar l D cA a H.size I A post h) ⟨callB_of 0 S.2.2.2.2 g_Tune_openBar rfl rfl rfl (S.2.2.2.2 _ mi_Tune) hlink ⟨by decide, by decide, by decide +kernel⟩ hR, S.2.2.2.2 _ mn_Tune_openBar, S.2.2.2.2 _ ms_Tune_openBar⟩ (preCV hK hD hA hS hP 3 rfl rfl) rfl rfl hl1 rfl (lv_room hst) hdg hcs) hS (fun q _ z => AC_le hD hA hS q z) (fun q z => AC_le hD hA hS q z) (fun u t H1 locs1 ht _ hp hB _ _ hS1 => kk u.1 u.2 H1 locs1 hp (of_endC ht hB) hS1)
def wp_Arrays_fill_5 (post : (Nat → Int32) → (Nat → Nat → Int32) → Prop) : Nat → Int32 → Int32 → Int32 → (Nat → Int32) → (Nat → Nat → Int32) → Prop
  | 0, _, _, _, _, _ => False
  | n + 1, y1, y2, y3, I, A => ((y3 ≤ y2 → post I A) ∧ (¬ y3 ≤ y2 → (vp_in y2 132 ∧ (∀ v14 : Int32, v14 = y2 + 1 → wp_Arrays_fill_5 post n y1 v14 y3 I (upd2 A 14 (y2.toNatClampNeg) y1)))))
def wp_Arrays_fill (x1 : Int32) (I : Nat → Int32) (A : Nat → Nat → Int32) (post : (Nat → Int32) → (Nat → Nat → Int32) → Prop) : Prop := (∃ n5, wp_Arrays_fill_5 post n5 x1 0 132 I A)
theorem d_Arrays_fill_0 : decode b_Arrays_fill 0 = .ok (.iconst 0, 1) := by decide +kernel
theorem d_Arrays_fill_1 : decode b_Arrays_fill 1 = .ok (.istore_n 2, 1) := by decide +kernel
theorem d_Arrays_fill_2 : decode b_Arrays_fill 2 = .ok (.aload_n 0, 1) := by decide +kernel
theorem d_Arrays_fill_3 : decode b_Arrays_fill 3 = .ok (.arraylength, 1) := by decide +kernel
theorem d_Arrays_fill_4 : decode b_Arrays_fill 4 = .ok (.istore_n 3, 1) := by decide +kernel
theorem d_Arrays_fill_5 : decode b_Arrays_fill 5 = .ok (.iload_n 2, 1) := by decide +kernel
theorem d_Arrays_fill_6 : decode b_Arrays_fill 6 = .ok (.iload_n 3, 1) := by decide +kernel
theorem d_Arrays_fill_7 : decode b_Arrays_fill 7 = .ok (.if_icmp .ge 13, 3) := by decide +kernel
theorem d_Arrays_fill_10 : decode b_Arrays_fill 10 = .ok (.aload_n 0, 1) := by decide +kernel
theorem d_Arrays_fill_11 : decode b_Arrays_fill 11 = .ok (.iload_n 2, 1) := by decide +kernel
theorem d_Arrays_fill_12 : decode b_Arrays_fill 12 = .ok (.iload_n 1, 1) := by decide +kernel
theorem d_Arrays_fill_13 : decode b_Arrays_fill 13 = .ok (.iastore, 1) := by decide +kernel
theorem d_Arrays_fill_14 : decode b_Arrays_fill 14 = .ok (.iinc 2 1, 3) := by decide +kernel
theorem d_Arrays_fill_17 : decode b_Arrays_fill 17 = .ok (.goto (-12), 3) := by decide +kernel
theorem d_Arrays_fill_20 : decode b_Arrays_fill 20 = .ok (.return_, 1) := by decide +kernel
def w_Arrays_fill : List Cond := .code y_Arrays_fill b_Arrays_fill 4 none :: WALL
theorem g_Arrays_fill : GoodIn WALL w_Arrays_fill := good_of mc_Arrays_fill
set_option maxHeartbeats 4000000 in
set_option maxRecDepth 100000 in
theorem c_Arrays_fill (l : Launch) (D : va_G) (cA a : Nat → Nat) (sz : Nat) (x1 : Int32) (I : Nat → Int32) (A : Nat → Nat → Int32) (post : (Nat → Int32) → (Nat → Nat → Int32) → Prop) (h : wp_Arrays_fill x1 I A post) : Met l y_Arrays_fill w_Arrays_fill ({ frames := 0, cells := 0, slots := 0, locals := 0 }) (va_Pc [.ref (a 14), .int x1] (PreC D cA a I A sz)) (va_Qv (fun (u : StW) => post u.1 u.2) (EndC D cA a) (AC a sz)) 0 0 (AC a sz) := by
  refine Met.ofW (cc := b_Arrays_fill) (maxL := 4) (ret := none) (by decide) rfl ?_
  intro p e s m args below meth c s₁ B hml hv
  obtain ⟨rfl, hsz, hP, hK, hD0⟩ := hv
  have hx := B.exec
  have hb := B.bytes
  have hr := B.returns
  have hts := atoms_spec (ws := w_Arrays_fill) B.pre
  have hw := wall_of hts
  have hown : s.vm.findClass R_Arrays = some m.cls := findClass_of_methodNamed B.named
  have hlocks := B.notSynchronized
  subst hsz
  have hD := hDC (sz := s.heap.size) hD0
  have hA : ∀ q : Nat, s.heap.size ≤ q → AC a s.heap.size q := fun q h => Or.inr h
  have hS : va_S (AC a s.heap.size) s.heap s.heap [] := va_S.rf
  have j5 : ∀ n : Nat, ∀ (y1 : Int32) (y2 : Int32) (y3 : Int32) (I : Nat → Int32) (A : Nat → Nat → Int32) (H : Heap) (locs : List Loc) (ls : Array Slot), wp_Arrays_fill_5 post n y1 y2 y3 I A → va_P D cls (wC cA a I A) H → va_S (AC a s.heap.size) s.heap H locs → lv_has ls 4 [(0, .ref (a 14)), (1, .int y1), (2, .int y2), (3, .int y3)] → W p l e (headSpec w_Arrays_fill ({ frames := 0, cells := 0, slots := 0, locals := 0 })).room s m [.ref (a 14), .int x1].toArray below meth c H locs 0 0 (MQ below (va_Qv (fun (u : StW) => post u.1 u.2) (EndC D cA a) (AC a s.heap.size)) [.ref (a 14), .int x1].toArray s 0 0 (AC a s.heap.size)) (F0 m 5 ls []) := by
    intro n
    induction n with
    | zero =>
      intro y1 y2 y3 I A H locs ls h hP hS hl
      exact False.elim h
    | succ n ih =>
      intro y1 y2 y3 I A H locs ls h hP hS hl
      unfold wp_Arrays_fill_5 at h
      refine lv_iload_n hx hb d_Arrays_fill_5 rfl (lv_at hl 2 rfl) ?_
      refine lv_iload_n hx hb d_Arrays_fill_6 rfl (lv_at hl 3 rfl) ?_
      refine lv_icmp_ge (tgt := 20) hx hb d_Arrays_fill_7 rfl (fun q => ?_) (fun q => ?_)
      · have h := h.1 q
        exact W.vret hx hb hr (fun t ht hW => ⟨⟨(I, A), rfl, h, endC_of ht hP⟩, hS.F ht⟩) hS.2.2 d_Arrays_fill_20
      · have h := h.2 q
        refine lv_aload_n hx hb d_Arrays_fill_10 rfl (lv_at hl 0 rfl) ?_
        refine lv_iload_n hx hb d_Arrays_fill_11 rfl (lv_at hl 2 rfl) ?_
        refine lv_iload_n hx hb d_Arrays_fill_12 rfl (lv_at hl 1 rfl) ?_
        obtain ⟨hin, h⟩ := h
        refine sC14 hx hb hK hD hS hP hin d_Arrays_fill_13 (fun H locs hP hS => ?_)
        obtain ⟨v14, ev14⟩ : ∃ z : Int32, z = y2 + 1 := ⟨_, rfl⟩
        have h := h v14 ev14
        refine lv_iinc (k := 2) (v := v14) (lv' := [(2, .int v14), (0, .ref (a 14)), (1, .int y1), (3, .int y3)]) hx hb d_Arrays_fill_14 hl rfl (by rw [ev14, ic_1]) (by decide) rfl (fun ls hl => ?_)
        refine lv_goto (tgt := 5) hx hb d_Arrays_fill_17 rfl ?_
        exact ih y1 v14 y3 I (upd2 A 14 (y2.toNatClampNeg) y1) _ _ _ h hP hS (lv_sub hl [1, 2, 0, 3] rfl)
  have hl := lv_entry ([.ref (a 14), .int x1]) (n := 4) (Nat.le_of_ble_eq_true rfl)
  rw [lg_entry_eq]
  generalize (lg_sl ([.ref (a 14), .int x1]) ++ List.replicate (4 - (lg_sl ([.ref (a 14), .int x1])).length) Slot.unset).toArray = ls at hl ⊢
  have hl : lv_has ls 4 [(0, .ref (a 14)), (1, .int x1)] := hl
  unfold wp_Arrays_fill at h
  refine lv_iconst (v := 0) hx hb d_Arrays_fill_0 ic_0 ?_
  refine lv_istore_n (lv' := [(2, .int 0), (0, .ref (a 14)), (1, .int x1)]) hx hb d_Arrays_fill_1 rfl hl (by decide) rfl (fun ls hl => ?_)
  refine lv_aload_n hx hb d_Arrays_fill_2 rfl (lv_at hl 1 rfl) ?_
  refine nC14 hx hb hK hP d_Arrays_fill_3 ?_
  refine lv_istore_n (lv' := [(3, .int 132), (2, .int 0), (0, .ref (a 14)), (1, .int x1)]) hx hb d_Arrays_fill_4 rfl hl (by decide) rfl (fun ls hl => ?_)
  obtain ⟨n5, h⟩ := h
  exact j5 n5 x1 0 132 I A _ _ _ h hP hS (lv_sub hl [2, 3, 1, 0] rfl)
theorem k_Arrays_fill {p : Program} {l : Launch} {e : Env} {R : Room} {s : State} {m : MethodId} {args : Array Value} {below : List Frame} {meth : Method} {c : Code} {H : Heap} {locs : List Loc} {cells slots : Nat} {Q : State → Prop} {cc : ByteArray} {pc nL idx : Nat} {own : String} {ls : Array Slot} {D : va_G} {cA a : Nat → Nat} {AA : Nat → Prop} {I : Nat → Int32} {A : Nat → Nat → Int32} {post : (Nat → Int32) → (Nat → Nat → Int32) → Prop} (x1 : Int32) {rest : List Value} (S : CallFix p m c cc nL s args WALL own) (hK : KC D cA a AA s) (hD : ∀ I A, va_D AA (wC cA a I A)) (hA : ∀ q : Nat, s.heap.size ≤ q → AA q) (hS : va_S AA s.heap H locs) (hP : va_P D cls (wC cA a I A) H) (hl1 : ls.size = nL) (hlink : (Cond.methodLink own idx y_Arrays_fill).before args s = true) (hst : (rest.map fun v => v.category).sum ≤ 8) (hR : ({ frames := 0, cells := 0, slots := 0, locals := 0 } : Room).frames + 1 ≤ R.frames ∧ 8 + (4 + 11) + ({ frames := 0, cells := 0, slots := 0, locals := 0 } : Room).locals ≤ R.locals) (hcs : cells ≤ R.cells ∧ slots ≤ R.slots) (hdg : decode cc pc = .ok (.invokestatic idx, 3)) (h : wp_Arrays_fill x1 I A post) (kk : ∀ (I1 : Nat → Int32) (A1 : Nat → Nat → Int32) (H1 : Heap) (locs1 : List Loc), post I1 A1 → va_P D cls (wC cA a I1 A1) H1 → va_S AA s.heap H1 locs1 → W p l e R s m args below meth c H1 locs1 cells slots Q (F0 m (pc + 3) ls rest)) : W p l e R s m args below meth c H locs cells slots Q (F0 m pc ls (.int x1 :: .ref (a 14) :: rest)) :=
  va_callv (va_runS (As := [.ref (a 14), .int x1]) (rest := rest) S (c_Arrays_fill l D cA a H.size x1 I A post h) ⟨callB_of 2 S.2.2.2.2 g_Arrays_fill rfl rfl rfl (S.2.2.2.2 _ mi_Arrays) hlink ⟨by decide, by decide, by decide +kernel⟩ hR, S.2.2.2.2 _ mn_Arrays_fill⟩ (preCS hK hD hA hS hP) rfl rfl hl1 rfl (lv_room hst) hdg hcs) hS (fun q _ z => AC_le hD hA hS q z) (fun q z => AC_le hD hA hS q z) (fun u t H1 locs1 ht _ hp hB _ _ hS1 => kk u.1 u.2 H1 locs1 hp (of_endC ht hB) hS1)
def wp_PitchFinder_startBar (I : Nat → Int32) (A : Nat → Nat → Int32) (post : (Nat → Int32) → (Nat → Nat → Int32) → Prop) : Prop := (wp_Arrays_fill 99 I A (fun I6 A6 => post I6 A6))
theorem d_PitchFinder_startBar_0 : decode b_PitchFinder_startBar 0 = .ok (.aload_n 0, 1) := by decide +kernel
theorem d_PitchFinder_startBar_1 : decode b_PitchFinder_startBar 1 = .ok (.getfield 9, 3) := by decide +kernel
theorem d_PitchFinder_startBar_4 : decode b_PitchFinder_startBar 4 = .ok (.bipush 99, 2) := by decide +kernel
theorem d_PitchFinder_startBar_6 : decode b_PitchFinder_startBar 6 = .ok (.invokestatic 20, 3) := by decide +kernel
theorem d_PitchFinder_startBar_9 : decode b_PitchFinder_startBar 9 = .ok (.return_, 1) := by decide +kernel
def w_PitchFinder_startBar : List Cond := .code y_PitchFinder_startBar b_PitchFinder_startBar 1 none :: WALL
theorem g_PitchFinder_startBar : GoodIn WALL w_PitchFinder_startBar := good_of mc_PitchFinder_startBar
set_option maxHeartbeats 4000000 in
set_option maxRecDepth 100000 in
theorem c_PitchFinder_startBar (l : Launch) (D : va_G) (cA a : Nat → Nat) (sz : Nat) (I : Nat → Int32) (A : Nat → Nat → Int32) (post : (Nat → Int32) → (Nat → Nat → Int32) → Prop) (h : wp_PitchFinder_startBar I A post) : Met l y_PitchFinder_startBar w_PitchFinder_startBar ({ frames := 1, cells := 0, slots := 0, locals := 23 }) (va_Pc [.ref (a 13)] (PreC D cA a I A sz)) (va_Qv (fun (u : StW) => post u.1 u.2) (EndC D cA a) (AC a sz)) 0 0 (AC a sz) := by
  refine Met.ofW (cc := b_PitchFinder_startBar) (maxL := 1) (ret := none) (by decide) rfl ?_
  intro p e s m args below meth c s₁ B hml hv
  obtain ⟨rfl, hsz, hP, hK, hD0⟩ := hv
  have hx := B.exec
  have hb := B.bytes
  have hr := B.returns
  have hts := atoms_spec (ws := w_PitchFinder_startBar) B.pre
  have hw := wall_of hts
  have hown : s.vm.findClass R_PitchFinder = some m.cls := findClass_of_methodNamed B.named
  have hlocks := B.notSynchronized
  subst hsz
  have hD := hDC (sz := s.heap.size) hD0
  have hA : ∀ q : Nat, s.heap.size ≤ q → AC a s.heap.size q := fun q h => Or.inr h
  have hS : va_S (AC a s.heap.size) s.heap s.heap [] := va_S.rf
  have hl := lv_entry ([.ref (a 13)]) (n := 1) (Nat.le_of_ble_eq_true rfl)
  rw [lg_entry_eq]
  generalize (lg_sl ([.ref (a 13)]) ++ List.replicate (1 - (lg_sl ([.ref (a 13)])).length) Slot.unset).toArray = ls at hl ⊢
  have hl : lv_has ls 1 [(0, .ref (a 13))] := hl
  unfold wp_PitchFinder_startBar at h
  refine lv_aload_n hx hb d_PitchFinder_startBar_0 rfl (lv_at hl 0 rfl) ?_
  refine gC_PitchFinder_heldSign hx hb hw hown hK hP (hw _ m_PitchFinder_9) d_PitchFinder_startBar_1 ?_
  refine lv_bipush (v := 99) hx hb d_PitchFinder_startBar_4 bp_99 ?_
  refine k_Arrays_fill 99 (rest := []) ⟨hx, hb, hml, hown, hw⟩ hK hD hA hS hP hl.1 (hw _ m_PitchFinder_20) (Nat.le_of_ble_eq_true rfl) ⟨Nat.le_of_ble_eq_true rfl, Nat.le_of_ble_eq_true rfl⟩ ⟨Nat.zero_le _, Nat.zero_le _⟩ d_PitchFinder_startBar_6 h (fun I6 A6 H locs h hP hS => ?_)
  exact W.vret hx hb hr (fun t ht hW => ⟨⟨(I6, A6), rfl, h, endC_of ht hP⟩, hS.F ht⟩) hS.2.2 d_PitchFinder_startBar_9
theorem k_PitchFinder_startBar {p : Program} {l : Launch} {e : Env} {R : Room} {s : State} {m : MethodId} {args : Array Value} {below : List Frame} {meth : Method} {c : Code} {H : Heap} {locs : List Loc} {cells slots : Nat} {Q : State → Prop} {cc : ByteArray} {pc nL idx : Nat} {own : String} {ls : Array Slot} {D : va_G} {cA a : Nat → Nat} {AA : Nat → Prop} {I : Nat → Int32} {A : Nat → Nat → Int32} {post : (Nat → Int32) → (Nat → Nat → Int32) → Prop} {rest : List Value} (S : CallFix p m c cc nL s args WALL own) (hK : KC D cA a AA s) (hD : ∀ I A, va_D AA (wC cA a I A)) (hA : ∀ q : Nat, s.heap.size ≤ q → AA q) (hS : va_S AA s.heap H locs) (hP : va_P D cls (wC cA a I A) H) (hl1 : ls.size = nL) (hlink : (Cond.methodLink own idx y_PitchFinder_startBar).before args s = true) (hst : (rest.map fun v => v.category).sum ≤ 8) (hR : ({ frames := 1, cells := 0, slots := 0, locals := 23 } : Room).frames + 1 ≤ R.frames ∧ 8 + (1 + 11) + ({ frames := 1, cells := 0, slots := 0, locals := 23 } : Room).locals ≤ R.locals) (hcs : cells ≤ R.cells ∧ slots ≤ R.slots) (hdg : decode cc pc = .ok (.invokevirtual idx, 3)) (h : wp_PitchFinder_startBar I A post) (kk : ∀ (I1 : Nat → Int32) (A1 : Nat → Nat → Int32) (H1 : Heap) (locs1 : List Loc), post I1 A1 → va_P D cls (wC cA a I1 A1) H1 → va_S AA s.heap H1 locs1 → W p l e R s m args below meth c H1 locs1 cells slots Q (F0 m (pc + 3) ls rest)) : W p l e R s m args below meth c H locs cells slots Q (F0 m pc ls (.ref (a 13) :: rest)) :=
  va_callv (va_runV (As := []) (rest := rest) S (c_PitchFinder_startBar l D cA a H.size I A post h) ⟨callB_of 0 S.2.2.2.2 g_PitchFinder_startBar rfl rfl rfl (S.2.2.2.2 _ mi_PitchFinder) hlink ⟨by decide, by decide, by decide +kernel⟩ hR, S.2.2.2.2 _ mn_PitchFinder_startBar, S.2.2.2.2 _ ms_PitchFinder_startBar⟩ (preCV hK hD hA hS hP 13 rfl rfl) rfl rfl hl1 rfl (lv_room hst) hdg hcs) hS (fun q _ z => AC_le hD hA hS q z) (fun q z => AC_le hD hA hS q z) (fun u t H1 locs1 ht _ hp hB _ _ hS1 => kk u.1 u.2 H1 locs1 hp (of_endC ht hB) hS1)
def wp_Tune_openItem (I : Nat → Int32) (A : Nat → Nat → Int32) (post : (Nat → Int32) → (Nat → Nat → Int32) → Prop) : Prop := (((I 1) < 48 → (vp_in (I 1) 48 ∧ (vp_in ((I 1) + 1) 49 ∧ (vp_in (I 0) 9 ∧ (wp_Tune_widen 3 (upd I 1 ((I 1) + 1)) (upd2 (upd2 (upd2 A 11 ((I 1).toNatClampNeg) 0) 9 (((I 1) + 1).toNatClampNeg) (I 2)) 8 ((I 0).toNatClampNeg) ((I 1) + 1)) (fun I58 A58 => post I58 A58)))))) ∧ (¬ (I 1) < 48 → post I A))
theorem d_Tune_openItem_0 : decode b_Tune_openItem 0 = .ok (.aload_n 0, 1) := by decide +kernel
theorem d_Tune_openItem_1 : decode b_Tune_openItem 1 = .ok (.getfield 44, 3) := by decide +kernel
theorem d_Tune_openItem_4 : decode b_Tune_openItem 4 = .ok (.bipush 48, 2) := by decide +kernel
theorem d_Tune_openItem_6 : decode b_Tune_openItem 6 = .ok (.if_icmp .lt 4, 3) := by decide +kernel
theorem d_Tune_openItem_9 : decode b_Tune_openItem 9 = .ok (.return_, 1) := by decide +kernel
theorem d_Tune_openItem_10 : decode b_Tune_openItem 10 = .ok (.aload_n 0, 1) := by decide +kernel
theorem d_Tune_openItem_11 : decode b_Tune_openItem 11 = .ok (.getfield 33, 3) := by decide +kernel
theorem d_Tune_openItem_14 : decode b_Tune_openItem 14 = .ok (.aload_n 0, 1) := by decide +kernel
theorem d_Tune_openItem_15 : decode b_Tune_openItem 15 = .ok (.getfield 44, 3) := by decide +kernel
theorem d_Tune_openItem_18 : decode b_Tune_openItem 18 = .ok (.iconst 0, 1) := by decide +kernel
theorem d_Tune_openItem_19 : decode b_Tune_openItem 19 = .ok (.bastore, 1) := by decide +kernel
theorem d_Tune_openItem_20 : decode b_Tune_openItem 20 = .ok (.aload_n 0, 1) := by decide +kernel
theorem d_Tune_openItem_21 : decode b_Tune_openItem 21 = .ok (.dup, 1) := by decide +kernel
theorem d_Tune_openItem_22 : decode b_Tune_openItem 22 = .ok (.getfield 44, 3) := by decide +kernel
theorem d_Tune_openItem_25 : decode b_Tune_openItem 25 = .ok (.iconst 1, 1) := by decide +kernel
theorem d_Tune_openItem_26 : decode b_Tune_openItem 26 = .ok (.iadd, 1) := by decide +kernel
theorem d_Tune_openItem_27 : decode b_Tune_openItem 27 = .ok (.putfield 44, 3) := by decide +kernel
theorem d_Tune_openItem_30 : decode b_Tune_openItem 30 = .ok (.aload_n 0, 1) := by decide +kernel
theorem d_Tune_openItem_31 : decode b_Tune_openItem 31 = .ok (.getfield 27, 3) := by decide +kernel
theorem d_Tune_openItem_34 : decode b_Tune_openItem 34 = .ok (.aload_n 0, 1) := by decide +kernel
theorem d_Tune_openItem_35 : decode b_Tune_openItem 35 = .ok (.getfield 44, 3) := by decide +kernel
theorem d_Tune_openItem_38 : decode b_Tune_openItem 38 = .ok (.aload_n 0, 1) := by decide +kernel
theorem d_Tune_openItem_39 : decode b_Tune_openItem 39 = .ok (.getfield 47, 3) := by decide +kernel
theorem d_Tune_openItem_42 : decode b_Tune_openItem 42 = .ok (.iastore, 1) := by decide +kernel
theorem d_Tune_openItem_43 : decode b_Tune_openItem 43 = .ok (.aload_n 0, 1) := by decide +kernel
theorem d_Tune_openItem_44 : decode b_Tune_openItem 44 = .ok (.getfield 24, 3) := by decide +kernel
theorem d_Tune_openItem_47 : decode b_Tune_openItem 47 = .ok (.aload_n 0, 1) := by decide +kernel
theorem d_Tune_openItem_48 : decode b_Tune_openItem 48 = .ok (.getfield 40, 3) := by decide +kernel
theorem d_Tune_openItem_51 : decode b_Tune_openItem 51 = .ok (.aload_n 0, 1) := by decide +kernel
theorem d_Tune_openItem_52 : decode b_Tune_openItem 52 = .ok (.getfield 44, 3) := by decide +kernel
theorem d_Tune_openItem_55 : decode b_Tune_openItem 55 = .ok (.iastore, 1) := by decide +kernel
theorem d_Tune_openItem_56 : decode b_Tune_openItem 56 = .ok (.aload_n 0, 1) := by decide +kernel
theorem d_Tune_openItem_57 : decode b_Tune_openItem 57 = .ok (.iconst 3, 1) := by decide +kernel
theorem d_Tune_openItem_58 : decode b_Tune_openItem 58 = .ok (.invokevirtual 50, 3) := by decide +kernel
theorem d_Tune_openItem_61 : decode b_Tune_openItem 61 = .ok (.return_, 1) := by decide +kernel
def w_Tune_openItem : List Cond := .code y_Tune_openItem b_Tune_openItem 1 none :: WALL
theorem g_Tune_openItem : GoodIn WALL w_Tune_openItem := good_of mc_Tune_openItem
set_option maxHeartbeats 4000000 in
set_option maxRecDepth 100000 in
theorem c_Tune_openItem (l : Launch) (D : va_G) (cA a : Nat → Nat) (sz : Nat) (I : Nat → Int32) (A : Nat → Nat → Int32) (post : (Nat → Int32) → (Nat → Nat → Int32) → Prop) (h : wp_Tune_openItem I A post) : Met l y_Tune_openItem w_Tune_openItem ({ frames := 1, cells := 0, slots := 0, locals := 21 }) (va_Pc [.ref (a 3)] (PreC D cA a I A sz)) (va_Qv (fun (u : StW) => post u.1 u.2) (EndC D cA a) (AC a sz)) 0 0 (AC a sz) := by
  refine Met.ofW (cc := b_Tune_openItem) (maxL := 1) (ret := none) (by decide) rfl ?_
  intro p e s m args below meth c s₁ B hml hv
  obtain ⟨rfl, hsz, hP, hK, hD0⟩ := hv
  have hx := B.exec
  have hb := B.bytes
  have hr := B.returns
  have hts := atoms_spec (ws := w_Tune_openItem) B.pre
  have hw := wall_of hts
  have hown : s.vm.findClass R_Tune = some m.cls := findClass_of_methodNamed B.named
  have hlocks := B.notSynchronized
  subst hsz
  have hD := hDC (sz := s.heap.size) hD0
  have hA : ∀ q : Nat, s.heap.size ≤ q → AC a s.heap.size q := fun q h => Or.inr h
  have hS : va_S (AC a s.heap.size) s.heap s.heap [] := va_S.rf
  have hl := lv_entry ([.ref (a 3)]) (n := 1) (Nat.le_of_ble_eq_true rfl)
  rw [lg_entry_eq]
  generalize (lg_sl ([.ref (a 3)]) ++ List.replicate (1 - (lg_sl ([.ref (a 3)])).length) Slot.unset).toArray = ls at hl ⊢
  have hl : lv_has ls 1 [(0, .ref (a 3))] := hl
  unfold wp_Tune_openItem at h
  refine lv_aload_n hx hb d_Tune_openItem_0 rfl (lv_at hl 0 rfl) ?_
  refine gC_Tune_itemCount hx hb hw hown hK hP (hw _ m_Tune_44) d_Tune_openItem_1 ?_
  refine lv_bipush (v := 48) hx hb d_Tune_openItem_4 bp_48 ?_
  refine lv_icmp_lt (tgt := 10) hx hb d_Tune_openItem_6 rfl (fun q => ?_) (fun q => ?_)
  · have h := h.1 q
    refine lv_aload_n hx hb d_Tune_openItem_10 rfl (lv_at hl 0 rfl) ?_
    refine gC_Tune_tied hx hb hw hown hK hP (hw _ m_Tune_33) d_Tune_openItem_11 ?_
    refine lv_aload_n hx hb d_Tune_openItem_14 rfl (lv_at hl 0 rfl) ?_
    refine gC_Tune_itemCount hx hb hw hown hK hP (hw _ m_Tune_44) d_Tune_openItem_15 ?_
    refine lv_iconst (v := 0) hx hb d_Tune_openItem_18 ic_0 ?_
    obtain ⟨hin, h⟩ := h
    refine sC11 hx hb hK hD hS hP hin vz0 d_Tune_openItem_19 (fun H locs hP hS => ?_)
    refine lv_aload_n hx hb d_Tune_openItem_20 rfl (lv_at hl 0 rfl) ?_
    refine lv_dup hx hb d_Tune_openItem_21 rfl ?_
    refine gC_Tune_itemCount hx hb hw hown hK hP (hw _ m_Tune_44) d_Tune_openItem_22 ?_
    refine lv_iconst (v := 1) hx hb d_Tune_openItem_25 ic_1 ?_
    refine lv_iadd hx hb d_Tune_openItem_26 ?_
    refine pC_Tune_itemCount hx hb hw hown hK hD hS hP (hw _ m_Tune_44) d_Tune_openItem_27 (fun H locs hP hS => ?_)
    refine lv_aload_n hx hb d_Tune_openItem_30 rfl (lv_at hl 0 rfl) ?_
    refine gC_Tune_firstNote hx hb hw hown hK hP (hw _ m_Tune_27) d_Tune_openItem_31 ?_
    refine lv_aload_n hx hb d_Tune_openItem_34 rfl (lv_at hl 0 rfl) ?_
    refine gC_Tune_itemCount hx hb hw hown hK hP (hw _ m_Tune_44) d_Tune_openItem_35 ?_
    refine lv_aload_n hx hb d_Tune_openItem_38 rfl (lv_at hl 0 rfl) ?_
    refine gC_Tune_noteCount hx hb hw hown hK hP (hw _ m_Tune_47) d_Tune_openItem_39 ?_
    obtain ⟨hin, h⟩ := h
    refine sC9 hx hb hK hD hS hP hin d_Tune_openItem_42 (fun H locs hP hS => ?_)
    refine lv_aload_n hx hb d_Tune_openItem_43 rfl (lv_at hl 0 rfl) ?_
    refine gC_Tune_firstItem hx hb hw hown hK hP (hw _ m_Tune_24) d_Tune_openItem_44 ?_
    refine lv_aload_n hx hb d_Tune_openItem_47 rfl (lv_at hl 0 rfl) ?_
    refine gC_Tune_barCount hx hb hw hown hK hP (hw _ m_Tune_40) d_Tune_openItem_48 ?_
    refine lv_aload_n hx hb d_Tune_openItem_51 rfl (lv_at hl 0 rfl) ?_
    refine gC_Tune_itemCount hx hb hw hown hK hP (hw _ m_Tune_44) d_Tune_openItem_52 ?_
    obtain ⟨hin, h⟩ := h
    refine sC8 hx hb hK hD hS hP hin d_Tune_openItem_55 (fun H locs hP hS => ?_)
    refine lv_aload_n hx hb d_Tune_openItem_56 rfl (lv_at hl 0 rfl) ?_
    refine lv_iconst (v := 3) hx hb d_Tune_openItem_57 ic_3 ?_
    refine k_Tune_widen 3 (rest := []) ⟨hx, hb, hml, hown, hw⟩ hK hD hA hS hP hl.1 (hw _ m_Tune_50) (Nat.le_of_ble_eq_true rfl) ⟨Nat.le_of_ble_eq_true rfl, Nat.le_of_ble_eq_true rfl⟩ ⟨Nat.zero_le _, Nat.zero_le _⟩ d_Tune_openItem_58 h (fun I58 A58 H locs h hP hS => ?_)
    exact W.vret hx hb hr (fun t ht hW => ⟨⟨(I58, A58), rfl, h, endC_of ht hP⟩, hS.F ht⟩) hS.2.2 d_Tune_openItem_61
  · have h := h.2 q
    exact W.vret hx hb hr (fun t ht hW => ⟨⟨(I, A), rfl, h, endC_of ht hP⟩, hS.F ht⟩) hS.2.2 d_Tune_openItem_9
theorem k_Tune_openItem {p : Program} {l : Launch} {e : Env} {R : Room} {s : State} {m : MethodId} {args : Array Value} {below : List Frame} {meth : Method} {c : Code} {H : Heap} {locs : List Loc} {cells slots : Nat} {Q : State → Prop} {cc : ByteArray} {pc nL idx : Nat} {own : String} {ls : Array Slot} {D : va_G} {cA a : Nat → Nat} {AA : Nat → Prop} {I : Nat → Int32} {A : Nat → Nat → Int32} {post : (Nat → Int32) → (Nat → Nat → Int32) → Prop} {rest : List Value} (S : CallFix p m c cc nL s args WALL own) (hK : KC D cA a AA s) (hD : ∀ I A, va_D AA (wC cA a I A)) (hA : ∀ q : Nat, s.heap.size ≤ q → AA q) (hS : va_S AA s.heap H locs) (hP : va_P D cls (wC cA a I A) H) (hl1 : ls.size = nL) (hlink : (Cond.methodLink own idx y_Tune_openItem).before args s = true) (hst : (rest.map fun v => v.category).sum ≤ 8) (hR : ({ frames := 1, cells := 0, slots := 0, locals := 21 } : Room).frames + 1 ≤ R.frames ∧ 8 + (1 + 11) + ({ frames := 1, cells := 0, slots := 0, locals := 21 } : Room).locals ≤ R.locals) (hcs : cells ≤ R.cells ∧ slots ≤ R.slots) (hdg : decode cc pc = .ok (.invokevirtual idx, 3)) (h : wp_Tune_openItem I A post) (kk : ∀ (I1 : Nat → Int32) (A1 : Nat → Nat → Int32) (H1 : Heap) (locs1 : List Loc), post I1 A1 → va_P D cls (wC cA a I1 A1) H1 → va_S AA s.heap H1 locs1 → W p l e R s m args below meth c H1 locs1 cells slots Q (F0 m (pc + 3) ls rest)) : W p l e R s m args below meth c H locs cells slots Q (F0 m pc ls (.ref (a 3) :: rest)) :=
  va_callv (va_runV (As := []) (rest := rest) S (c_Tune_openItem l D cA a H.size I A post h) ⟨callB_of 0 S.2.2.2.2 g_Tune_openItem rfl rfl rfl (S.2.2.2.2 _ mi_Tune) hlink ⟨by decide, by decide, by decide +kernel⟩ hR, S.2.2.2.2 _ mn_Tune_openItem, S.2.2.2.2 _ ms_Tune_openItem⟩ (preCV hK hD hA hS hP 3 rfl rfl) rfl rfl hl1 rfl (lv_room hst) hdg hcs) hS (fun q _ z => AC_le hD hA hS q z) (fun q z => AC_le hD hA hS q z) (fun u t H1 locs1 ht _ hp hB _ _ hS1 => kk u.1 u.2 H1 locs1 hp (of_endC ht hB) hS1)
def wp_Reader_open_74 (post : (Nat → Int32) → (Nat → Nat → Int32) → Prop) (y1 : Int32) (I : Nat → Int32) (A : Nat → Nat → Int32) : Prop := (wp_Reader_opensChordNote y1 I A (fun r76 I76 A76 => ((r76 = 0 → post I76 A76) ∧ (¬ r76 = 0 → post (upd I76 18 ((I76 18) + 1)) A76))))
def wp_Reader_open_47 (post : (Nat → Int32) → (Nat → Nat → Int32) → Prop) (y1 : Int32) (I : Nat → Int32) (A : Nat → Nat → Int32) : Prop := (wp_Reader_opensItem y1 I A (fun r49 I49 A49 => ((r49 = 0 → wp_Reader_open_74 post y1 I49 A49) ∧ (¬ r49 = 0 → (wp_Tune_openItem I49 A49 (fun I59 A59 => (wp_ItemLength_restart I59 A59 (fun I66 A66 => wp_Reader_open_74 post y1 (upd I66 21 1) A66))))))))
def wp_Reader_open_20 (post : (Nat → Int32) → (Nat → Nat → Int32) → Prop) (y1 : Int32) (I : Nat → Int32) (A : Nat → Nat → Int32) : Prop := (wp_Reader_opensBar y1 I A (fun r22 I22 A22 => ((r22 = 0 → wp_Reader_open_47 post y1 I22 A22) ∧ (¬ r22 = 0 → (wp_Tune_openBar I22 A22 (fun I32 A32 => (wp_PitchFinder_startBar I32 A32 (fun I39 A39 => wp_Reader_open_47 post y1 (upd I39 20 1) A39))))))))
def wp_Reader_open (x1 : Int32) (I : Nat → Int32) (A : Nat → Nat → Int32) (post : (Nat → Int32) → (Nat → Nat → Int32) → Prop) : Prop := (wp_Reader_opensLine x1 I A (fun r1 I1 A1 => ((r1 = 0 → wp_Reader_open_20 post x1 I1 A1) ∧ (¬ r1 = 0 → wp_Reader_open_20 post x1 (upd (upd I1 16 (I1 15)) 20 0) A1))))
theorem d_Reader_open_0 : decode b_Reader_open 0 = .ok (.iload_n 1, 1) := by decide +kernel
theorem d_Reader_open_1 : decode b_Reader_open 1 = .ok (.invokestatic 183, 3) := by decide +kernel
theorem d_Reader_open_4 : decode b_Reader_open 4 = .ok (.ifCond .eq 16, 3) := by decide +kernel
theorem d_Reader_open_7 : decode b_Reader_open 7 = .ok (.aload_n 0, 1) := by decide +kernel
theorem d_Reader_open_8 : decode b_Reader_open 8 = .ok (.aload_n 0, 1) := by decide +kernel
theorem d_Reader_open_9 : decode b_Reader_open 9 = .ok (.getfield 80, 3) := by decide +kernel
theorem d_Reader_open_12 : decode b_Reader_open 12 = .ok (.putfield 58, 3) := by decide +kernel
theorem d_Reader_open_15 : decode b_Reader_open 15 = .ok (.aload_n 0, 1) := by decide +kernel
theorem d_Reader_open_16 : decode b_Reader_open 16 = .ok (.iconst 0, 1) := by decide +kernel
theorem d_Reader_open_17 : decode b_Reader_open 17 = .ok (.putfield 70, 3) := by decide +kernel
theorem d_Reader_open_20 : decode b_Reader_open 20 = .ok (.aload_n 0, 1) := by decide +kernel
theorem d_Reader_open_21 : decode b_Reader_open 21 = .ok (.iload_n 1, 1) := by decide +kernel
theorem d_Reader_open_22 : decode b_Reader_open 22 = .ok (.invokevirtual 177, 3) := by decide +kernel
theorem d_Reader_open_25 : decode b_Reader_open 25 = .ok (.ifCond .eq 22, 3) := by decide +kernel
theorem d_Reader_open_28 : decode b_Reader_open 28 = .ok (.aload_n 0, 1) := by decide +kernel
theorem d_Reader_open_29 : decode b_Reader_open 29 = .ok (.getfield 14, 3) := by decide +kernel
theorem d_Reader_open_32 : decode b_Reader_open 32 = .ok (.invokevirtual 192, 3) := by decide +kernel
theorem d_Reader_open_35 : decode b_Reader_open 35 = .ok (.aload_n 0, 1) := by decide +kernel
theorem d_Reader_open_36 : decode b_Reader_open 36 = .ok (.getfield 21, 3) := by decide +kernel
theorem d_Reader_open_39 : decode b_Reader_open 39 = .ok (.invokevirtual 195, 3) := by decide +kernel
theorem d_Reader_open_42 : decode b_Reader_open 42 = .ok (.aload_n 0, 1) := by decide +kernel
theorem d_Reader_open_43 : decode b_Reader_open 43 = .ok (.iconst 1, 1) := by decide +kernel
theorem d_Reader_open_44 : decode b_Reader_open 44 = .ok (.putfield 70, 3) := by decide +kernel
theorem d_Reader_open_47 : decode b_Reader_open 47 = .ok (.aload_n 0, 1) := by decide +kernel
theorem d_Reader_open_48 : decode b_Reader_open 48 = .ok (.iload_n 1, 1) := by decide +kernel
theorem d_Reader_open_49 : decode b_Reader_open 49 = .ok (.invokevirtual 174, 3) := by decide +kernel
theorem d_Reader_open_52 : decode b_Reader_open 52 = .ok (.ifCond .eq 22, 3) := by decide +kernel
theorem d_Reader_open_55 : decode b_Reader_open 55 = .ok (.aload_n 0, 1) := by decide +kernel
theorem d_Reader_open_56 : decode b_Reader_open 56 = .ok (.getfield 14, 3) := by decide +kernel
theorem d_Reader_open_59 : decode b_Reader_open 59 = .ok (.invokevirtual 198, 3) := by decide +kernel
theorem d_Reader_open_62 : decode b_Reader_open 62 = .ok (.aload_n 0, 1) := by decide +kernel
theorem d_Reader_open_63 : decode b_Reader_open 63 = .ok (.getfield 28, 3) := by decide +kernel
theorem d_Reader_open_66 : decode b_Reader_open 66 = .ok (.invokevirtual 43, 3) := by decide +kernel
theorem d_Reader_open_69 : decode b_Reader_open 69 = .ok (.aload_n 0, 1) := by decide +kernel
theorem d_Reader_open_70 : decode b_Reader_open 70 = .ok (.iconst 1, 1) := by decide +kernel
theorem d_Reader_open_71 : decode b_Reader_open 71 = .ok (.putfield 74, 3) := by decide +kernel
theorem d_Reader_open_74 : decode b_Reader_open 74 = .ok (.aload_n 0, 1) := by decide +kernel
theorem d_Reader_open_75 : decode b_Reader_open 75 = .ok (.iload_n 1, 1) := by decide +kernel
theorem d_Reader_open_76 : decode b_Reader_open 76 = .ok (.invokevirtual 189, 3) := by decide +kernel
theorem d_Reader_open_79 : decode b_Reader_open 79 = .ok (.ifCond .eq 13, 3) := by decide +kernel
theorem d_Reader_open_82 : decode b_Reader_open 82 = .ok (.aload_n 0, 1) := by decide +kernel
theorem d_Reader_open_83 : decode b_Reader_open 83 = .ok (.dup, 1) := by decide +kernel
theorem d_Reader_open_84 : decode b_Reader_open 84 = .ok (.getfield 64, 3) := by decide +kernel
theorem d_Reader_open_87 : decode b_Reader_open 87 = .ok (.iconst 1, 1) := by decide +kernel
theorem d_Reader_open_88 : decode b_Reader_open 88 = .ok (.iadd, 1) := by decide +kernel
theorem d_Reader_open_89 : decode b_Reader_open 89 = .ok (.putfield 64, 3) := by decide +kernel
theorem d_Reader_open_92 : decode b_Reader_open 92 = .ok (.return_, 1) := by decide +kernel
def w_Reader_open : List Cond := .code y_Reader_open b_Reader_open 2 none :: WALL
theorem g_Reader_open : GoodIn WALL w_Reader_open := good_of mc_Reader_open
set_option maxHeartbeats 4000000 in
set_option maxRecDepth 100000 in
theorem c_Reader_open (l : Launch) (D : va_G) (cA a : Nat → Nat) (sz : Nat) (x1 : Int32) (I : Nat → Int32) (A : Nat → Nat → Int32) (post : (Nat → Int32) → (Nat → Nat → Int32) → Prop) (h : wp_Reader_open x1 I A post) : Met l y_Reader_open w_Reader_open ({ frames := 3, cells := 0, slots := 0, locals := 62 }) (va_Pc [.ref (a 2), .int x1] (PreC D cA a I A sz)) (va_Qv (fun (u : StW) => post u.1 u.2) (EndC D cA a) (AC a sz)) 0 0 (AC a sz) := by
  refine Met.ofW (cc := b_Reader_open) (maxL := 2) (ret := none) (by decide) rfl ?_
  intro p e s m args below meth c s₁ B hml hv
  obtain ⟨rfl, hsz, hP, hK, hD0⟩ := hv
  have hx := B.exec
  have hb := B.bytes
  have hr := B.returns
  have hts := atoms_spec (ws := w_Reader_open) B.pre
  have hw := wall_of hts
  have hown : s.vm.findClass R_Reader = some m.cls := findClass_of_methodNamed B.named
  have hlocks := B.notSynchronized
  subst hsz
  have hD := hDC (sz := s.heap.size) hD0
  have hA : ∀ q : Nat, s.heap.size ≤ q → AC a s.heap.size q := fun q h => Or.inr h
  have hS : va_S (AC a s.heap.size) s.heap s.heap [] := va_S.rf
  have j74 : ∀ (y1 : Int32) (I : Nat → Int32) (A : Nat → Nat → Int32) (H : Heap) (locs : List Loc) (ls : Array Slot), wp_Reader_open_74 post y1 I A → va_P D cls (wC cA a I A) H → va_S (AC a s.heap.size) s.heap H locs → lv_has ls 2 [(0, .ref (a 2)), (1, .int y1)] → W p l e (headSpec w_Reader_open ({ frames := 3, cells := 0, slots := 0, locals := 62 })).room s m [.ref (a 2), .int x1].toArray below meth c H locs 0 0 (MQ below (va_Qv (fun (u : StW) => post u.1 u.2) (EndC D cA a) (AC a s.heap.size)) [.ref (a 2), .int x1].toArray s 0 0 (AC a s.heap.size)) (F0 m 74 ls []) := by
    intro y1 I A H locs ls h hP hS hl
    unfold wp_Reader_open_74 at h
    refine lv_aload_n hx hb d_Reader_open_74 rfl (lv_at hl 0 rfl) ?_
    refine lv_iload_n hx hb d_Reader_open_75 rfl (lv_at hl 1 rfl) ?_
    refine k_Reader_opensChordNote y1 (rest := []) ⟨hx, hb, hml, hown, hw⟩ hK hD hA hS hP hl.1 (hw _ m_Reader_189) (Nat.le_of_ble_eq_true rfl) ⟨Nat.le_of_ble_eq_true rfl, Nat.le_of_ble_eq_true rfl⟩ ⟨Nat.zero_le _, Nat.zero_le _⟩ d_Reader_open_76 h (fun r76 I76 A76 H locs h hP hS => ?_)
    refine lv_if_eq (tgt := 92) hx hb d_Reader_open_79 rfl (fun q => ?_) (fun q => ?_)
    · have h := h.1 q
      exact W.vret hx hb hr (fun t ht hW => ⟨⟨(I76, A76), rfl, h, endC_of ht hP⟩, hS.F ht⟩) hS.2.2 d_Reader_open_92
    · have h := h.2 q
      refine lv_aload_n hx hb d_Reader_open_82 rfl (lv_at hl 0 rfl) ?_
      refine lv_dup hx hb d_Reader_open_83 rfl ?_
      refine gC_Reader_chordNotes hx hb hw hown hK hP (hw _ m_Reader_64) d_Reader_open_84 ?_
      refine lv_iconst (v := 1) hx hb d_Reader_open_87 ic_1 ?_
      refine lv_iadd hx hb d_Reader_open_88 ?_
      refine pC_Reader_chordNotes hx hb hw hown hK hD hS hP (hw _ m_Reader_64) d_Reader_open_89 (fun H locs hP hS => ?_)
      exact W.vret hx hb hr (fun t ht hW => ⟨⟨((upd I76 18 ((I76 18) + 1)), A76), rfl, h, endC_of ht hP⟩, hS.F ht⟩) hS.2.2 d_Reader_open_92
  have j47 : ∀ (y1 : Int32) (I : Nat → Int32) (A : Nat → Nat → Int32) (H : Heap) (locs : List Loc) (ls : Array Slot), wp_Reader_open_47 post y1 I A → va_P D cls (wC cA a I A) H → va_S (AC a s.heap.size) s.heap H locs → lv_has ls 2 [(0, .ref (a 2)), (1, .int y1)] → W p l e (headSpec w_Reader_open ({ frames := 3, cells := 0, slots := 0, locals := 62 })).room s m [.ref (a 2), .int x1].toArray below meth c H locs 0 0 (MQ below (va_Qv (fun (u : StW) => post u.1 u.2) (EndC D cA a) (AC a s.heap.size)) [.ref (a 2), .int x1].toArray s 0 0 (AC a s.heap.size)) (F0 m 47 ls []) := by
    intro y1 I A H locs ls h hP hS hl
    unfold wp_Reader_open_47 at h
    refine lv_aload_n hx hb d_Reader_open_47 rfl (lv_at hl 0 rfl) ?_
    refine lv_iload_n hx hb d_Reader_open_48 rfl (lv_at hl 1 rfl) ?_
    refine k_Reader_opensItem y1 (rest := []) ⟨hx, hb, hml, hown, hw⟩ hK hD hA hS hP hl.1 (hw _ m_Reader_174) (Nat.le_of_ble_eq_true rfl) ⟨Nat.le_of_ble_eq_true rfl, Nat.le_of_ble_eq_true rfl⟩ ⟨Nat.zero_le _, Nat.zero_le _⟩ d_Reader_open_49 h (fun r49 I49 A49 H locs h hP hS => ?_)
    refine lv_if_eq (tgt := 74) hx hb d_Reader_open_52 rfl (fun q => ?_) (fun q => ?_)
    · have h := h.1 q
      exact j74 y1 I49 A49 _ _ _ h hP hS (lv_sub hl [0, 1] rfl)
    · have h := h.2 q
      refine lv_aload_n hx hb d_Reader_open_55 rfl (lv_at hl 0 rfl) ?_
      refine gC_Reader_tune hx hb hw hown hK hP (hw _ m_Reader_14) d_Reader_open_56 ?_
      refine k_Tune_openItem (rest := []) ⟨hx, hb, hml, hown, hw⟩ hK hD hA hS hP hl.1 (hw _ m_Reader_198) (Nat.le_of_ble_eq_true rfl) ⟨Nat.le_of_ble_eq_true rfl, Nat.le_of_ble_eq_true rfl⟩ ⟨Nat.zero_le _, Nat.zero_le _⟩ d_Reader_open_59 h (fun I59 A59 H locs h hP hS => ?_)
      refine lv_aload_n hx hb d_Reader_open_62 rfl (lv_at hl 0 rfl) ?_
      refine gC_Reader_itemLength hx hb hw hown hK hP (hw _ m_Reader_28) d_Reader_open_63 ?_
      refine k_ItemLength_restart (rest := []) ⟨hx, hb, hml, hown, hw⟩ hK hD hA hS hP hl.1 (hw _ m_Reader_43) (Nat.le_of_ble_eq_true rfl) ⟨Nat.le_of_ble_eq_true rfl, Nat.le_of_ble_eq_true rfl⟩ ⟨Nat.zero_le _, Nat.zero_le _⟩ d_Reader_open_66 h (fun I66 A66 H locs h hP hS => ?_)
      refine lv_aload_n hx hb d_Reader_open_69 rfl (lv_at hl 0 rfl) ?_
      refine lv_iconst (v := 1) hx hb d_Reader_open_70 ic_1 ?_
      refine pC_Reader_inItem hx hb hw hown hK hD hS hP (hw _ m_Reader_74) vz1 d_Reader_open_71 (fun H locs hP hS => ?_)
      exact j74 y1 (upd I66 21 1) A66 _ _ _ h hP hS (lv_sub hl [0, 1] rfl)
  have j20 : ∀ (y1 : Int32) (I : Nat → Int32) (A : Nat → Nat → Int32) (H : Heap) (locs : List Loc) (ls : Array Slot), wp_Reader_open_20 post y1 I A → va_P D cls (wC cA a I A) H → va_S (AC a s.heap.size) s.heap H locs → lv_has ls 2 [(0, .ref (a 2)), (1, .int y1)] → W p l e (headSpec w_Reader_open ({ frames := 3, cells := 0, slots := 0, locals := 62 })).room s m [.ref (a 2), .int x1].toArray below meth c H locs 0 0 (MQ below (va_Qv (fun (u : StW) => post u.1 u.2) (EndC D cA a) (AC a s.heap.size)) [.ref (a 2), .int x1].toArray s 0 0 (AC a s.heap.size)) (F0 m 20 ls []) := by
    intro y1 I A H locs ls h hP hS hl
    unfold wp_Reader_open_20 at h
    refine lv_aload_n hx hb d_Reader_open_20 rfl (lv_at hl 0 rfl) ?_
    refine lv_iload_n hx hb d_Reader_open_21 rfl (lv_at hl 1 rfl) ?_
    refine k_Reader_opensBar y1 (rest := []) ⟨hx, hb, hml, hown, hw⟩ hK hD hA hS hP hl.1 (hw _ m_Reader_177) (Nat.le_of_ble_eq_true rfl) ⟨Nat.le_of_ble_eq_true rfl, Nat.le_of_ble_eq_true rfl⟩ ⟨Nat.zero_le _, Nat.zero_le _⟩ d_Reader_open_22 h (fun r22 I22 A22 H locs h hP hS => ?_)
    refine lv_if_eq (tgt := 47) hx hb d_Reader_open_25 rfl (fun q => ?_) (fun q => ?_)
    · have h := h.1 q
      exact j47 y1 I22 A22 _ _ _ h hP hS (lv_sub hl [0, 1] rfl)
    · have h := h.2 q
      refine lv_aload_n hx hb d_Reader_open_28 rfl (lv_at hl 0 rfl) ?_
      refine gC_Reader_tune hx hb hw hown hK hP (hw _ m_Reader_14) d_Reader_open_29 ?_
      refine k_Tune_openBar (rest := []) ⟨hx, hb, hml, hown, hw⟩ hK hD hA hS hP hl.1 (hw _ m_Reader_192) (Nat.le_of_ble_eq_true rfl) ⟨Nat.le_of_ble_eq_true rfl, Nat.le_of_ble_eq_true rfl⟩ ⟨Nat.zero_le _, Nat.zero_le _⟩ d_Reader_open_32 h (fun I32 A32 H locs h hP hS => ?_)
      refine lv_aload_n hx hb d_Reader_open_35 rfl (lv_at hl 0 rfl) ?_
      refine gC_Reader_pitches hx hb hw hown hK hP (hw _ m_Reader_21) d_Reader_open_36 ?_
      refine k_PitchFinder_startBar (rest := []) ⟨hx, hb, hml, hown, hw⟩ hK hD hA hS hP hl.1 (hw _ m_Reader_195) (Nat.le_of_ble_eq_true rfl) ⟨Nat.le_of_ble_eq_true rfl, Nat.le_of_ble_eq_true rfl⟩ ⟨Nat.zero_le _, Nat.zero_le _⟩ d_Reader_open_39 h (fun I39 A39 H locs h hP hS => ?_)
      refine lv_aload_n hx hb d_Reader_open_42 rfl (lv_at hl 0 rfl) ?_
      refine lv_iconst (v := 1) hx hb d_Reader_open_43 ic_1 ?_
      refine pC_Reader_inBar hx hb hw hown hK hD hS hP (hw _ m_Reader_70) vz1 d_Reader_open_44 (fun H locs hP hS => ?_)
      exact j47 y1 (upd I39 20 1) A39 _ _ _ h hP hS (lv_sub hl [0, 1] rfl)
  have hl := lv_entry ([.ref (a 2), .int x1]) (n := 2) (Nat.le_of_ble_eq_true rfl)
  rw [lg_entry_eq]
  generalize (lg_sl ([.ref (a 2), .int x1]) ++ List.replicate (2 - (lg_sl ([.ref (a 2), .int x1])).length) Slot.unset).toArray = ls at hl ⊢
  have hl : lv_has ls 2 [(0, .ref (a 2)), (1, .int x1)] := hl
  unfold wp_Reader_open at h
  refine lv_iload_n hx hb d_Reader_open_0 rfl (lv_at hl 1 rfl) ?_
  refine k_Reader_opensLine x1 (rest := []) ⟨hx, hb, hml, hown, hw⟩ hK hD hA hS hP hl.1 (hw _ m_Reader_183) (Nat.le_of_ble_eq_true rfl) ⟨Nat.le_of_ble_eq_true rfl, Nat.le_of_ble_eq_true rfl⟩ ⟨Nat.zero_le _, Nat.zero_le _⟩ d_Reader_open_1 h (fun r1 I1 A1 H locs h hP hS => ?_)
  refine lv_if_eq (tgt := 20) hx hb d_Reader_open_4 rfl (fun q => ?_) (fun q => ?_)
  · have h := h.1 q
    exact j20 x1 I1 A1 _ _ _ h hP hS (lv_sub hl [0, 1] rfl)
  · have h := h.2 q
    refine lv_aload_n hx hb d_Reader_open_7 rfl (lv_at hl 0 rfl) ?_
    refine lv_aload_n hx hb d_Reader_open_8 rfl (lv_at hl 0 rfl) ?_
    refine gC_Reader_spot hx hb hw hown hK hP (hw _ m_Reader_80) d_Reader_open_9 ?_
    refine pC_Reader_linePlace hx hb hw hown hK hD hS hP (hw _ m_Reader_58) d_Reader_open_12 (fun H locs hP hS => ?_)
    refine lv_aload_n hx hb d_Reader_open_15 rfl (lv_at hl 0 rfl) ?_
    refine lv_iconst (v := 0) hx hb d_Reader_open_16 ic_0 ?_
    refine pC_Reader_inBar hx hb hw hown hK hD hS hP (hw _ m_Reader_70) vz0 d_Reader_open_17 (fun H locs hP hS => ?_)
    exact j20 x1 (upd (upd I1 16 (I1 15)) 20 0) A1 _ _ _ h hP hS (lv_sub hl [0, 1] rfl)
theorem k_Reader_open {p : Program} {l : Launch} {e : Env} {R : Room} {s : State} {m : MethodId} {args : Array Value} {below : List Frame} {meth : Method} {c : Code} {H : Heap} {locs : List Loc} {cells slots : Nat} {Q : State → Prop} {cc : ByteArray} {pc nL idx : Nat} {own : String} {ls : Array Slot} {D : va_G} {cA a : Nat → Nat} {AA : Nat → Prop} {I : Nat → Int32} {A : Nat → Nat → Int32} {post : (Nat → Int32) → (Nat → Nat → Int32) → Prop} (x1 : Int32) {rest : List Value} (S : CallFix p m c cc nL s args WALL own) (hK : KC D cA a AA s) (hD : ∀ I A, va_D AA (wC cA a I A)) (hA : ∀ q : Nat, s.heap.size ≤ q → AA q) (hS : va_S AA s.heap H locs) (hP : va_P D cls (wC cA a I A) H) (hl1 : ls.size = nL) (hlink : (Cond.methodLink own idx y_Reader_open).before args s = true) (hst : (rest.map fun v => v.category).sum ≤ 8) (hR : ({ frames := 3, cells := 0, slots := 0, locals := 62 } : Room).frames + 1 ≤ R.frames ∧ 8 + (2 + 11) + ({ frames := 3, cells := 0, slots := 0, locals := 62 } : Room).locals ≤ R.locals) (hcs : cells ≤ R.cells ∧ slots ≤ R.slots) (hdg : decode cc pc = .ok (.invokevirtual idx, 3)) (h : wp_Reader_open x1 I A post) (kk : ∀ (I1 : Nat → Int32) (A1 : Nat → Nat → Int32) (H1 : Heap) (locs1 : List Loc), post I1 A1 → va_P D cls (wC cA a I1 A1) H1 → va_S AA s.heap H1 locs1 → W p l e R s m args below meth c H1 locs1 cells slots Q (F0 m (pc + 3) ls rest)) : W p l e R s m args below meth c H locs cells slots Q (F0 m pc ls (.int x1 :: .ref (a 2) :: rest)) :=
  va_callv (va_runV (As := [.int x1]) (rest := rest) S (c_Reader_open l D cA a H.size x1 I A post h) ⟨callB_of 1 S.2.2.2.2 g_Reader_open rfl rfl rfl (S.2.2.2.2 _ mi_Reader) hlink ⟨by decide, by decide, by decide +kernel⟩ hR, S.2.2.2.2 _ mn_Reader_open, S.2.2.2.2 _ ms_Reader_open⟩ (preCV hK hD hA hS hP 2 rfl rfl) rfl rfl hl1 rfl (lv_room hst) hdg hcs) hS (fun q _ z => AC_le hD hA hS q z) (fun q z => AC_le hD hA hS q z) (fun u t H1 locs1 ht _ hp hB _ _ hS1 => kk u.1 u.2 H1 locs1 hp (of_endC ht hB) hS1)
def wp_Tune_setLine (x1 : Int32) (I : Nat → Int32) (A : Nat → Nat → Int32) (post : (Nat → Int32) → (Nat → Nat → Int32) → Prop) : Prop := (vp_in (I 0) 9 ∧ post I (upd2 A 4 ((I 0).toNatClampNeg) x1))
theorem d_Tune_setLine_0 : decode b_Tune_setLine 0 = .ok (.aload_n 0, 1) := by decide +kernel
theorem d_Tune_setLine_1 : decode b_Tune_setLine 1 = .ok (.getfield 9, 3) := by decide +kernel
theorem d_Tune_setLine_4 : decode b_Tune_setLine 4 = .ok (.aload_n 0, 1) := by decide +kernel
theorem d_Tune_setLine_5 : decode b_Tune_setLine 5 = .ok (.getfield 40, 3) := by decide +kernel
theorem d_Tune_setLine_8 : decode b_Tune_setLine 8 = .ok (.iload_n 1, 1) := by decide +kernel
theorem d_Tune_setLine_9 : decode b_Tune_setLine 9 = .ok (.iastore, 1) := by decide +kernel
theorem d_Tune_setLine_10 : decode b_Tune_setLine 10 = .ok (.return_, 1) := by decide +kernel
def w_Tune_setLine : List Cond := .code y_Tune_setLine b_Tune_setLine 2 none :: WALL
theorem g_Tune_setLine : GoodIn WALL w_Tune_setLine := good_of mc_Tune_setLine
set_option maxHeartbeats 4000000 in
set_option maxRecDepth 100000 in
theorem c_Tune_setLine (l : Launch) (D : va_G) (cA a : Nat → Nat) (sz : Nat) (x1 : Int32) (I : Nat → Int32) (A : Nat → Nat → Int32) (post : (Nat → Int32) → (Nat → Nat → Int32) → Prop) (h : wp_Tune_setLine x1 I A post) : Met l y_Tune_setLine w_Tune_setLine ({ frames := 0, cells := 0, slots := 0, locals := 0 }) (va_Pc [.ref (a 3), .int x1] (PreC D cA a I A sz)) (va_Qv (fun (u : StW) => post u.1 u.2) (EndC D cA a) (AC a sz)) 0 0 (AC a sz) := by
  refine Met.ofW (cc := b_Tune_setLine) (maxL := 2) (ret := none) (by decide) rfl ?_
  intro p e s m args below meth c s₁ B hml hv
  obtain ⟨rfl, hsz, hP, hK, hD0⟩ := hv
  have hx := B.exec
  have hb := B.bytes
  have hr := B.returns
  have hts := atoms_spec (ws := w_Tune_setLine) B.pre
  have hw := wall_of hts
  have hown : s.vm.findClass R_Tune = some m.cls := findClass_of_methodNamed B.named
  have hlocks := B.notSynchronized
  subst hsz
  have hD := hDC (sz := s.heap.size) hD0
  have hA : ∀ q : Nat, s.heap.size ≤ q → AC a s.heap.size q := fun q h => Or.inr h
  have hS : va_S (AC a s.heap.size) s.heap s.heap [] := va_S.rf
  have hl := lv_entry ([.ref (a 3), .int x1]) (n := 2) (Nat.le_of_ble_eq_true rfl)
  rw [lg_entry_eq]
  generalize (lg_sl ([.ref (a 3), .int x1]) ++ List.replicate (2 - (lg_sl ([.ref (a 3), .int x1])).length) Slot.unset).toArray = ls at hl ⊢
  have hl : lv_has ls 2 [(0, .ref (a 3)), (1, .int x1)] := hl
  unfold wp_Tune_setLine at h
  refine lv_aload_n hx hb d_Tune_setLine_0 rfl (lv_at hl 0 rfl) ?_
  refine gC_Tune_line hx hb hw hown hK hP (hw _ m_Tune_9) d_Tune_setLine_1 ?_
  refine lv_aload_n hx hb d_Tune_setLine_4 rfl (lv_at hl 0 rfl) ?_
  refine gC_Tune_barCount hx hb hw hown hK hP (hw _ m_Tune_40) d_Tune_setLine_5 ?_
  refine lv_iload_n hx hb d_Tune_setLine_8 rfl (lv_at hl 1 rfl) ?_
  obtain ⟨hin, h⟩ := h
  refine sC4 hx hb hK hD hS hP hin d_Tune_setLine_9 (fun H locs hP hS => ?_)
  exact W.vret hx hb hr (fun t ht hW => ⟨⟨(I, (upd2 A 4 ((I 0).toNatClampNeg) x1)), rfl, h, endC_of ht hP⟩, hS.F ht⟩) hS.2.2 d_Tune_setLine_10
theorem k_Tune_setLine {p : Program} {l : Launch} {e : Env} {R : Room} {s : State} {m : MethodId} {args : Array Value} {below : List Frame} {meth : Method} {c : Code} {H : Heap} {locs : List Loc} {cells slots : Nat} {Q : State → Prop} {cc : ByteArray} {pc nL idx : Nat} {own : String} {ls : Array Slot} {D : va_G} {cA a : Nat → Nat} {AA : Nat → Prop} {I : Nat → Int32} {A : Nat → Nat → Int32} {post : (Nat → Int32) → (Nat → Nat → Int32) → Prop} (x1 : Int32) {rest : List Value} (S : CallFix p m c cc nL s args WALL own) (hK : KC D cA a AA s) (hD : ∀ I A, va_D AA (wC cA a I A)) (hA : ∀ q : Nat, s.heap.size ≤ q → AA q) (hS : va_S AA s.heap H locs) (hP : va_P D cls (wC cA a I A) H) (hl1 : ls.size = nL) (hlink : (Cond.methodLink own idx y_Tune_setLine).before args s = true) (hst : (rest.map fun v => v.category).sum ≤ 8) (hR : ({ frames := 0, cells := 0, slots := 0, locals := 0 } : Room).frames + 1 ≤ R.frames ∧ 8 + (2 + 11) + ({ frames := 0, cells := 0, slots := 0, locals := 0 } : Room).locals ≤ R.locals) (hcs : cells ≤ R.cells ∧ slots ≤ R.slots) (hdg : decode cc pc = .ok (.invokevirtual idx, 3)) (h : wp_Tune_setLine x1 I A post) (kk : ∀ (I1 : Nat → Int32) (A1 : Nat → Nat → Int32) (H1 : Heap) (locs1 : List Loc), post I1 A1 → va_P D cls (wC cA a I1 A1) H1 → va_S AA s.heap H1 locs1 → W p l e R s m args below meth c H1 locs1 cells slots Q (F0 m (pc + 3) ls rest)) : W p l e R s m args below meth c H locs cells slots Q (F0 m pc ls (.int x1 :: .ref (a 3) :: rest)) :=
  va_callv (va_runV (As := [.int x1]) (rest := rest) S (c_Tune_setLine l D cA a H.size x1 I A post h) ⟨callB_of 1 S.2.2.2.2 g_Tune_setLine rfl rfl rfl (S.2.2.2.2 _ mi_Tune) hlink ⟨by decide, by decide, by decide +kernel⟩ hR, S.2.2.2.2 _ mn_Tune_setLine, S.2.2.2.2 _ ms_Tune_setLine⟩ (preCV hK hD hA hS hP 3 rfl rfl) rfl rfl hl1 rfl (lv_room hst) hdg hcs) hS (fun q _ z => AC_le hD hA hS q z) (fun q z => AC_le hD hA hS q z) (fun u t H1 locs1 ht _ hp hB _ _ hS1 => kk u.1 u.2 H1 locs1 hp (of_endC ht hB) hS1)
def wp_Reader_growLine (x1 : Int32) (I : Nat → Int32) (A : Nat → Nat → Int32) (post : (Nat → Int32) → (Nat → Nat → Int32) → Prop) : Prop := ((x1 = 32 → post I A) ∧ (¬ x1 = 32 → (((I 14) = 2 → ((x1 = 58 → (wp_Tune_setLine 3 I A (fun I30 A30 => post I30 A30))) ∧ (¬ x1 = 58 → (wp_Tune_setLine 2 I A (fun I30 A30 => post I30 A30))))) ∧ (¬ (I 14) = 2 → ((x1 = 58 → (wp_Tune_setLine 1 I A (fun I51 A51 => post I51 A51))) ∧ (¬ x1 = 58 → (wp_Tune_setLine 4 I A (fun I51 A51 => post I51 A51))))))))
theorem d_Reader_growLine_0 : decode b_Reader_growLine 0 = .ok (.iload_n 1, 1) := by decide +kernel
theorem d_Reader_growLine_1 : decode b_Reader_growLine 1 = .ok (.bipush 32, 2) := by decide +kernel
theorem d_Reader_growLine_3 : decode b_Reader_growLine 3 = .ok (.if_icmp .ne 4, 3) := by decide +kernel
theorem d_Reader_growLine_6 : decode b_Reader_growLine 6 = .ok (.return_, 1) := by decide +kernel
theorem d_Reader_growLine_7 : decode b_Reader_growLine 7 = .ok (.aload_n 0, 1) := by decide +kernel
theorem d_Reader_growLine_8 : decode b_Reader_growLine 8 = .ok (.getfield 55, 3) := by decide +kernel
theorem d_Reader_growLine_11 : decode b_Reader_growLine 11 = .ok (.iconst 2, 1) := by decide +kernel
theorem d_Reader_growLine_12 : decode b_Reader_growLine 12 = .ok (.if_icmp .ne 24, 3) := by decide +kernel
theorem d_Reader_growLine_15 : decode b_Reader_growLine 15 = .ok (.aload_n 0, 1) := by decide +kernel
theorem d_Reader_growLine_16 : decode b_Reader_growLine 16 = .ok (.getfield 14, 3) := by decide +kernel
theorem d_Reader_growLine_19 : decode b_Reader_growLine 19 = .ok (.iload_n 1, 1) := by decide +kernel
theorem d_Reader_growLine_20 : decode b_Reader_growLine 20 = .ok (.bipush 58, 2) := by decide +kernel
theorem d_Reader_growLine_22 : decode b_Reader_growLine 22 = .ok (.if_icmp .ne 7, 3) := by decide +kernel
theorem d_Reader_growLine_25 : decode b_Reader_growLine 25 = .ok (.iconst 3, 1) := by decide +kernel
theorem d_Reader_growLine_26 : decode b_Reader_growLine 26 = .ok (.goto 4, 3) := by decide +kernel
theorem d_Reader_growLine_29 : decode b_Reader_growLine 29 = .ok (.iconst 2, 1) := by decide +kernel
theorem d_Reader_growLine_30 : decode b_Reader_growLine 30 = .ok (.invokevirtual 201, 3) := by decide +kernel
theorem d_Reader_growLine_33 : decode b_Reader_growLine 33 = .ok (.goto 21, 3) := by decide +kernel
theorem d_Reader_growLine_36 : decode b_Reader_growLine 36 = .ok (.aload_n 0, 1) := by decide +kernel
theorem d_Reader_growLine_37 : decode b_Reader_growLine 37 = .ok (.getfield 14, 3) := by decide +kernel
theorem d_Reader_growLine_40 : decode b_Reader_growLine 40 = .ok (.iload_n 1, 1) := by decide +kernel
theorem d_Reader_growLine_41 : decode b_Reader_growLine 41 = .ok (.bipush 58, 2) := by decide +kernel
theorem d_Reader_growLine_43 : decode b_Reader_growLine 43 = .ok (.if_icmp .ne 7, 3) := by decide +kernel
theorem d_Reader_growLine_46 : decode b_Reader_growLine 46 = .ok (.iconst 1, 1) := by decide +kernel
theorem d_Reader_growLine_47 : decode b_Reader_growLine 47 = .ok (.goto 4, 3) := by decide +kernel
theorem d_Reader_growLine_50 : decode b_Reader_growLine 50 = .ok (.iconst 4, 1) := by decide +kernel
theorem d_Reader_growLine_51 : decode b_Reader_growLine 51 = .ok (.invokevirtual 201, 3) := by decide +kernel
theorem d_Reader_growLine_54 : decode b_Reader_growLine 54 = .ok (.return_, 1) := by decide +kernel
def w_Reader_growLine : List Cond := .code y_Reader_growLine b_Reader_growLine 2 none :: WALL
theorem g_Reader_growLine : GoodIn WALL w_Reader_growLine := good_of mc_Reader_growLine
set_option maxHeartbeats 4000000 in
set_option maxRecDepth 100000 in
theorem c_Reader_growLine (l : Launch) (D : va_G) (cA a : Nat → Nat) (sz : Nat) (x1 : Int32) (I : Nat → Int32) (A : Nat → Nat → Int32) (post : (Nat → Int32) → (Nat → Nat → Int32) → Prop) (h : wp_Reader_growLine x1 I A post) : Met l y_Reader_growLine w_Reader_growLine ({ frames := 1, cells := 0, slots := 0, locals := 21 }) (va_Pc [.ref (a 2), .int x1] (PreC D cA a I A sz)) (va_Qv (fun (u : StW) => post u.1 u.2) (EndC D cA a) (AC a sz)) 0 0 (AC a sz) := by
  refine Met.ofW (cc := b_Reader_growLine) (maxL := 2) (ret := none) (by decide) rfl ?_
  intro p e s m args below meth c s₁ B hml hv
  obtain ⟨rfl, hsz, hP, hK, hD0⟩ := hv
  have hx := B.exec
  have hb := B.bytes
  have hr := B.returns
  have hts := atoms_spec (ws := w_Reader_growLine) B.pre
  have hw := wall_of hts
  have hown : s.vm.findClass R_Reader = some m.cls := findClass_of_methodNamed B.named
  have hlocks := B.notSynchronized
  subst hsz
  have hD := hDC (sz := s.heap.size) hD0
  have hA : ∀ q : Nat, s.heap.size ≤ q → AC a s.heap.size q := fun q h => Or.inr h
  have hS : va_S (AC a s.heap.size) s.heap s.heap [] := va_S.rf
  have hl := lv_entry ([.ref (a 2), .int x1]) (n := 2) (Nat.le_of_ble_eq_true rfl)
  rw [lg_entry_eq]
  generalize (lg_sl ([.ref (a 2), .int x1]) ++ List.replicate (2 - (lg_sl ([.ref (a 2), .int x1])).length) Slot.unset).toArray = ls at hl ⊢
  have hl : lv_has ls 2 [(0, .ref (a 2)), (1, .int x1)] := hl
  unfold wp_Reader_growLine at h
  refine lv_iload_n hx hb d_Reader_growLine_0 rfl (lv_at hl 1 rfl) ?_
  refine lv_bipush (v := 32) hx hb d_Reader_growLine_1 bp_32 ?_
  refine lv_icmp_ne (tgt := 7) hx hb d_Reader_growLine_3 rfl (fun q => ?_) (fun q => ?_)
  · have h := h.2 q
    refine lv_aload_n hx hb d_Reader_growLine_7 rfl (lv_at hl 0 rfl) ?_
    refine gC_Reader_state hx hb hw hown hK hP (hw _ m_Reader_55) d_Reader_growLine_8 ?_
    refine lv_iconst (v := 2) hx hb d_Reader_growLine_11 ic_2 ?_
    refine lv_icmp_ne (tgt := 36) hx hb d_Reader_growLine_12 rfl (fun q => ?_) (fun q => ?_)
    · have h := h.2 q
      refine lv_aload_n hx hb d_Reader_growLine_36 rfl (lv_at hl 0 rfl) ?_
      refine gC_Reader_tune hx hb hw hown hK hP (hw _ m_Reader_14) d_Reader_growLine_37 ?_
      refine lv_iload_n hx hb d_Reader_growLine_40 rfl (lv_at hl 1 rfl) ?_
      refine lv_bipush (v := 58) hx hb d_Reader_growLine_41 bp_58 ?_
      refine lv_icmp_ne (tgt := 50) hx hb d_Reader_growLine_43 rfl (fun q => ?_) (fun q => ?_)
      · have h := h.2 q
        refine lv_iconst (v := 4) hx hb d_Reader_growLine_50 ic_4 ?_
        refine k_Tune_setLine 4 (rest := []) ⟨hx, hb, hml, hown, hw⟩ hK hD hA hS hP hl.1 (hw _ m_Reader_201) (Nat.le_of_ble_eq_true rfl) ⟨Nat.le_of_ble_eq_true rfl, Nat.le_of_ble_eq_true rfl⟩ ⟨Nat.zero_le _, Nat.zero_le _⟩ d_Reader_growLine_51 h (fun I51 A51 H locs h hP hS => ?_)
        exact W.vret hx hb hr (fun t ht hW => ⟨⟨(I51, A51), rfl, h, endC_of ht hP⟩, hS.F ht⟩) hS.2.2 d_Reader_growLine_54
      · have h := h.1 q
        refine lv_iconst (v := 1) hx hb d_Reader_growLine_46 ic_1 ?_
        refine lv_goto (tgt := 51) hx hb d_Reader_growLine_47 rfl ?_
        refine k_Tune_setLine 1 (rest := []) ⟨hx, hb, hml, hown, hw⟩ hK hD hA hS hP hl.1 (hw _ m_Reader_201) (Nat.le_of_ble_eq_true rfl) ⟨Nat.le_of_ble_eq_true rfl, Nat.le_of_ble_eq_true rfl⟩ ⟨Nat.zero_le _, Nat.zero_le _⟩ d_Reader_growLine_51 h (fun I51 A51 H locs h hP hS => ?_)
        exact W.vret hx hb hr (fun t ht hW => ⟨⟨(I51, A51), rfl, h, endC_of ht hP⟩, hS.F ht⟩) hS.2.2 d_Reader_growLine_54
    · have h := h.1 q
      refine lv_aload_n hx hb d_Reader_growLine_15 rfl (lv_at hl 0 rfl) ?_
      refine gC_Reader_tune hx hb hw hown hK hP (hw _ m_Reader_14) d_Reader_growLine_16 ?_
      refine lv_iload_n hx hb d_Reader_growLine_19 rfl (lv_at hl 1 rfl) ?_
      refine lv_bipush (v := 58) hx hb d_Reader_growLine_20 bp_58 ?_
      refine lv_icmp_ne (tgt := 29) hx hb d_Reader_growLine_22 rfl (fun q => ?_) (fun q => ?_)
      · have h := h.2 q
        refine lv_iconst (v := 2) hx hb d_Reader_growLine_29 ic_2 ?_
        refine k_Tune_setLine 2 (rest := []) ⟨hx, hb, hml, hown, hw⟩ hK hD hA hS hP hl.1 (hw _ m_Reader_201) (Nat.le_of_ble_eq_true rfl) ⟨Nat.le_of_ble_eq_true rfl, Nat.le_of_ble_eq_true rfl⟩ ⟨Nat.zero_le _, Nat.zero_le _⟩ d_Reader_growLine_30 h (fun I30 A30 H locs h hP hS => ?_)
        refine lv_goto (tgt := 54) hx hb d_Reader_growLine_33 rfl ?_
        exact W.vret hx hb hr (fun t ht hW => ⟨⟨(I30, A30), rfl, h, endC_of ht hP⟩, hS.F ht⟩) hS.2.2 d_Reader_growLine_54
      · have h := h.1 q
        refine lv_iconst (v := 3) hx hb d_Reader_growLine_25 ic_3 ?_
        refine lv_goto (tgt := 30) hx hb d_Reader_growLine_26 rfl ?_
        refine k_Tune_setLine 3 (rest := []) ⟨hx, hb, hml, hown, hw⟩ hK hD hA hS hP hl.1 (hw _ m_Reader_201) (Nat.le_of_ble_eq_true rfl) ⟨Nat.le_of_ble_eq_true rfl, Nat.le_of_ble_eq_true rfl⟩ ⟨Nat.zero_le _, Nat.zero_le _⟩ d_Reader_growLine_30 h (fun I30 A30 H locs h hP hS => ?_)
        refine lv_goto (tgt := 54) hx hb d_Reader_growLine_33 rfl ?_
        exact W.vret hx hb hr (fun t ht hW => ⟨⟨(I30, A30), rfl, h, endC_of ht hP⟩, hS.F ht⟩) hS.2.2 d_Reader_growLine_54
  · have h := h.1 q
    exact W.vret hx hb hr (fun t ht hW => ⟨⟨(I, A), rfl, h, endC_of ht hP⟩, hS.F ht⟩) hS.2.2 d_Reader_growLine_6
theorem k_Reader_growLine {p : Program} {l : Launch} {e : Env} {R : Room} {s : State} {m : MethodId} {args : Array Value} {below : List Frame} {meth : Method} {c : Code} {H : Heap} {locs : List Loc} {cells slots : Nat} {Q : State → Prop} {cc : ByteArray} {pc nL idx : Nat} {own : String} {ls : Array Slot} {D : va_G} {cA a : Nat → Nat} {AA : Nat → Prop} {I : Nat → Int32} {A : Nat → Nat → Int32} {post : (Nat → Int32) → (Nat → Nat → Int32) → Prop} (x1 : Int32) {rest : List Value} (S : CallFix p m c cc nL s args WALL own) (hK : KC D cA a AA s) (hD : ∀ I A, va_D AA (wC cA a I A)) (hA : ∀ q : Nat, s.heap.size ≤ q → AA q) (hS : va_S AA s.heap H locs) (hP : va_P D cls (wC cA a I A) H) (hl1 : ls.size = nL) (hlink : (Cond.methodLink own idx y_Reader_growLine).before args s = true) (hst : (rest.map fun v => v.category).sum ≤ 8) (hR : ({ frames := 1, cells := 0, slots := 0, locals := 21 } : Room).frames + 1 ≤ R.frames ∧ 8 + (2 + 11) + ({ frames := 1, cells := 0, slots := 0, locals := 21 } : Room).locals ≤ R.locals) (hcs : cells ≤ R.cells ∧ slots ≤ R.slots) (hdg : decode cc pc = .ok (.invokevirtual idx, 3)) (h : wp_Reader_growLine x1 I A post) (kk : ∀ (I1 : Nat → Int32) (A1 : Nat → Nat → Int32) (H1 : Heap) (locs1 : List Loc), post I1 A1 → va_P D cls (wC cA a I1 A1) H1 → va_S AA s.heap H1 locs1 → W p l e R s m args below meth c H1 locs1 cells slots Q (F0 m (pc + 3) ls rest)) : W p l e R s m args below meth c H locs cells slots Q (F0 m pc ls (.int x1 :: .ref (a 2) :: rest)) :=
  va_callv (va_runV (As := [.int x1]) (rest := rest) S (c_Reader_growLine l D cA a H.size x1 I A post h) ⟨callB_of 1 S.2.2.2.2 g_Reader_growLine rfl rfl rfl (S.2.2.2.2 _ mi_Reader) hlink ⟨by decide, by decide, by decide +kernel⟩ hR, S.2.2.2.2 _ mn_Reader_growLine, S.2.2.2.2 _ ms_Reader_growLine⟩ (preCV hK hD hA hS hP 2 rfl rfl) rfl rfl hl1 rfl (lv_room hst) hdg hcs) hS (fun q _ z => AC_le hD hA hS q z) (fun q z => AC_le hD hA hS q z) (fun u t H1 locs1 ht _ hp hB _ _ hS1 => kk u.1 u.2 H1 locs1 hp (of_endC ht hB) hS1)
def wp_Tune_setEnding (x1 : Int32) (I : Nat → Int32) (A : Nat → Nat → Int32) (post : (Nat → Int32) → (Nat → Nat → Int32) → Prop) : Prop := (((I 0) ≤ 0 → post I A) ∧ (¬ (I 0) ≤ 0 → (vp_in ((I 0) - 1) 8 ∧ post I (upd2 A 5 (((I 0) - 1).toNatClampNeg) x1))))
theorem d_Tune_setEnding_0 : decode b_Tune_setEnding 0 = .ok (.aload_n 0, 1) := by decide +kernel
theorem d_Tune_setEnding_1 : decode b_Tune_setEnding 1 = .ok (.getfield 40, 3) := by decide +kernel
theorem d_Tune_setEnding_4 : decode b_Tune_setEnding 4 = .ok (.ifCond .le 15, 3) := by decide +kernel
theorem d_Tune_setEnding_7 : decode b_Tune_setEnding 7 = .ok (.aload_n 0, 1) := by decide +kernel
theorem d_Tune_setEnding_8 : decode b_Tune_setEnding 8 = .ok (.getfield 15, 3) := by decide +kernel
theorem d_Tune_setEnding_11 : decode b_Tune_setEnding 11 = .ok (.aload_n 0, 1) := by decide +kernel
theorem d_Tune_setEnding_12 : decode b_Tune_setEnding 12 = .ok (.getfield 40, 3) := by decide +kernel
theorem d_Tune_setEnding_15 : decode b_Tune_setEnding 15 = .ok (.iconst 1, 1) := by decide +kernel
theorem d_Tune_setEnding_16 : decode b_Tune_setEnding 16 = .ok (.isub, 1) := by decide +kernel
theorem d_Tune_setEnding_17 : decode b_Tune_setEnding 17 = .ok (.iload_n 1, 1) := by decide +kernel
theorem d_Tune_setEnding_18 : decode b_Tune_setEnding 18 = .ok (.iastore, 1) := by decide +kernel
theorem d_Tune_setEnding_19 : decode b_Tune_setEnding 19 = .ok (.return_, 1) := by decide +kernel
def w_Tune_setEnding : List Cond := .code y_Tune_setEnding b_Tune_setEnding 2 none :: WALL
theorem g_Tune_setEnding : GoodIn WALL w_Tune_setEnding := good_of mc_Tune_setEnding
set_option maxHeartbeats 4000000 in
set_option maxRecDepth 100000 in
theorem c_Tune_setEnding (l : Launch) (D : va_G) (cA a : Nat → Nat) (sz : Nat) (x1 : Int32) (I : Nat → Int32) (A : Nat → Nat → Int32) (post : (Nat → Int32) → (Nat → Nat → Int32) → Prop) (h : wp_Tune_setEnding x1 I A post) : Met l y_Tune_setEnding w_Tune_setEnding ({ frames := 0, cells := 0, slots := 0, locals := 0 }) (va_Pc [.ref (a 3), .int x1] (PreC D cA a I A sz)) (va_Qv (fun (u : StW) => post u.1 u.2) (EndC D cA a) (AC a sz)) 0 0 (AC a sz) := by
  refine Met.ofW (cc := b_Tune_setEnding) (maxL := 2) (ret := none) (by decide) rfl ?_
  intro p e s m args below meth c s₁ B hml hv
  obtain ⟨rfl, hsz, hP, hK, hD0⟩ := hv
  have hx := B.exec
  have hb := B.bytes
  have hr := B.returns
  have hts := atoms_spec (ws := w_Tune_setEnding) B.pre
  have hw := wall_of hts
  have hown : s.vm.findClass R_Tune = some m.cls := findClass_of_methodNamed B.named
  have hlocks := B.notSynchronized
  subst hsz
  have hD := hDC (sz := s.heap.size) hD0
  have hA : ∀ q : Nat, s.heap.size ≤ q → AC a s.heap.size q := fun q h => Or.inr h
  have hS : va_S (AC a s.heap.size) s.heap s.heap [] := va_S.rf
  have hl := lv_entry ([.ref (a 3), .int x1]) (n := 2) (Nat.le_of_ble_eq_true rfl)
  rw [lg_entry_eq]
  generalize (lg_sl ([.ref (a 3), .int x1]) ++ List.replicate (2 - (lg_sl ([.ref (a 3), .int x1])).length) Slot.unset).toArray = ls at hl ⊢
  have hl : lv_has ls 2 [(0, .ref (a 3)), (1, .int x1)] := hl
  unfold wp_Tune_setEnding at h
  refine lv_aload_n hx hb d_Tune_setEnding_0 rfl (lv_at hl 0 rfl) ?_
  refine gC_Tune_barCount hx hb hw hown hK hP (hw _ m_Tune_40) d_Tune_setEnding_1 ?_
  refine lv_if_le (tgt := 19) hx hb d_Tune_setEnding_4 rfl (fun q => ?_) (fun q => ?_)
  · have h := h.1 q
    exact W.vret hx hb hr (fun t ht hW => ⟨⟨(I, A), rfl, h, endC_of ht hP⟩, hS.F ht⟩) hS.2.2 d_Tune_setEnding_19
  · have h := h.2 q
    refine lv_aload_n hx hb d_Tune_setEnding_7 rfl (lv_at hl 0 rfl) ?_
    refine gC_Tune_ending hx hb hw hown hK hP (hw _ m_Tune_15) d_Tune_setEnding_8 ?_
    refine lv_aload_n hx hb d_Tune_setEnding_11 rfl (lv_at hl 0 rfl) ?_
    refine gC_Tune_barCount hx hb hw hown hK hP (hw _ m_Tune_40) d_Tune_setEnding_12 ?_
    refine lv_iconst (v := 1) hx hb d_Tune_setEnding_15 ic_1 ?_
    refine lv_isub hx hb d_Tune_setEnding_16 ?_
    refine lv_iload_n hx hb d_Tune_setEnding_17 rfl (lv_at hl 1 rfl) ?_
    obtain ⟨hin, h⟩ := h
    refine sC5 hx hb hK hD hS hP hin d_Tune_setEnding_18 (fun H locs hP hS => ?_)
    exact W.vret hx hb hr (fun t ht hW => ⟨⟨(I, (upd2 A 5 (((I 0) - 1).toNatClampNeg) x1)), rfl, h, endC_of ht hP⟩, hS.F ht⟩) hS.2.2 d_Tune_setEnding_19
theorem k_Tune_setEnding {p : Program} {l : Launch} {e : Env} {R : Room} {s : State} {m : MethodId} {args : Array Value} {below : List Frame} {meth : Method} {c : Code} {H : Heap} {locs : List Loc} {cells slots : Nat} {Q : State → Prop} {cc : ByteArray} {pc nL idx : Nat} {own : String} {ls : Array Slot} {D : va_G} {cA a : Nat → Nat} {AA : Nat → Prop} {I : Nat → Int32} {A : Nat → Nat → Int32} {post : (Nat → Int32) → (Nat → Nat → Int32) → Prop} (x1 : Int32) {rest : List Value} (S : CallFix p m c cc nL s args WALL own) (hK : KC D cA a AA s) (hD : ∀ I A, va_D AA (wC cA a I A)) (hA : ∀ q : Nat, s.heap.size ≤ q → AA q) (hS : va_S AA s.heap H locs) (hP : va_P D cls (wC cA a I A) H) (hl1 : ls.size = nL) (hlink : (Cond.methodLink own idx y_Tune_setEnding).before args s = true) (hst : (rest.map fun v => v.category).sum ≤ 8) (hR : ({ frames := 0, cells := 0, slots := 0, locals := 0 } : Room).frames + 1 ≤ R.frames ∧ 8 + (2 + 11) + ({ frames := 0, cells := 0, slots := 0, locals := 0 } : Room).locals ≤ R.locals) (hcs : cells ≤ R.cells ∧ slots ≤ R.slots) (hdg : decode cc pc = .ok (.invokevirtual idx, 3)) (h : wp_Tune_setEnding x1 I A post) (kk : ∀ (I1 : Nat → Int32) (A1 : Nat → Nat → Int32) (H1 : Heap) (locs1 : List Loc), post I1 A1 → va_P D cls (wC cA a I1 A1) H1 → va_S AA s.heap H1 locs1 → W p l e R s m args below meth c H1 locs1 cells slots Q (F0 m (pc + 3) ls rest)) : W p l e R s m args below meth c H locs cells slots Q (F0 m pc ls (.int x1 :: .ref (a 3) :: rest)) :=
  va_callv (va_runV (As := [.int x1]) (rest := rest) S (c_Tune_setEnding l D cA a H.size x1 I A post h) ⟨callB_of 1 S.2.2.2.2 g_Tune_setEnding rfl rfl rfl (S.2.2.2.2 _ mi_Tune) hlink ⟨by decide, by decide, by decide +kernel⟩ hR, S.2.2.2.2 _ mn_Tune_setEnding, S.2.2.2.2 _ ms_Tune_setEnding⟩ (preCV hK hD hA hS hP 3 rfl rfl) rfl rfl hl1 rfl (lv_room hst) hdg hcs) hS (fun q _ z => AC_le hD hA hS q z) (fun q z => AC_le hD hA hS q z) (fun u t H1 locs1 ht _ hp hB _ _ hS1 => kk u.1 u.2 H1 locs1 hp (of_endC ht hB) hS1)
def wp_Tune_setTie (I : Nat → Int32) (A : Nat → Nat → Int32) (post : (Nat → Int32) → (Nat → Nat → Int32) → Prop) : Prop := (((I 1) ≤ 0 → post I A) ∧ (¬ (I 1) ≤ 0 → (vp_in ((I 1) - 1) 48 ∧ post I (upd2 A 11 (((I 1) - 1).toNatClampNeg) 1))))
theorem d_Tune_setTie_0 : decode b_Tune_setTie 0 = .ok (.aload_n 0, 1) := by decide +kernel
theorem d_Tune_setTie_1 : decode b_Tune_setTie 1 = .ok (.getfield 44, 3) := by decide +kernel
theorem d_Tune_setTie_4 : decode b_Tune_setTie 4 = .ok (.ifCond .le 15, 3) := by decide +kernel
theorem d_Tune_setTie_7 : decode b_Tune_setTie 7 = .ok (.aload_n 0, 1) := by decide +kernel
theorem d_Tune_setTie_8 : decode b_Tune_setTie 8 = .ok (.getfield 33, 3) := by decide +kernel
theorem d_Tune_setTie_11 : decode b_Tune_setTie 11 = .ok (.aload_n 0, 1) := by decide +kernel
theorem d_Tune_setTie_12 : decode b_Tune_setTie 12 = .ok (.getfield 44, 3) := by decide +kernel
theorem d_Tune_setTie_15 : decode b_Tune_setTie 15 = .ok (.iconst 1, 1) := by decide +kernel
theorem d_Tune_setTie_16 : decode b_Tune_setTie 16 = .ok (.isub, 1) := by decide +kernel
theorem d_Tune_setTie_17 : decode b_Tune_setTie 17 = .ok (.iconst 1, 1) := by decide +kernel
theorem d_Tune_setTie_18 : decode b_Tune_setTie 18 = .ok (.bastore, 1) := by decide +kernel
theorem d_Tune_setTie_19 : decode b_Tune_setTie 19 = .ok (.return_, 1) := by decide +kernel
def w_Tune_setTie : List Cond := .code y_Tune_setTie b_Tune_setTie 1 none :: WALL
theorem g_Tune_setTie : GoodIn WALL w_Tune_setTie := good_of mc_Tune_setTie
set_option maxHeartbeats 4000000 in
set_option maxRecDepth 100000 in
theorem c_Tune_setTie (l : Launch) (D : va_G) (cA a : Nat → Nat) (sz : Nat) (I : Nat → Int32) (A : Nat → Nat → Int32) (post : (Nat → Int32) → (Nat → Nat → Int32) → Prop) (h : wp_Tune_setTie I A post) : Met l y_Tune_setTie w_Tune_setTie ({ frames := 0, cells := 0, slots := 0, locals := 0 }) (va_Pc [.ref (a 3)] (PreC D cA a I A sz)) (va_Qv (fun (u : StW) => post u.1 u.2) (EndC D cA a) (AC a sz)) 0 0 (AC a sz) := by
  refine Met.ofW (cc := b_Tune_setTie) (maxL := 1) (ret := none) (by decide) rfl ?_
  intro p e s m args below meth c s₁ B hml hv
  obtain ⟨rfl, hsz, hP, hK, hD0⟩ := hv
  have hx := B.exec
  have hb := B.bytes
  have hr := B.returns
  have hts := atoms_spec (ws := w_Tune_setTie) B.pre
  have hw := wall_of hts
  have hown : s.vm.findClass R_Tune = some m.cls := findClass_of_methodNamed B.named
  have hlocks := B.notSynchronized
  subst hsz
  have hD := hDC (sz := s.heap.size) hD0
  have hA : ∀ q : Nat, s.heap.size ≤ q → AC a s.heap.size q := fun q h => Or.inr h
  have hS : va_S (AC a s.heap.size) s.heap s.heap [] := va_S.rf
  have hl := lv_entry ([.ref (a 3)]) (n := 1) (Nat.le_of_ble_eq_true rfl)
  rw [lg_entry_eq]
  generalize (lg_sl ([.ref (a 3)]) ++ List.replicate (1 - (lg_sl ([.ref (a 3)])).length) Slot.unset).toArray = ls at hl ⊢
  have hl : lv_has ls 1 [(0, .ref (a 3))] := hl
  unfold wp_Tune_setTie at h
  refine lv_aload_n hx hb d_Tune_setTie_0 rfl (lv_at hl 0 rfl) ?_
  refine gC_Tune_itemCount hx hb hw hown hK hP (hw _ m_Tune_44) d_Tune_setTie_1 ?_
  refine lv_if_le (tgt := 19) hx hb d_Tune_setTie_4 rfl (fun q => ?_) (fun q => ?_)
  · have h := h.1 q
    exact W.vret hx hb hr (fun t ht hW => ⟨⟨(I, A), rfl, h, endC_of ht hP⟩, hS.F ht⟩) hS.2.2 d_Tune_setTie_19
  · have h := h.2 q
    refine lv_aload_n hx hb d_Tune_setTie_7 rfl (lv_at hl 0 rfl) ?_
    refine gC_Tune_tied hx hb hw hown hK hP (hw _ m_Tune_33) d_Tune_setTie_8 ?_
    refine lv_aload_n hx hb d_Tune_setTie_11 rfl (lv_at hl 0 rfl) ?_
    refine gC_Tune_itemCount hx hb hw hown hK hP (hw _ m_Tune_44) d_Tune_setTie_12 ?_
    refine lv_iconst (v := 1) hx hb d_Tune_setTie_15 ic_1 ?_
    refine lv_isub hx hb d_Tune_setTie_16 ?_
    refine lv_iconst (v := 1) hx hb d_Tune_setTie_17 ic_1 ?_
    obtain ⟨hin, h⟩ := h
    refine sC11 hx hb hK hD hS hP hin vz1 d_Tune_setTie_18 (fun H locs hP hS => ?_)
    exact W.vret hx hb hr (fun t ht hW => ⟨⟨(I, (upd2 A 11 (((I 1) - 1).toNatClampNeg) 1)), rfl, h, endC_of ht hP⟩, hS.F ht⟩) hS.2.2 d_Tune_setTie_19
theorem k_Tune_setTie {p : Program} {l : Launch} {e : Env} {R : Room} {s : State} {m : MethodId} {args : Array Value} {below : List Frame} {meth : Method} {c : Code} {H : Heap} {locs : List Loc} {cells slots : Nat} {Q : State → Prop} {cc : ByteArray} {pc nL idx : Nat} {own : String} {ls : Array Slot} {D : va_G} {cA a : Nat → Nat} {AA : Nat → Prop} {I : Nat → Int32} {A : Nat → Nat → Int32} {post : (Nat → Int32) → (Nat → Nat → Int32) → Prop} {rest : List Value} (S : CallFix p m c cc nL s args WALL own) (hK : KC D cA a AA s) (hD : ∀ I A, va_D AA (wC cA a I A)) (hA : ∀ q : Nat, s.heap.size ≤ q → AA q) (hS : va_S AA s.heap H locs) (hP : va_P D cls (wC cA a I A) H) (hl1 : ls.size = nL) (hlink : (Cond.methodLink own idx y_Tune_setTie).before args s = true) (hst : (rest.map fun v => v.category).sum ≤ 8) (hR : ({ frames := 0, cells := 0, slots := 0, locals := 0 } : Room).frames + 1 ≤ R.frames ∧ 8 + (1 + 11) + ({ frames := 0, cells := 0, slots := 0, locals := 0 } : Room).locals ≤ R.locals) (hcs : cells ≤ R.cells ∧ slots ≤ R.slots) (hdg : decode cc pc = .ok (.invokevirtual idx, 3)) (h : wp_Tune_setTie I A post) (kk : ∀ (I1 : Nat → Int32) (A1 : Nat → Nat → Int32) (H1 : Heap) (locs1 : List Loc), post I1 A1 → va_P D cls (wC cA a I1 A1) H1 → va_S AA s.heap H1 locs1 → W p l e R s m args below meth c H1 locs1 cells slots Q (F0 m (pc + 3) ls rest)) : W p l e R s m args below meth c H locs cells slots Q (F0 m pc ls (.ref (a 3) :: rest)) :=
  va_callv (va_runV (As := []) (rest := rest) S (c_Tune_setTie l D cA a H.size I A post h) ⟨callB_of 0 S.2.2.2.2 g_Tune_setTie rfl rfl rfl (S.2.2.2.2 _ mi_Tune) hlink ⟨by decide, by decide, by decide +kernel⟩ hR, S.2.2.2.2 _ mn_Tune_setTie, S.2.2.2.2 _ ms_Tune_setTie⟩ (preCV hK hD hA hS hP 3 rfl rfl) rfl rfl hl1 rfl (lv_room hst) hdg hcs) hS (fun q _ z => AC_le hD hA hS q z) (fun q z => AC_le hD hA hS q z) (fun u t H1 locs1 ht _ hp hB _ _ hS1 => kk u.1 u.2 H1 locs1 hp (of_endC ht hB) hS1)
def wp_PitchFinder_setSign (x1 : Int32) (I : Nat → Int32) (A : Nat → Nat → Int32) (post : (Nat → Int32) → (Nat → Nat → Int32) → Prop) : Prop := ((x1 = 94 → post (upd I 6 1) A) ∧ (¬ x1 = 94 → ((x1 = 95 → post (upd I 6 (-1)) A) ∧ (¬ x1 = 95 → post (upd I 6 0) A))))
theorem d_PitchFinder_setSign_0 : decode b_PitchFinder_setSign 0 = .ok (.aload_n 0, 1) := by decide +kernel
theorem d_PitchFinder_setSign_1 : decode b_PitchFinder_setSign 1 = .ok (.iload_n 1, 1) := by decide +kernel
theorem d_PitchFinder_setSign_2 : decode b_PitchFinder_setSign 2 = .ok (.bipush 94, 2) := by decide +kernel
theorem d_PitchFinder_setSign_4 : decode b_PitchFinder_setSign 4 = .ok (.if_icmp .ne 7, 3) := by decide +kernel
theorem d_PitchFinder_setSign_7 : decode b_PitchFinder_setSign 7 = .ok (.iconst 1, 1) := by decide +kernel
theorem d_PitchFinder_setSign_8 : decode b_PitchFinder_setSign 8 = .ok (.goto 14, 3) := by decide +kernel
theorem d_PitchFinder_setSign_11 : decode b_PitchFinder_setSign 11 = .ok (.iload_n 1, 1) := by decide +kernel
theorem d_PitchFinder_setSign_12 : decode b_PitchFinder_setSign 12 = .ok (.bipush 95, 2) := by decide +kernel
theorem d_PitchFinder_setSign_14 : decode b_PitchFinder_setSign 14 = .ok (.if_icmp .ne 7, 3) := by decide +kernel
theorem d_PitchFinder_setSign_17 : decode b_PitchFinder_setSign 17 = .ok (.iconst (-1), 1) := by decide +kernel
theorem d_PitchFinder_setSign_18 : decode b_PitchFinder_setSign 18 = .ok (.goto 4, 3) := by decide +kernel
theorem d_PitchFinder_setSign_21 : decode b_PitchFinder_setSign 21 = .ok (.iconst 0, 1) := by decide +kernel
theorem d_PitchFinder_setSign_22 : decode b_PitchFinder_setSign 22 = .ok (.putfield 13, 3) := by decide +kernel
theorem d_PitchFinder_setSign_25 : decode b_PitchFinder_setSign 25 = .ok (.return_, 1) := by decide +kernel
def w_PitchFinder_setSign : List Cond := .code y_PitchFinder_setSign b_PitchFinder_setSign 2 none :: WALL
theorem g_PitchFinder_setSign : GoodIn WALL w_PitchFinder_setSign := good_of mc_PitchFinder_setSign
set_option maxHeartbeats 4000000 in
set_option maxRecDepth 100000 in
theorem c_PitchFinder_setSign (l : Launch) (D : va_G) (cA a : Nat → Nat) (sz : Nat) (x1 : Int32) (I : Nat → Int32) (A : Nat → Nat → Int32) (post : (Nat → Int32) → (Nat → Nat → Int32) → Prop) (h : wp_PitchFinder_setSign x1 I A post) : Met l y_PitchFinder_setSign w_PitchFinder_setSign ({ frames := 0, cells := 0, slots := 0, locals := 0 }) (va_Pc [.ref (a 13), .int x1] (PreC D cA a I A sz)) (va_Qv (fun (u : StW) => post u.1 u.2) (EndC D cA a) (AC a sz)) 0 0 (AC a sz) := by
  refine Met.ofW (cc := b_PitchFinder_setSign) (maxL := 2) (ret := none) (by decide) rfl ?_
  intro p e s m args below meth c s₁ B hml hv
  obtain ⟨rfl, hsz, hP, hK, hD0⟩ := hv
  have hx := B.exec
  have hb := B.bytes
  have hr := B.returns
  have hts := atoms_spec (ws := w_PitchFinder_setSign) B.pre
  have hw := wall_of hts
  have hown : s.vm.findClass R_PitchFinder = some m.cls := findClass_of_methodNamed B.named
  have hlocks := B.notSynchronized
  subst hsz
  have hD := hDC (sz := s.heap.size) hD0
  have hA : ∀ q : Nat, s.heap.size ≤ q → AC a s.heap.size q := fun q h => Or.inr h
  have hS : va_S (AC a s.heap.size) s.heap s.heap [] := va_S.rf
  have hl := lv_entry ([.ref (a 13), .int x1]) (n := 2) (Nat.le_of_ble_eq_true rfl)
  rw [lg_entry_eq]
  generalize (lg_sl ([.ref (a 13), .int x1]) ++ List.replicate (2 - (lg_sl ([.ref (a 13), .int x1])).length) Slot.unset).toArray = ls at hl ⊢
  have hl : lv_has ls 2 [(0, .ref (a 13)), (1, .int x1)] := hl
  unfold wp_PitchFinder_setSign at h
  refine lv_aload_n hx hb d_PitchFinder_setSign_0 rfl (lv_at hl 0 rfl) ?_
  refine lv_iload_n hx hb d_PitchFinder_setSign_1 rfl (lv_at hl 1 rfl) ?_
  refine lv_bipush (v := 94) hx hb d_PitchFinder_setSign_2 bp_94 ?_
  refine lv_icmp_ne (tgt := 11) hx hb d_PitchFinder_setSign_4 rfl (fun q => ?_) (fun q => ?_)
  · have h := h.2 q
    refine lv_iload_n hx hb d_PitchFinder_setSign_11 rfl (lv_at hl 1 rfl) ?_
    refine lv_bipush (v := 95) hx hb d_PitchFinder_setSign_12 bp_95 ?_
    refine lv_icmp_ne (tgt := 21) hx hb d_PitchFinder_setSign_14 rfl (fun q => ?_) (fun q => ?_)
    · have h := h.2 q
      refine lv_iconst (v := 0) hx hb d_PitchFinder_setSign_21 ic_0 ?_
      refine pC_PitchFinder_sign hx hb hw hown hK hD hS hP (hw _ m_PitchFinder_13) d_PitchFinder_setSign_22 (fun H locs hP hS => ?_)
      exact W.vret hx hb hr (fun t ht hW => ⟨⟨((upd I 6 0), A), rfl, h, endC_of ht hP⟩, hS.F ht⟩) hS.2.2 d_PitchFinder_setSign_25
    · have h := h.1 q
      refine lv_iconst (v := (-1)) hx hb d_PitchFinder_setSign_17 ic_m1 ?_
      refine lv_goto (tgt := 22) hx hb d_PitchFinder_setSign_18 rfl ?_
      refine pC_PitchFinder_sign hx hb hw hown hK hD hS hP (hw _ m_PitchFinder_13) d_PitchFinder_setSign_22 (fun H locs hP hS => ?_)
      exact W.vret hx hb hr (fun t ht hW => ⟨⟨((upd I 6 (-1)), A), rfl, h, endC_of ht hP⟩, hS.F ht⟩) hS.2.2 d_PitchFinder_setSign_25
  · have h := h.1 q
    refine lv_iconst (v := 1) hx hb d_PitchFinder_setSign_7 ic_1 ?_
    refine lv_goto (tgt := 22) hx hb d_PitchFinder_setSign_8 rfl ?_
    refine pC_PitchFinder_sign hx hb hw hown hK hD hS hP (hw _ m_PitchFinder_13) d_PitchFinder_setSign_22 (fun H locs hP hS => ?_)
    exact W.vret hx hb hr (fun t ht hW => ⟨⟨((upd I 6 1), A), rfl, h, endC_of ht hP⟩, hS.F ht⟩) hS.2.2 d_PitchFinder_setSign_25
theorem k_PitchFinder_setSign {p : Program} {l : Launch} {e : Env} {R : Room} {s : State} {m : MethodId} {args : Array Value} {below : List Frame} {meth : Method} {c : Code} {H : Heap} {locs : List Loc} {cells slots : Nat} {Q : State → Prop} {cc : ByteArray} {pc nL idx : Nat} {own : String} {ls : Array Slot} {D : va_G} {cA a : Nat → Nat} {AA : Nat → Prop} {I : Nat → Int32} {A : Nat → Nat → Int32} {post : (Nat → Int32) → (Nat → Nat → Int32) → Prop} (x1 : Int32) {rest : List Value} (S : CallFix p m c cc nL s args WALL own) (hK : KC D cA a AA s) (hD : ∀ I A, va_D AA (wC cA a I A)) (hA : ∀ q : Nat, s.heap.size ≤ q → AA q) (hS : va_S AA s.heap H locs) (hP : va_P D cls (wC cA a I A) H) (hl1 : ls.size = nL) (hlink : (Cond.methodLink own idx y_PitchFinder_setSign).before args s = true) (hst : (rest.map fun v => v.category).sum ≤ 8) (hR : ({ frames := 0, cells := 0, slots := 0, locals := 0 } : Room).frames + 1 ≤ R.frames ∧ 8 + (2 + 11) + ({ frames := 0, cells := 0, slots := 0, locals := 0 } : Room).locals ≤ R.locals) (hcs : cells ≤ R.cells ∧ slots ≤ R.slots) (hdg : decode cc pc = .ok (.invokevirtual idx, 3)) (h : wp_PitchFinder_setSign x1 I A post) (kk : ∀ (I1 : Nat → Int32) (A1 : Nat → Nat → Int32) (H1 : Heap) (locs1 : List Loc), post I1 A1 → va_P D cls (wC cA a I1 A1) H1 → va_S AA s.heap H1 locs1 → W p l e R s m args below meth c H1 locs1 cells slots Q (F0 m (pc + 3) ls rest)) : W p l e R s m args below meth c H locs cells slots Q (F0 m pc ls (.int x1 :: .ref (a 13) :: rest)) :=
  va_callv (va_runV (As := [.int x1]) (rest := rest) S (c_PitchFinder_setSign l D cA a H.size x1 I A post h) ⟨callB_of 1 S.2.2.2.2 g_PitchFinder_setSign rfl rfl rfl (S.2.2.2.2 _ mi_PitchFinder) hlink ⟨by decide, by decide, by decide +kernel⟩ hR, S.2.2.2.2 _ mn_PitchFinder_setSign, S.2.2.2.2 _ ms_PitchFinder_setSign⟩ (preCV hK hD hA hS hP 13 rfl rfl) rfl rfl hl1 rfl (lv_room hst) hdg hcs) hS (fun q _ z => AC_le hD hA hS q z) (fun q z => AC_le hD hA hS q z) (fun u t H1 locs1 ht _ hp hB _ _ hS1 => kk u.1 u.2 H1 locs1 hp (of_endC ht hB) hS1)

def wp_Playing_begin (x1 : Int32) (I : Nat → Int32) (A : Nat → Nat → Int32) (post : Int32 → (Nat → Int32) → (Nat → Nat → Int32) → Prop) : Prop := (((I 23) < 64 → (vp_in (I 23) 64 ∧ (vp_in (I 23) 64 ∧ (vp_in (I 23) 64 ∧ post (((I 23) + 1) - 1) (upd I 23 ((I 23) + 1)) (upd2 (upd2 (upd2 A 17 ((I 23).toNatClampNeg) (I 25)) 18 ((I 23).toNatClampNeg) 0) 19 ((I 23).toNatClampNeg) x1))))) ∧ (¬ (I 23) < 64 → post (-1) (upd I 24 1) A))
theorem d_Playing_begin_0 : decode b_Playing_begin 0 = .ok (.aload_n 0, 1) := by decide +kernel
theorem d_Playing_begin_1 : decode b_Playing_begin 1 = .ok (.getfield 27, 3) := by decide +kernel
theorem d_Playing_begin_4 : decode b_Playing_begin 4 = .ok (.bipush 64, 2) := by decide +kernel
theorem d_Playing_begin_6 : decode b_Playing_begin 6 = .ok (.if_icmp .lt 10, 3) := by decide +kernel
theorem d_Playing_begin_9 : decode b_Playing_begin 9 = .ok (.aload_n 0, 1) := by decide +kernel
theorem d_Playing_begin_10 : decode b_Playing_begin 10 = .ok (.iconst 1, 1) := by decide +kernel
theorem d_Playing_begin_11 : decode b_Playing_begin 11 = .ok (.putfield 31, 3) := by decide +kernel
theorem d_Playing_begin_14 : decode b_Playing_begin 14 = .ok (.iconst (-1), 1) := by decide +kernel
theorem d_Playing_begin_15 : decode b_Playing_begin 15 = .ok (.ireturn, 1) := by decide +kernel
theorem d_Playing_begin_16 : decode b_Playing_begin 16 = .ok (.aload_n 0, 1) := by decide +kernel
theorem d_Playing_begin_17 : decode b_Playing_begin 17 = .ok (.getfield 9, 3) := by decide +kernel
theorem d_Playing_begin_20 : decode b_Playing_begin 20 = .ok (.aload_n 0, 1) := by decide +kernel
theorem d_Playing_begin_21 : decode b_Playing_begin 21 = .ok (.getfield 27, 3) := by decide +kernel
theorem d_Playing_begin_24 : decode b_Playing_begin 24 = .ok (.aload_n 0, 1) := by decide +kernel
theorem d_Playing_begin_25 : decode b_Playing_begin 25 = .ok (.getfield 35, 3) := by decide +kernel
theorem d_Playing_begin_28 : decode b_Playing_begin 28 = .ok (.iastore, 1) := by decide +kernel
theorem d_Playing_begin_29 : decode b_Playing_begin 29 = .ok (.aload_n 0, 1) := by decide +kernel
theorem d_Playing_begin_30 : decode b_Playing_begin 30 = .ok (.getfield 15, 3) := by decide +kernel
theorem d_Playing_begin_33 : decode b_Playing_begin 33 = .ok (.aload_n 0, 1) := by decide +kernel
theorem d_Playing_begin_34 : decode b_Playing_begin 34 = .ok (.getfield 27, 3) := by decide +kernel
theorem d_Playing_begin_37 : decode b_Playing_begin 37 = .ok (.iconst 0, 1) := by decide +kernel
theorem d_Playing_begin_38 : decode b_Playing_begin 38 = .ok (.iastore, 1) := by decide +kernel
theorem d_Playing_begin_39 : decode b_Playing_begin 39 = .ok (.aload_n 0, 1) := by decide +kernel
theorem d_Playing_begin_40 : decode b_Playing_begin 40 = .ok (.getfield 18, 3) := by decide +kernel
theorem d_Playing_begin_43 : decode b_Playing_begin 43 = .ok (.aload_n 0, 1) := by decide +kernel
theorem d_Playing_begin_44 : decode b_Playing_begin 44 = .ok (.getfield 27, 3) := by decide +kernel
theorem d_Playing_begin_47 : decode b_Playing_begin 47 = .ok (.iload_n 1, 1) := by decide +kernel
theorem d_Playing_begin_48 : decode b_Playing_begin 48 = .ok (.iastore, 1) := by decide +kernel
theorem d_Playing_begin_49 : decode b_Playing_begin 49 = .ok (.aload_n 0, 1) := by decide +kernel
theorem d_Playing_begin_50 : decode b_Playing_begin 50 = .ok (.dup, 1) := by decide +kernel
theorem d_Playing_begin_51 : decode b_Playing_begin 51 = .ok (.getfield 27, 3) := by decide +kernel
theorem d_Playing_begin_54 : decode b_Playing_begin 54 = .ok (.iconst 1, 1) := by decide +kernel
theorem d_Playing_begin_55 : decode b_Playing_begin 55 = .ok (.iadd, 1) := by decide +kernel
theorem d_Playing_begin_56 : decode b_Playing_begin 56 = .ok (.putfield 27, 3) := by decide +kernel
theorem d_Playing_begin_59 : decode b_Playing_begin 59 = .ok (.aload_n 0, 1) := by decide +kernel
theorem d_Playing_begin_60 : decode b_Playing_begin 60 = .ok (.getfield 27, 3) := by decide +kernel
theorem d_Playing_begin_63 : decode b_Playing_begin 63 = .ok (.iconst 1, 1) := by decide +kernel
theorem d_Playing_begin_64 : decode b_Playing_begin 64 = .ok (.isub, 1) := by decide +kernel
theorem d_Playing_begin_65 : decode b_Playing_begin 65 = .ok (.ireturn, 1) := by decide +kernel
def w_Playing_begin : List Cond := .code y_Playing_begin b_Playing_begin 2 (some .int) :: WALL
theorem g_Playing_begin : GoodIn WALL w_Playing_begin := good_of mc_Playing_begin
set_option maxHeartbeats 4000000 in
set_option maxRecDepth 100000 in
theorem c_Playing_begin (l : Launch) (D : va_G) (cA a : Nat → Nat) (sz : Nat) (x1 : Int32) (I : Nat → Int32) (A : Nat → Nat → Int32) (post : Int32 → (Nat → Int32) → (Nat → Nat → Int32) → Prop) (h : wp_Playing_begin x1 I A post) : Met l y_Playing_begin w_Playing_begin ({ frames := 0, cells := 0, slots := 0, locals := 0 }) (va_Pc [.ref (a 16), .int x1] (PreC D cA a I A sz)) (va_Qi (fun r (u : StW) => post r u.1 u.2) (EndC D cA a) (AC a sz)) 0 0 (AC a sz) := by
  refine Met.ofW (cc := b_Playing_begin) (maxL := 2) (ret := (some .int)) (by decide) rfl ?_
  intro p e s m args below meth c s₁ B hml hv
  obtain ⟨rfl, hsz, hP, hK, hD0⟩ := hv
  have hx := B.exec
  have hb := B.bytes
  have hr := B.returns
  have hts := atoms_spec (ws := w_Playing_begin) B.pre
  have hw := wall_of hts
  have hown : s.vm.findClass R_Playing = some m.cls := findClass_of_methodNamed B.named
  have hlocks := B.notSynchronized
  subst hsz
  have hD := hDC (sz := s.heap.size) hD0
  have hA : ∀ q : Nat, s.heap.size ≤ q → AC a s.heap.size q := fun q h => Or.inr h
  have hS : va_S (AC a s.heap.size) s.heap s.heap [] := va_S.rf
  have hl := lv_entry ([.ref (a 16), .int x1]) (n := 2) (Nat.le_of_ble_eq_true rfl)
  rw [lg_entry_eq]
  generalize (lg_sl ([.ref (a 16), .int x1]) ++ List.replicate (2 - (lg_sl ([.ref (a 16), .int x1])).length) Slot.unset).toArray = ls at hl ⊢
  have hl : lv_has ls 2 [(0, .ref (a 16)), (1, .int x1)] := hl
  unfold wp_Playing_begin at h
  refine lv_aload_n hx hb d_Playing_begin_0 rfl (lv_at hl 0 rfl) ?_
  refine gC_Playing_count hx hb hw hown hK hP (hw _ m_Playing_27) d_Playing_begin_1 ?_
  refine lv_bipush (v := 64) hx hb d_Playing_begin_4 bp_64 ?_
  refine lv_icmp_lt (tgt := 16) hx hb d_Playing_begin_6 rfl (fun q => ?_) (fun q => ?_)
  · have h := h.1 q
    refine lv_aload_n hx hb d_Playing_begin_16 rfl (lv_at hl 0 rfl) ?_
    refine gC_Playing_onset hx hb hw hown hK hP (hw _ m_Playing_9) d_Playing_begin_17 ?_
    refine lv_aload_n hx hb d_Playing_begin_20 rfl (lv_at hl 0 rfl) ?_
    refine gC_Playing_count hx hb hw hown hK hP (hw _ m_Playing_27) d_Playing_begin_21 ?_
    refine lv_aload_n hx hb d_Playing_begin_24 rfl (lv_at hl 0 rfl) ?_
    refine gC_Playing_now hx hb hw hown hK hP (hw _ m_Playing_35) d_Playing_begin_25 ?_
    obtain ⟨hin, h⟩ := h
    refine sC17 hx hb hK hD hS hP hin d_Playing_begin_28 (fun H locs hP hS => ?_)
    refine lv_aload_n hx hb d_Playing_begin_29 rfl (lv_at hl 0 rfl) ?_
    refine gC_Playing_duration hx hb hw hown hK hP (hw _ m_Playing_15) d_Playing_begin_30 ?_
    refine lv_aload_n hx hb d_Playing_begin_33 rfl (lv_at hl 0 rfl) ?_
    refine gC_Playing_count hx hb hw hown hK hP (hw _ m_Playing_27) d_Playing_begin_34 ?_
    refine lv_iconst (v := 0) hx hb d_Playing_begin_37 ic_0 ?_
    obtain ⟨hin, h⟩ := h
    refine sC18 hx hb hK hD hS hP hin d_Playing_begin_38 (fun H locs hP hS => ?_)
    refine lv_aload_n hx hb d_Playing_begin_39 rfl (lv_at hl 0 rfl) ?_
    refine gC_Playing_pitch hx hb hw hown hK hP (hw _ m_Playing_18) d_Playing_begin_40 ?_
    refine lv_aload_n hx hb d_Playing_begin_43 rfl (lv_at hl 0 rfl) ?_
    refine gC_Playing_count hx hb hw hown hK hP (hw _ m_Playing_27) d_Playing_begin_44 ?_
    refine lv_iload_n hx hb d_Playing_begin_47 rfl (lv_at hl 1 rfl) ?_
    obtain ⟨hin, h⟩ := h
    refine sC19 hx hb hK hD hS hP hin d_Playing_begin_48 (fun H locs hP hS => ?_)
    refine lv_aload_n hx hb d_Playing_begin_49 rfl (lv_at hl 0 rfl) ?_
    refine lv_dup hx hb d_Playing_begin_50 rfl ?_
    refine gC_Playing_count hx hb hw hown hK hP (hw _ m_Playing_27) d_Playing_begin_51 ?_
    refine lv_iconst (v := 1) hx hb d_Playing_begin_54 ic_1 ?_
    refine lv_iadd hx hb d_Playing_begin_55 ?_
    refine pC_Playing_count hx hb hw hown hK hD hS hP (hw _ m_Playing_27) d_Playing_begin_56 (fun H locs hP hS => ?_)
    refine lv_aload_n hx hb d_Playing_begin_59 rfl (lv_at hl 0 rfl) ?_
    refine gC_Playing_count hx hb hw hown hK hP (hw _ m_Playing_27) d_Playing_begin_60 ?_
    refine lv_iconst (v := 1) hx hb d_Playing_begin_63 ic_1 ?_
    refine lv_isub hx hb d_Playing_begin_64 ?_
    exact W.iret hx hb hr (fun t ht hW => ⟨⟨_, ((upd I 23 ((I 23) + 1)), (upd2 (upd2 (upd2 A 17 ((I 23).toNatClampNeg) (I 25)) 18 ((I 23).toNatClampNeg) 0) 19 ((I 23).toNatClampNeg) x1)), rfl, h, endC_of ht hP⟩, hS.F ht⟩) hS.2.2 d_Playing_begin_65
  · have h := h.2 q
    refine lv_aload_n hx hb d_Playing_begin_9 rfl (lv_at hl 0 rfl) ?_
    refine lv_iconst (v := 1) hx hb d_Playing_begin_10 ic_1 ?_
    refine pC_Playing_tooMany hx hb hw hown hK hD hS hP (hw _ m_Playing_31) vz1 d_Playing_begin_11 (fun H locs hP hS => ?_)
    refine lv_iconst (v := (-1)) hx hb d_Playing_begin_14 ic_m1 ?_
    exact W.iret hx hb hr (fun t ht hW => ⟨⟨_, ((upd I 24 1), A), rfl, h, endC_of ht hP⟩, hS.F ht⟩) hS.2.2 d_Playing_begin_15
theorem k_Playing_begin {p : Program} {l : Launch} {e : Env} {R : Room} {s : State} {m : MethodId} {args : Array Value} {below : List Frame} {meth : Method} {c : Code} {H : Heap} {locs : List Loc} {cells slots : Nat} {Q : State → Prop} {cc : ByteArray} {pc nL idx : Nat} {own : String} {ls : Array Slot} {D : va_G} {cA a : Nat → Nat} {AA : Nat → Prop} {I : Nat → Int32} {A : Nat → Nat → Int32} {post : Int32 → (Nat → Int32) → (Nat → Nat → Int32) → Prop} (x1 : Int32) {rest : List Value} (S : CallFix p m c cc nL s args WALL own) (hK : KC D cA a AA s) (hD : ∀ I A, va_D AA (wC cA a I A)) (hA : ∀ q : Nat, s.heap.size ≤ q → AA q) (hS : va_S AA s.heap H locs) (hP : va_P D cls (wC cA a I A) H) (hl1 : ls.size = nL) (hlink : (Cond.methodLink own idx y_Playing_begin).before args s = true) (hst : (rest.map fun v => v.category).sum ≤ 8) (hR : ({ frames := 0, cells := 0, slots := 0, locals := 0 } : Room).frames + 1 ≤ R.frames ∧ 8 + (2 + 11) + ({ frames := 0, cells := 0, slots := 0, locals := 0 } : Room).locals ≤ R.locals) (hcs : cells ≤ R.cells ∧ slots ≤ R.slots) (hdg : decode cc pc = .ok (.invokevirtual idx, 3)) (h : wp_Playing_begin x1 I A post) (kk : ∀ (r : Int32) (I1 : Nat → Int32) (A1 : Nat → Nat → Int32) (H1 : Heap) (locs1 : List Loc), post r I1 A1 → va_P D cls (wC cA a I1 A1) H1 → va_S AA s.heap H1 locs1 → W p l e R s m args below meth c H1 locs1 cells slots Q (F0 m (pc + 3) ls (.int r :: rest))) : W p l e R s m args below meth c H locs cells slots Q (F0 m pc ls (.int x1 :: .ref (a 16) :: rest)) :=
  va_calli (va_runV (As := [.int x1]) (rest := rest) S (c_Playing_begin l D cA a H.size x1 I A post h) ⟨callB_of 1 S.2.2.2.2 g_Playing_begin rfl rfl rfl (S.2.2.2.2 _ mi_Playing) hlink ⟨by decide, by decide, by decide +kernel⟩ hR, S.2.2.2.2 _ mn_Playing_begin, S.2.2.2.2 _ ms_Playing_begin⟩ (preCV hK hD hA hS hP 16 rfl rfl) rfl rfl hl1 rfl (lv_room hst) hdg hcs) hS (fun q _ z => AC_le hD hA hS q z) (fun q z => AC_le hD hA hS q z) (fun r u t H1 locs1 ht _ hp hB _ _ hS1 => kk r u.1 u.2 H1 locs1 hp (of_endC ht hB) hS1)
def wp_Playing_sound_17 (post : (Nat → Int32) → (Nat → Nat → Int32) → Prop) (y2 : Int32) (y3 : Int32) (I : Nat → Int32) (A : Nat → Nat → Int32) : Prop := ((y3 = (-1) → post I A) ∧ (¬ y3 = (-1) → (((I 27) < 4 → (vp_in y3 64 ∧ (vp_in y3 64 ∧ (vp_in (I 27) 4 ∧ post (upd I 27 ((I 27) + 1)) (upd2 (upd2 A 18 (y3.toNatClampNeg) ((A 18 (y3.toNatClampNeg)) + y2)) 21 ((I 27).toNatClampNeg) y3))))) ∧ (¬ (I 27) < 4 → post I A))))
def wp_Playing_sound (x1 : Int32) (x2 : Int32) (I : Nat → Int32) (A : Nat → Nat → Int32) (post : (Nat → Int32) → (Nat → Nat → Int32) → Prop) : Prop := (wp_Playing_takeWaiting x1 I A (fun r2 I2 A2 => ((r2 = (-1) → (wp_Playing_begin x1 I2 A2 (fun r13 I13 A13 => wp_Playing_sound_17 post x2 r13 I13 A13))) ∧ (¬ r2 = (-1) → wp_Playing_sound_17 post x2 r2 I2 A2))))
theorem d_Playing_sound_0 : decode b_Playing_sound 0 = .ok (.aload_n 0, 1) := by decide +kernel
theorem d_Playing_sound_1 : decode b_Playing_sound 1 = .ok (.iload_n 1, 1) := by decide +kernel
theorem d_Playing_sound_2 : decode b_Playing_sound 2 = .ok (.invokevirtual 80, 3) := by decide +kernel
theorem d_Playing_sound_5 : decode b_Playing_sound 5 = .ok (.istore_n 3, 1) := by decide +kernel
theorem d_Playing_sound_6 : decode b_Playing_sound 6 = .ok (.iload_n 3, 1) := by decide +kernel
theorem d_Playing_sound_7 : decode b_Playing_sound 7 = .ok (.iconst (-1), 1) := by decide +kernel
theorem d_Playing_sound_8 : decode b_Playing_sound 8 = .ok (.if_icmp .ne 9, 3) := by decide +kernel
theorem d_Playing_sound_11 : decode b_Playing_sound 11 = .ok (.aload_n 0, 1) := by decide +kernel
theorem d_Playing_sound_12 : decode b_Playing_sound 12 = .ok (.iload_n 1, 1) := by decide +kernel
theorem d_Playing_sound_13 : decode b_Playing_sound 13 = .ok (.invokevirtual 84, 3) := by decide +kernel
theorem d_Playing_sound_16 : decode b_Playing_sound 16 = .ok (.istore_n 3, 1) := by decide +kernel
theorem d_Playing_sound_17 : decode b_Playing_sound 17 = .ok (.iload_n 3, 1) := by decide +kernel
theorem d_Playing_sound_18 : decode b_Playing_sound 18 = .ok (.iconst (-1), 1) := by decide +kernel
theorem d_Playing_sound_19 : decode b_Playing_sound 19 = .ok (.if_icmp .eq 11, 3) := by decide +kernel
theorem d_Playing_sound_22 : decode b_Playing_sound 22 = .ok (.aload_n 0, 1) := by decide +kernel
theorem d_Playing_sound_23 : decode b_Playing_sound 23 = .ok (.getfield 62, 3) := by decide +kernel
theorem d_Playing_sound_26 : decode b_Playing_sound 26 = .ok (.iconst 4, 1) := by decide +kernel
theorem d_Playing_sound_27 : decode b_Playing_sound 27 = .ok (.if_icmp .lt 4, 3) := by decide +kernel
theorem d_Playing_sound_30 : decode b_Playing_sound 30 = .ok (.return_, 1) := by decide +kernel
theorem d_Playing_sound_31 : decode b_Playing_sound 31 = .ok (.aload_n 0, 1) := by decide +kernel
theorem d_Playing_sound_32 : decode b_Playing_sound 32 = .ok (.getfield 15, 3) := by decide +kernel
theorem d_Playing_sound_35 : decode b_Playing_sound 35 = .ok (.iload_n 3, 1) := by decide +kernel
theorem d_Playing_sound_36 : decode b_Playing_sound 36 = .ok (.dup2, 1) := by decide +kernel
theorem d_Playing_sound_37 : decode b_Playing_sound 37 = .ok (.iaload, 1) := by decide +kernel
theorem d_Playing_sound_38 : decode b_Playing_sound 38 = .ok (.iload_n 2, 1) := by decide +kernel
theorem d_Playing_sound_39 : decode b_Playing_sound 39 = .ok (.iadd, 1) := by decide +kernel
theorem d_Playing_sound_40 : decode b_Playing_sound 40 = .ok (.iastore, 1) := by decide +kernel
theorem d_Playing_sound_41 : decode b_Playing_sound 41 = .ok (.aload_n 0, 1) := by decide +kernel
theorem d_Playing_sound_42 : decode b_Playing_sound 42 = .ok (.getfield 24, 3) := by decide +kernel
theorem d_Playing_sound_45 : decode b_Playing_sound 45 = .ok (.aload_n 0, 1) := by decide +kernel
theorem d_Playing_sound_46 : decode b_Playing_sound 46 = .ok (.getfield 62, 3) := by decide +kernel
theorem d_Playing_sound_49 : decode b_Playing_sound 49 = .ok (.iload_n 3, 1) := by decide +kernel
theorem d_Playing_sound_50 : decode b_Playing_sound 50 = .ok (.iastore, 1) := by decide +kernel
theorem d_Playing_sound_51 : decode b_Playing_sound 51 = .ok (.aload_n 0, 1) := by decide +kernel
theorem d_Playing_sound_52 : decode b_Playing_sound 52 = .ok (.dup, 1) := by decide +kernel
theorem d_Playing_sound_53 : decode b_Playing_sound 53 = .ok (.getfield 62, 3) := by decide +kernel
theorem d_Playing_sound_56 : decode b_Playing_sound 56 = .ok (.iconst 1, 1) := by decide +kernel
theorem d_Playing_sound_57 : decode b_Playing_sound 57 = .ok (.iadd, 1) := by decide +kernel
theorem d_Playing_sound_58 : decode b_Playing_sound 58 = .ok (.putfield 62, 3) := by decide +kernel
theorem d_Playing_sound_61 : decode b_Playing_sound 61 = .ok (.return_, 1) := by decide +kernel
def w_Playing_sound : List Cond := .code y_Playing_sound b_Playing_sound 4 none :: WALL
theorem g_Playing_sound : GoodIn WALL w_Playing_sound := good_of mc_Playing_sound
set_option maxHeartbeats 4000000 in
set_option maxRecDepth 100000 in
theorem c_Playing_sound (l : Launch) (D : va_G) (cA a : Nat → Nat) (sz : Nat) (x1 : Int32) (x2 : Int32) (I : Nat → Int32) (A : Nat → Nat → Int32) (post : (Nat → Int32) → (Nat → Nat → Int32) → Prop) (h : wp_Playing_sound x1 x2 I A post) : Met l y_Playing_sound w_Playing_sound ({ frames := 1, cells := 0, slots := 0, locals := 23 }) (va_Pc [.ref (a 16), .int x1, .int x2] (PreC D cA a I A sz)) (va_Qv (fun (u : StW) => post u.1 u.2) (EndC D cA a) (AC a sz)) 0 0 (AC a sz) := by
  refine Met.ofW (cc := b_Playing_sound) (maxL := 4) (ret := none) (by decide) rfl ?_
  intro p e s m args below meth c s₁ B hml hv
  obtain ⟨rfl, hsz, hP, hK, hD0⟩ := hv
  have hx := B.exec
  have hb := B.bytes
  have hr := B.returns
  have hts := atoms_spec (ws := w_Playing_sound) B.pre
  have hw := wall_of hts
  have hown : s.vm.findClass R_Playing = some m.cls := findClass_of_methodNamed B.named
  have hlocks := B.notSynchronized
  subst hsz
  have hD := hDC (sz := s.heap.size) hD0
  have hA : ∀ q : Nat, s.heap.size ≤ q → AC a s.heap.size q := fun q h => Or.inr h
  have hS : va_S (AC a s.heap.size) s.heap s.heap [] := va_S.rf
  have j17 : ∀ (y2 : Int32) (y3 : Int32) (I : Nat → Int32) (A : Nat → Nat → Int32) (H : Heap) (locs : List Loc) (ls : Array Slot), wp_Playing_sound_17 post y2 y3 I A → va_P D cls (wC cA a I A) H → va_S (AC a s.heap.size) s.heap H locs → lv_has ls 4 [(0, .ref (a 16)), (2, .int y2), (3, .int y3)] → W p l e (headSpec w_Playing_sound ({ frames := 1, cells := 0, slots := 0, locals := 23 })).room s m [.ref (a 16), .int x1, .int x2].toArray below meth c H locs 0 0 (MQ below (va_Qv (fun (u : StW) => post u.1 u.2) (EndC D cA a) (AC a s.heap.size)) [.ref (a 16), .int x1, .int x2].toArray s 0 0 (AC a s.heap.size)) (F0 m 17 ls []) := by
    intro y2 y3 I A H locs ls h hP hS hl
    unfold wp_Playing_sound_17 at h
    refine lv_iload_n hx hb d_Playing_sound_17 rfl (lv_at hl 2 rfl) ?_
    refine lv_iconst (v := (-1)) hx hb d_Playing_sound_18 ic_m1 ?_
    refine lv_icmp_eq (tgt := 30) hx hb d_Playing_sound_19 rfl (fun q => ?_) (fun q => ?_)
    · have h := h.1 q
      exact W.vret hx hb hr (fun t ht hW => ⟨⟨(I, A), rfl, h, endC_of ht hP⟩, hS.F ht⟩) hS.2.2 d_Playing_sound_30
    · have h := h.2 q
      refine lv_aload_n hx hb d_Playing_sound_22 rfl (lv_at hl 0 rfl) ?_
      refine gC_Playing_soundingCount hx hb hw hown hK hP (hw _ m_Playing_62) d_Playing_sound_23 ?_
      refine lv_iconst (v := 4) hx hb d_Playing_sound_26 ic_4 ?_
      refine lv_icmp_lt (tgt := 31) hx hb d_Playing_sound_27 rfl (fun q => ?_) (fun q => ?_)
      · have h := h.1 q
        refine lv_aload_n hx hb d_Playing_sound_31 rfl (lv_at hl 0 rfl) ?_
        refine gC_Playing_duration hx hb hw hown hK hP (hw _ m_Playing_15) d_Playing_sound_32 ?_
        refine lv_iload_n hx hb d_Playing_sound_35 rfl (lv_at hl 2 rfl) ?_
        refine lv_dup2_11 hx hb d_Playing_sound_36 rfl rfl ?_
        obtain ⟨hin, h⟩ := h
        refine lC18 hx hb hK hP hin d_Playing_sound_37 ?_
        refine lv_iload_n hx hb d_Playing_sound_38 rfl (lv_at hl 1 rfl) ?_
        refine lv_iadd hx hb d_Playing_sound_39 ?_
        obtain ⟨hin, h⟩ := h
        refine sC18 hx hb hK hD hS hP hin d_Playing_sound_40 (fun H locs hP hS => ?_)
        refine lv_aload_n hx hb d_Playing_sound_41 rfl (lv_at hl 0 rfl) ?_
        refine gC_Playing_sounding hx hb hw hown hK hP (hw _ m_Playing_24) d_Playing_sound_42 ?_
        refine lv_aload_n hx hb d_Playing_sound_45 rfl (lv_at hl 0 rfl) ?_
        refine gC_Playing_soundingCount hx hb hw hown hK hP (hw _ m_Playing_62) d_Playing_sound_46 ?_
        refine lv_iload_n hx hb d_Playing_sound_49 rfl (lv_at hl 2 rfl) ?_
        obtain ⟨hin, h⟩ := h
        refine sC21 hx hb hK hD hS hP hin d_Playing_sound_50 (fun H locs hP hS => ?_)
        refine lv_aload_n hx hb d_Playing_sound_51 rfl (lv_at hl 0 rfl) ?_
        refine lv_dup hx hb d_Playing_sound_52 rfl ?_
        refine gC_Playing_soundingCount hx hb hw hown hK hP (hw _ m_Playing_62) d_Playing_sound_53 ?_
        refine lv_iconst (v := 1) hx hb d_Playing_sound_56 ic_1 ?_
        refine lv_iadd hx hb d_Playing_sound_57 ?_
        refine pC_Playing_soundingCount hx hb hw hown hK hD hS hP (hw _ m_Playing_62) d_Playing_sound_58 (fun H locs hP hS => ?_)
        exact W.vret hx hb hr (fun t ht hW => ⟨⟨((upd I 27 ((I 27) + 1)), (upd2 (upd2 A 18 (y3.toNatClampNeg) ((A 18 (y3.toNatClampNeg)) + y2)) 21 ((I 27).toNatClampNeg) y3)), rfl, h, endC_of ht hP⟩, hS.F ht⟩) hS.2.2 d_Playing_sound_61
      · have h := h.2 q
        exact W.vret hx hb hr (fun t ht hW => ⟨⟨(I, A), rfl, h, endC_of ht hP⟩, hS.F ht⟩) hS.2.2 d_Playing_sound_30
  have hl := lv_entry ([.ref (a 16), .int x1, .int x2]) (n := 4) (Nat.le_of_ble_eq_true rfl)
  rw [lg_entry_eq]
  generalize (lg_sl ([.ref (a 16), .int x1, .int x2]) ++ List.replicate (4 - (lg_sl ([.ref (a 16), .int x1, .int x2])).length) Slot.unset).toArray = ls at hl ⊢
  have hl : lv_has ls 4 [(0, .ref (a 16)), (1, .int x1), (2, .int x2)] := hl
  unfold wp_Playing_sound at h
  refine lv_aload_n hx hb d_Playing_sound_0 rfl (lv_at hl 0 rfl) ?_
  refine lv_iload_n hx hb d_Playing_sound_1 rfl (lv_at hl 1 rfl) ?_
  refine k_Playing_takeWaiting x1 (rest := []) ⟨hx, hb, hml, hown, hw⟩ hK hD hA hS hP hl.1 (hw _ m_Playing_80) (Nat.le_of_ble_eq_true rfl) ⟨Nat.le_of_ble_eq_true rfl, Nat.le_of_ble_eq_true rfl⟩ ⟨Nat.zero_le _, Nat.zero_le _⟩ d_Playing_sound_2 h (fun r2 I2 A2 H locs h hP hS => ?_)
  refine lv_istore_n (lv' := [(3, .int r2), (0, .ref (a 16)), (1, .int x1), (2, .int x2)]) hx hb d_Playing_sound_5 rfl hl (by decide) rfl (fun ls hl => ?_)
  refine lv_iload_n hx hb d_Playing_sound_6 rfl (lv_at hl 0 rfl) ?_
  refine lv_iconst (v := (-1)) hx hb d_Playing_sound_7 ic_m1 ?_
  refine lv_icmp_ne (tgt := 17) hx hb d_Playing_sound_8 rfl (fun q => ?_) (fun q => ?_)
  · have h := h.2 q
    exact j17 x2 r2 I2 A2 _ _ _ h hP hS (lv_sub hl [1, 3, 0] rfl)
  · have h := h.1 q
    refine lv_aload_n hx hb d_Playing_sound_11 rfl (lv_at hl 1 rfl) ?_
    refine lv_iload_n hx hb d_Playing_sound_12 rfl (lv_at hl 2 rfl) ?_
    refine k_Playing_begin x1 (rest := []) ⟨hx, hb, hml, hown, hw⟩ hK hD hA hS hP hl.1 (hw _ m_Playing_84) (Nat.le_of_ble_eq_true rfl) ⟨Nat.le_of_ble_eq_true rfl, Nat.le_of_ble_eq_true rfl⟩ ⟨Nat.zero_le _, Nat.zero_le _⟩ d_Playing_sound_13 h (fun r13 I13 A13 H locs h hP hS => ?_)
    refine lv_istore_n (lv' := [(3, .int r13), (0, .ref (a 16)), (1, .int x1), (2, .int x2)]) hx hb d_Playing_sound_16 rfl hl (by decide) rfl (fun ls hl => ?_)
    exact j17 x2 r13 I13 A13 _ _ _ h hP hS (lv_sub hl [1, 3, 0] rfl)
theorem k_Playing_sound {p : Program} {l : Launch} {e : Env} {R : Room} {s : State} {m : MethodId} {args : Array Value} {below : List Frame} {meth : Method} {c : Code} {H : Heap} {locs : List Loc} {cells slots : Nat} {Q : State → Prop} {cc : ByteArray} {pc nL idx : Nat} {own : String} {ls : Array Slot} {D : va_G} {cA a : Nat → Nat} {AA : Nat → Prop} {I : Nat → Int32} {A : Nat → Nat → Int32} {post : (Nat → Int32) → (Nat → Nat → Int32) → Prop} (x1 : Int32) (x2 : Int32) {rest : List Value} (S : CallFix p m c cc nL s args WALL own) (hK : KC D cA a AA s) (hD : ∀ I A, va_D AA (wC cA a I A)) (hA : ∀ q : Nat, s.heap.size ≤ q → AA q) (hS : va_S AA s.heap H locs) (hP : va_P D cls (wC cA a I A) H) (hl1 : ls.size = nL) (hlink : (Cond.methodLink own idx y_Playing_sound).before args s = true) (hst : (rest.map fun v => v.category).sum ≤ 8) (hR : ({ frames := 1, cells := 0, slots := 0, locals := 23 } : Room).frames + 1 ≤ R.frames ∧ 8 + (4 + 11) + ({ frames := 1, cells := 0, slots := 0, locals := 23 } : Room).locals ≤ R.locals) (hcs : cells ≤ R.cells ∧ slots ≤ R.slots) (hdg : decode cc pc = .ok (.invokevirtual idx, 3)) (h : wp_Playing_sound x1 x2 I A post) (kk : ∀ (I1 : Nat → Int32) (A1 : Nat → Nat → Int32) (H1 : Heap) (locs1 : List Loc), post I1 A1 → va_P D cls (wC cA a I1 A1) H1 → va_S AA s.heap H1 locs1 → W p l e R s m args below meth c H1 locs1 cells slots Q (F0 m (pc + 3) ls rest)) : W p l e R s m args below meth c H locs cells slots Q (F0 m pc ls (.int x2 :: .int x1 :: .ref (a 16) :: rest)) :=
  va_callv (va_runV (As := [.int x1, .int x2]) (rest := rest) S (c_Playing_sound l D cA a H.size x1 x2 I A post h) ⟨callB_of 2 S.2.2.2.2 g_Playing_sound rfl rfl rfl (S.2.2.2.2 _ mi_Playing) hlink ⟨by decide, by decide, by decide +kernel⟩ hR, S.2.2.2.2 _ mn_Playing_sound, S.2.2.2.2 _ ms_Playing_sound⟩ (preCV hK hD hA hS hP 16 rfl rfl) rfl rfl hl1 rfl (lv_room hst) hdg hcs) hS (fun q _ z => AC_le hD hA hS q z) (fun q z => AC_le hD hA hS q z) (fun u t H1 locs1 ht _ hp hB _ _ hS1 => kk u.1 u.2 H1 locs1 hp (of_endC ht hB) hS1)
def wp_Playing_playItem_84 (post : (Nat → Int32) → (Nat → Nat → Int32) → Prop) : Nat → Int32 → (Nat → Int32) → (Nat → Nat → Int32) → Prop
  | 0, _, _, _ => False
  | n + 1, y3, I, A => (((I 26) ≤ y3 → post I A) ∧ (¬ (I 26) ≤ y3 → (vp_in y3 4 ∧ (vp_in y3 4 ∧ (∀ v104 : Int32, v104 = y3 + 1 → wp_Playing_playItem_84 post n v104 I (upd2 A 20 (y3.toNatClampNeg) (A 21 (y3.toNatClampNeg))))))))
def wp_Playing_playItem_12 (post : (Nat → Int32) → (Nat → Nat → Int32) → Prop) : Nat → Int32 → Int32 → (Nat → Int32) → (Nat → Nat → Int32) → Prop
  | 0, _, _, _, _ => False
  | n + 1, y2, y3, I, A => (vp_in (y2 + 1) 49 ∧ (((A 9 ((y2 + 1).toNatClampNeg)) ≤ y3 → (vp_in y2 48 ∧ (vp_in y2 48 ∧ (((A 11 (y2.toNatClampNeg)) = 0 → (∃ n84, wp_Playing_playItem_84 post n84 0 (upd (upd I 25 ((I 25) + (A 10 (y2.toNatClampNeg)))) 26 0) A)) ∧ (¬ (A 11 (y2.toNatClampNeg)) = 0 → (∃ n84, wp_Playing_playItem_84 post n84 0 (upd (upd I 25 ((I 25) + (A 10 (y2.toNatClampNeg)))) 26 (I 27)) A)))))) ∧ (¬ (A 9 ((y2 + 1).toNatClampNeg)) ≤ y3 → (vp_in y3 120 ∧ (vp_in y2 48 ∧ (wp_Playing_sound (A 12 (y3.toNatClampNeg)) (A 10 (y2.toNatClampNeg)) I A (fun I37 A37 => (∀ v40 : Int32, v40 = y3 + 1 → wp_Playing_playItem_12 post n y2 v40 I37 A37))))))))
def wp_Playing_playItem (x1 : Int32) (I : Nat → Int32) (A : Nat → Nat → Int32) (post : (Nat → Int32) → (Nat → Nat → Int32) → Prop) : Prop := (vp_in x1 49 ∧ (∀ v11 : Int32, v11 = (A 9 (x1.toNatClampNeg)) → (∃ n12, wp_Playing_playItem_12 post n12 x1 v11 (upd I 27 0) A)))
theorem d_Playing_playItem_0 : decode b_Playing_playItem 0 = .ok (.aload_n 0, 1) := by decide +kernel
theorem d_Playing_playItem_1 : decode b_Playing_playItem 1 = .ok (.iconst 0, 1) := by decide +kernel
theorem d_Playing_playItem_2 : decode b_Playing_playItem 2 = .ok (.putfield 62, 3) := by decide +kernel
theorem d_Playing_playItem_5 : decode b_Playing_playItem 5 = .ok (.aload_n 1, 1) := by decide +kernel
theorem d_Playing_playItem_6 : decode b_Playing_playItem 6 = .ok (.getfield 65, 3) := by decide +kernel
theorem d_Playing_playItem_9 : decode b_Playing_playItem 9 = .ok (.iload_n 2, 1) := by decide +kernel
theorem d_Playing_playItem_10 : decode b_Playing_playItem 10 = .ok (.iaload, 1) := by decide +kernel
theorem d_Playing_playItem_11 : decode b_Playing_playItem 11 = .ok (.istore_n 3, 1) := by decide +kernel
theorem d_Playing_playItem_12 : decode b_Playing_playItem 12 = .ok (.iload_n 3, 1) := by decide +kernel
theorem d_Playing_playItem_13 : decode b_Playing_playItem 13 = .ok (.aload_n 1, 1) := by decide +kernel
theorem d_Playing_playItem_14 : decode b_Playing_playItem 14 = .ok (.getfield 65, 3) := by decide +kernel
theorem d_Playing_playItem_17 : decode b_Playing_playItem 17 = .ok (.iload_n 2, 1) := by decide +kernel
theorem d_Playing_playItem_18 : decode b_Playing_playItem 18 = .ok (.iconst 1, 1) := by decide +kernel
theorem d_Playing_playItem_19 : decode b_Playing_playItem 19 = .ok (.iadd, 1) := by decide +kernel
theorem d_Playing_playItem_20 : decode b_Playing_playItem 20 = .ok (.iaload, 1) := by decide +kernel
theorem d_Playing_playItem_21 : decode b_Playing_playItem 21 = .ok (.if_icmp .ge 25, 3) := by decide +kernel
theorem d_Playing_playItem_24 : decode b_Playing_playItem 24 = .ok (.aload_n 0, 1) := by decide +kernel
theorem d_Playing_playItem_25 : decode b_Playing_playItem 25 = .ok (.aload_n 1, 1) := by decide +kernel
theorem d_Playing_playItem_26 : decode b_Playing_playItem 26 = .ok (.getfield 68, 3) := by decide +kernel
theorem d_Playing_playItem_29 : decode b_Playing_playItem 29 = .ok (.iload_n 3, 1) := by decide +kernel
theorem d_Playing_playItem_30 : decode b_Playing_playItem 30 = .ok (.iaload, 1) := by decide +kernel
theorem d_Playing_playItem_31 : decode b_Playing_playItem 31 = .ok (.aload_n 1, 1) := by decide +kernel
theorem d_Playing_playItem_32 : decode b_Playing_playItem 32 = .ok (.getfield 69, 3) := by decide +kernel
theorem d_Playing_playItem_35 : decode b_Playing_playItem 35 = .ok (.iload_n 2, 1) := by decide +kernel
theorem d_Playing_playItem_36 : decode b_Playing_playItem 36 = .ok (.iaload, 1) := by decide +kernel
theorem d_Playing_playItem_37 : decode b_Playing_playItem 37 = .ok (.invokevirtual 72, 3) := by decide +kernel
theorem d_Playing_playItem_40 : decode b_Playing_playItem 40 = .ok (.iinc 3 1, 3) := by decide +kernel
theorem d_Playing_playItem_43 : decode b_Playing_playItem 43 = .ok (.goto (-31), 3) := by decide +kernel
theorem d_Playing_playItem_46 : decode b_Playing_playItem 46 = .ok (.aload_n 0, 1) := by decide +kernel
theorem d_Playing_playItem_47 : decode b_Playing_playItem 47 = .ok (.dup, 1) := by decide +kernel
theorem d_Playing_playItem_48 : decode b_Playing_playItem 48 = .ok (.getfield 35, 3) := by decide +kernel
theorem d_Playing_playItem_51 : decode b_Playing_playItem 51 = .ok (.aload_n 1, 1) := by decide +kernel
theorem d_Playing_playItem_52 : decode b_Playing_playItem 52 = .ok (.getfield 69, 3) := by decide +kernel
theorem d_Playing_playItem_55 : decode b_Playing_playItem 55 = .ok (.iload_n 2, 1) := by decide +kernel
theorem d_Playing_playItem_56 : decode b_Playing_playItem 56 = .ok (.iaload, 1) := by decide +kernel
theorem d_Playing_playItem_57 : decode b_Playing_playItem 57 = .ok (.iadd, 1) := by decide +kernel
theorem d_Playing_playItem_58 : decode b_Playing_playItem 58 = .ok (.putfield 35, 3) := by decide +kernel
theorem d_Playing_playItem_61 : decode b_Playing_playItem 61 = .ok (.aload_n 0, 1) := by decide +kernel
theorem d_Playing_playItem_62 : decode b_Playing_playItem 62 = .ok (.aload_n 1, 1) := by decide +kernel
theorem d_Playing_playItem_63 : decode b_Playing_playItem 63 = .ok (.getfield 76, 3) := by decide +kernel
theorem d_Playing_playItem_66 : decode b_Playing_playItem 66 = .ok (.iload_n 2, 1) := by decide +kernel
theorem d_Playing_playItem_67 : decode b_Playing_playItem 67 = .ok (.baload, 1) := by decide +kernel
theorem d_Playing_playItem_68 : decode b_Playing_playItem 68 = .ok (.ifCond .eq 10, 3) := by decide +kernel
theorem d_Playing_playItem_71 : decode b_Playing_playItem 71 = .ok (.aload_n 0, 1) := by decide +kernel
theorem d_Playing_playItem_72 : decode b_Playing_playItem 72 = .ok (.getfield 62, 3) := by decide +kernel
theorem d_Playing_playItem_75 : decode b_Playing_playItem 75 = .ok (.goto 4, 3) := by decide +kernel
theorem d_Playing_playItem_78 : decode b_Playing_playItem 78 = .ok (.iconst 0, 1) := by decide +kernel
theorem d_Playing_playItem_79 : decode b_Playing_playItem 79 = .ok (.putfield 38, 3) := by decide +kernel
theorem d_Playing_playItem_82 : decode b_Playing_playItem 82 = .ok (.iconst 0, 1) := by decide +kernel
theorem d_Playing_playItem_83 : decode b_Playing_playItem 83 = .ok (.istore_n 3, 1) := by decide +kernel
theorem d_Playing_playItem_84 : decode b_Playing_playItem 84 = .ok (.iload_n 3, 1) := by decide +kernel
theorem d_Playing_playItem_85 : decode b_Playing_playItem 85 = .ok (.aload_n 0, 1) := by decide +kernel
theorem d_Playing_playItem_86 : decode b_Playing_playItem 86 = .ok (.getfield 38, 3) := by decide +kernel
theorem d_Playing_playItem_89 : decode b_Playing_playItem 89 = .ok (.if_icmp .ge 21, 3) := by decide +kernel
theorem d_Playing_playItem_92 : decode b_Playing_playItem 92 = .ok (.aload_n 0, 1) := by decide +kernel
theorem d_Playing_playItem_93 : decode b_Playing_playItem 93 = .ok (.getfield 21, 3) := by decide +kernel
theorem d_Playing_playItem_96 : decode b_Playing_playItem 96 = .ok (.iload_n 3, 1) := by decide +kernel
theorem d_Playing_playItem_97 : decode b_Playing_playItem 97 = .ok (.aload_n 0, 1) := by decide +kernel
theorem d_Playing_playItem_98 : decode b_Playing_playItem 98 = .ok (.getfield 24, 3) := by decide +kernel
theorem d_Playing_playItem_101 : decode b_Playing_playItem 101 = .ok (.iload_n 3, 1) := by decide +kernel
theorem d_Playing_playItem_102 : decode b_Playing_playItem 102 = .ok (.iaload, 1) := by decide +kernel
theorem d_Playing_playItem_103 : decode b_Playing_playItem 103 = .ok (.iastore, 1) := by decide +kernel
theorem d_Playing_playItem_104 : decode b_Playing_playItem 104 = .ok (.iinc 3 1, 3) := by decide +kernel
theorem d_Playing_playItem_107 : decode b_Playing_playItem 107 = .ok (.goto (-23), 3) := by decide +kernel
theorem d_Playing_playItem_110 : decode b_Playing_playItem 110 = .ok (.return_, 1) := by decide +kernel
def w_Playing_playItem : List Cond := .code y_Playing_playItem b_Playing_playItem 4 none :: WALL
theorem g_Playing_playItem : GoodIn WALL w_Playing_playItem := good_of mc_Playing_playItem
set_option maxHeartbeats 4000000 in
set_option maxRecDepth 100000 in
theorem c_Playing_playItem (l : Launch) (D : va_G) (cA a : Nat → Nat) (sz : Nat) (x1 : Int32) (I : Nat → Int32) (A : Nat → Nat → Int32) (post : (Nat → Int32) → (Nat → Nat → Int32) → Prop) (h : wp_Playing_playItem x1 I A post) : Met l y_Playing_playItem w_Playing_playItem ({ frames := 2, cells := 0, slots := 0, locals := 46 }) (va_Pc [.ref (a 16), .ref (a 3), .int x1] (PreC D cA a I A sz)) (va_Qv (fun (u : StW) => post u.1 u.2) (EndC D cA a) (AC a sz)) 0 0 (AC a sz) := by
  refine Met.ofW (cc := b_Playing_playItem) (maxL := 4) (ret := none) (by decide) rfl ?_
  intro p e s m args below meth c s₁ B hml hv
  obtain ⟨rfl, hsz, hP, hK, hD0⟩ := hv
  have hx := B.exec
  have hb := B.bytes
  have hr := B.returns
  have hts := atoms_spec (ws := w_Playing_playItem) B.pre
  have hw := wall_of hts
  have hown : s.vm.findClass R_Playing = some m.cls := findClass_of_methodNamed B.named
  have hlocks := B.notSynchronized
  subst hsz
  have hD := hDC (sz := s.heap.size) hD0
  have hA : ∀ q : Nat, s.heap.size ≤ q → AC a s.heap.size q := fun q h => Or.inr h
  have hS : va_S (AC a s.heap.size) s.heap s.heap [] := va_S.rf
  have j84 : ∀ n : Nat, ∀ (y3 : Int32) (I : Nat → Int32) (A : Nat → Nat → Int32) (H : Heap) (locs : List Loc) (ls : Array Slot), wp_Playing_playItem_84 post n y3 I A → va_P D cls (wC cA a I A) H → va_S (AC a s.heap.size) s.heap H locs → lv_has ls 4 [(0, .ref (a 16)), (3, .int y3)] → W p l e (headSpec w_Playing_playItem ({ frames := 2, cells := 0, slots := 0, locals := 46 })).room s m [.ref (a 16), .ref (a 3), .int x1].toArray below meth c H locs 0 0 (MQ below (va_Qv (fun (u : StW) => post u.1 u.2) (EndC D cA a) (AC a s.heap.size)) [.ref (a 16), .ref (a 3), .int x1].toArray s 0 0 (AC a s.heap.size)) (F0 m 84 ls []) := by
    intro n
    induction n with
    | zero =>
      intro y3 I A H locs ls h hP hS hl
      exact False.elim h
    | succ n ih =>
      intro y3 I A H locs ls h hP hS hl
      unfold wp_Playing_playItem_84 at h
      refine lv_iload_n hx hb d_Playing_playItem_84 rfl (lv_at hl 1 rfl) ?_
      refine lv_aload_n hx hb d_Playing_playItem_85 rfl (lv_at hl 0 rfl) ?_
      refine gC_Playing_waitingCount hx hb hw hown hK hP (hw _ m_Playing_38) d_Playing_playItem_86 ?_
      refine lv_icmp_ge (tgt := 110) hx hb d_Playing_playItem_89 rfl (fun q => ?_) (fun q => ?_)
      · have h := h.1 q
        exact W.vret hx hb hr (fun t ht hW => ⟨⟨(I, A), rfl, h, endC_of ht hP⟩, hS.F ht⟩) hS.2.2 d_Playing_playItem_110
      · have h := h.2 q
        refine lv_aload_n hx hb d_Playing_playItem_92 rfl (lv_at hl 0 rfl) ?_
        refine gC_Playing_waiting hx hb hw hown hK hP (hw _ m_Playing_21) d_Playing_playItem_93 ?_
        refine lv_iload_n hx hb d_Playing_playItem_96 rfl (lv_at hl 1 rfl) ?_
        refine lv_aload_n hx hb d_Playing_playItem_97 rfl (lv_at hl 0 rfl) ?_
        refine gC_Playing_sounding hx hb hw hown hK hP (hw _ m_Playing_24) d_Playing_playItem_98 ?_
        refine lv_iload_n hx hb d_Playing_playItem_101 rfl (lv_at hl 1 rfl) ?_
        obtain ⟨hin, h⟩ := h
        refine lC21 hx hb hK hP hin d_Playing_playItem_102 ?_
        obtain ⟨hin, h⟩ := h
        refine sC20 hx hb hK hD hS hP hin d_Playing_playItem_103 (fun H locs hP hS => ?_)
        obtain ⟨v104, ev104⟩ : ∃ z : Int32, z = y3 + 1 := ⟨_, rfl⟩
        have h := h v104 ev104
        refine lv_iinc (k := 1) (v := v104) (lv' := [(3, .int v104), (0, .ref (a 16))]) hx hb d_Playing_playItem_104 hl rfl (by rw [ev104, ic_1]) (by decide) rfl (fun ls hl => ?_)
        refine lv_goto (tgt := 84) hx hb d_Playing_playItem_107 rfl ?_
        exact ih v104 I (upd2 A 20 (y3.toNatClampNeg) (A 21 (y3.toNatClampNeg))) _ _ _ h hP hS (lv_sub hl [1, 0] rfl)
  have j12 : ∀ n : Nat, ∀ (y2 : Int32) (y3 : Int32) (I : Nat → Int32) (A : Nat → Nat → Int32) (H : Heap) (locs : List Loc) (ls : Array Slot), wp_Playing_playItem_12 post n y2 y3 I A → va_P D cls (wC cA a I A) H → va_S (AC a s.heap.size) s.heap H locs → lv_has ls 4 [(0, .ref (a 16)), (1, .ref (a 3)), (2, .int y2), (3, .int y3)] → W p l e (headSpec w_Playing_playItem ({ frames := 2, cells := 0, slots := 0, locals := 46 })).room s m [.ref (a 16), .ref (a 3), .int x1].toArray below meth c H locs 0 0 (MQ below (va_Qv (fun (u : StW) => post u.1 u.2) (EndC D cA a) (AC a s.heap.size)) [.ref (a 16), .ref (a 3), .int x1].toArray s 0 0 (AC a s.heap.size)) (F0 m 12 ls []) := by
    intro n
    induction n with
    | zero =>
      intro y2 y3 I A H locs ls h hP hS hl
      exact False.elim h
    | succ n ih =>
      intro y2 y3 I A H locs ls h hP hS hl
      unfold wp_Playing_playItem_12 at h
      refine lv_iload_n hx hb d_Playing_playItem_12 rfl (lv_at hl 3 rfl) ?_
      refine lv_aload_n hx hb d_Playing_playItem_13 rfl (lv_at hl 1 rfl) ?_
      refine gC_Tune_firstNote hx hb hw hown hK hP (hw _ m_Playing_65) d_Playing_playItem_14 ?_
      refine lv_iload_n hx hb d_Playing_playItem_17 rfl (lv_at hl 2 rfl) ?_
      refine lv_iconst (v := 1) hx hb d_Playing_playItem_18 ic_1 ?_
      refine lv_iadd hx hb d_Playing_playItem_19 ?_
      obtain ⟨hin, h⟩ := h
      refine lC9 hx hb hK hP hin d_Playing_playItem_20 ?_
      refine lv_icmp_ge (tgt := 46) hx hb d_Playing_playItem_21 rfl (fun q => ?_) (fun q => ?_)
      · have h := h.1 q
        refine lv_aload_n hx hb d_Playing_playItem_46 rfl (lv_at hl 0 rfl) ?_
        refine lv_dup hx hb d_Playing_playItem_47 rfl ?_
        refine gC_Playing_now hx hb hw hown hK hP (hw _ m_Playing_35) d_Playing_playItem_48 ?_
        refine lv_aload_n hx hb d_Playing_playItem_51 rfl (lv_at hl 1 rfl) ?_
        refine gC_Tune_itemTicks hx hb hw hown hK hP (hw _ m_Playing_69) d_Playing_playItem_52 ?_
        refine lv_iload_n hx hb d_Playing_playItem_55 rfl (lv_at hl 2 rfl) ?_
        obtain ⟨hin, h⟩ := h
        refine lC10 hx hb hK hP hin d_Playing_playItem_56 ?_
        refine lv_iadd hx hb d_Playing_playItem_57 ?_
        refine pC_Playing_now hx hb hw hown hK hD hS hP (hw _ m_Playing_35) d_Playing_playItem_58 (fun H locs hP hS => ?_)
        refine lv_aload_n hx hb d_Playing_playItem_61 rfl (lv_at hl 0 rfl) ?_
        refine lv_aload_n hx hb d_Playing_playItem_62 rfl (lv_at hl 1 rfl) ?_
        refine gC_Tune_tied hx hb hw hown hK hP (hw _ m_Playing_76) d_Playing_playItem_63 ?_
        refine lv_iload_n hx hb d_Playing_playItem_66 rfl (lv_at hl 2 rfl) ?_
        obtain ⟨hin, h⟩ := h
        refine lC11 hx hb hK hP hin d_Playing_playItem_67 ?_
        refine lv_if_eq (tgt := 78) hx hb d_Playing_playItem_68 rfl (fun q => ?_) (fun q => ?_)
        · have h := h.1 q
          refine lv_iconst (v := 0) hx hb d_Playing_playItem_78 ic_0 ?_
          refine pC_Playing_waitingCount hx hb hw hown hK hD hS hP (hw _ m_Playing_38) d_Playing_playItem_79 (fun H locs hP hS => ?_)
          refine lv_iconst (v := 0) hx hb d_Playing_playItem_82 ic_0 ?_
          refine lv_istore_n (lv' := [(3, .int 0), (0, .ref (a 16)), (1, .ref (a 3)), (2, .int y2)]) hx hb d_Playing_playItem_83 rfl hl (by decide) rfl (fun ls hl => ?_)
          obtain ⟨n84, h⟩ := h
          exact j84 n84 0 (upd (upd I 25 ((I 25) + (A 10 (y2.toNatClampNeg)))) 26 0) A _ _ _ h hP hS (lv_sub hl [1, 0] rfl)
        · have h := h.2 q
          refine lv_aload_n hx hb d_Playing_playItem_71 rfl (lv_at hl 0 rfl) ?_
          refine gC_Playing_soundingCount hx hb hw hown hK hP (hw _ m_Playing_62) d_Playing_playItem_72 ?_
          refine lv_goto (tgt := 79) hx hb d_Playing_playItem_75 rfl ?_
          refine pC_Playing_waitingCount hx hb hw hown hK hD hS hP (hw _ m_Playing_38) d_Playing_playItem_79 (fun H locs hP hS => ?_)
          refine lv_iconst (v := 0) hx hb d_Playing_playItem_82 ic_0 ?_
          refine lv_istore_n (lv' := [(3, .int 0), (0, .ref (a 16)), (1, .ref (a 3)), (2, .int y2)]) hx hb d_Playing_playItem_83 rfl hl (by decide) rfl (fun ls hl => ?_)
          obtain ⟨n84, h⟩ := h
          exact j84 n84 0 (upd (upd I 25 ((I 25) + (A 10 (y2.toNatClampNeg)))) 26 (I 27)) A _ _ _ h hP hS (lv_sub hl [1, 0] rfl)
      · have h := h.2 q
        refine lv_aload_n hx hb d_Playing_playItem_24 rfl (lv_at hl 0 rfl) ?_
        refine lv_aload_n hx hb d_Playing_playItem_25 rfl (lv_at hl 1 rfl) ?_
        refine gC_Tune_pitch hx hb hw hown hK hP (hw _ m_Playing_68) d_Playing_playItem_26 ?_
        refine lv_iload_n hx hb d_Playing_playItem_29 rfl (lv_at hl 3 rfl) ?_
        obtain ⟨hin, h⟩ := h
        refine lC12 hx hb hK hP hin d_Playing_playItem_30 ?_
        refine lv_aload_n hx hb d_Playing_playItem_31 rfl (lv_at hl 1 rfl) ?_
        refine gC_Tune_itemTicks hx hb hw hown hK hP (hw _ m_Playing_69) d_Playing_playItem_32 ?_
        refine lv_iload_n hx hb d_Playing_playItem_35 rfl (lv_at hl 2 rfl) ?_
        obtain ⟨hin, h⟩ := h
        refine lC10 hx hb hK hP hin d_Playing_playItem_36 ?_
        refine k_Playing_sound (A 12 (y3.toNatClampNeg)) (A 10 (y2.toNatClampNeg)) (rest := []) ⟨hx, hb, hml, hown, hw⟩ hK hD hA hS hP hl.1 (hw _ m_Playing_72) (Nat.le_of_ble_eq_true rfl) ⟨Nat.le_of_ble_eq_true rfl, Nat.le_of_ble_eq_true rfl⟩ ⟨Nat.zero_le _, Nat.zero_le _⟩ d_Playing_playItem_37 h (fun I37 A37 H locs h hP hS => ?_)
        obtain ⟨v40, ev40⟩ : ∃ z : Int32, z = y3 + 1 := ⟨_, rfl⟩
        have h := h v40 ev40
        refine lv_iinc (k := 3) (v := v40) (lv' := [(3, .int v40), (0, .ref (a 16)), (1, .ref (a 3)), (2, .int y2)]) hx hb d_Playing_playItem_40 hl rfl (by rw [ev40, ic_1]) (by decide) rfl (fun ls hl => ?_)
        refine lv_goto (tgt := 12) hx hb d_Playing_playItem_43 rfl ?_
        exact ih y2 v40 I37 A37 _ _ _ h hP hS (lv_sub hl [1, 2, 3, 0] rfl)
  have hl := lv_entry ([.ref (a 16), .ref (a 3), .int x1]) (n := 4) (Nat.le_of_ble_eq_true rfl)
  rw [lg_entry_eq]
  generalize (lg_sl ([.ref (a 16), .ref (a 3), .int x1]) ++ List.replicate (4 - (lg_sl ([.ref (a 16), .ref (a 3), .int x1])).length) Slot.unset).toArray = ls at hl ⊢
  have hl : lv_has ls 4 [(0, .ref (a 16)), (1, .ref (a 3)), (2, .int x1)] := hl
  unfold wp_Playing_playItem at h
  refine lv_aload_n hx hb d_Playing_playItem_0 rfl (lv_at hl 0 rfl) ?_
  refine lv_iconst (v := 0) hx hb d_Playing_playItem_1 ic_0 ?_
  refine pC_Playing_soundingCount hx hb hw hown hK hD hS hP (hw _ m_Playing_62) d_Playing_playItem_2 (fun H locs hP hS => ?_)
  refine lv_aload_n hx hb d_Playing_playItem_5 rfl (lv_at hl 1 rfl) ?_
  refine gC_Tune_firstNote hx hb hw hown hK hP (hw _ m_Playing_65) d_Playing_playItem_6 ?_
  refine lv_iload_n hx hb d_Playing_playItem_9 rfl (lv_at hl 2 rfl) ?_
  obtain ⟨hin, h⟩ := h
  refine lC9 hx hb hK hP hin d_Playing_playItem_10 ?_
  refine lv_topi (fun v11 ev11 => ?_)
  have h := h v11 ev11
  refine lv_istore_n (lv' := [(3, .int v11), (0, .ref (a 16)), (1, .ref (a 3)), (2, .int x1)]) hx hb d_Playing_playItem_11 rfl hl (by decide) rfl (fun ls hl => ?_)
  obtain ⟨n12, h⟩ := h
  exact j12 n12 x1 v11 (upd I 27 0) A _ _ _ h hP hS (lv_sub hl [1, 2, 3, 0] rfl)
theorem k_Playing_playItem {p : Program} {l : Launch} {e : Env} {R : Room} {s : State} {m : MethodId} {args : Array Value} {below : List Frame} {meth : Method} {c : Code} {H : Heap} {locs : List Loc} {cells slots : Nat} {Q : State → Prop} {cc : ByteArray} {pc nL idx : Nat} {own : String} {ls : Array Slot} {D : va_G} {cA a : Nat → Nat} {AA : Nat → Prop} {I : Nat → Int32} {A : Nat → Nat → Int32} {post : (Nat → Int32) → (Nat → Nat → Int32) → Prop} (x1 : Int32) {rest : List Value} (S : CallFix p m c cc nL s args WALL own) (hK : KC D cA a AA s) (hD : ∀ I A, va_D AA (wC cA a I A)) (hA : ∀ q : Nat, s.heap.size ≤ q → AA q) (hS : va_S AA s.heap H locs) (hP : va_P D cls (wC cA a I A) H) (hl1 : ls.size = nL) (hlink : (Cond.methodLink own idx y_Playing_playItem).before args s = true) (hst : (rest.map fun v => v.category).sum ≤ 8) (hR : ({ frames := 2, cells := 0, slots := 0, locals := 46 } : Room).frames + 1 ≤ R.frames ∧ 8 + (4 + 11) + ({ frames := 2, cells := 0, slots := 0, locals := 46 } : Room).locals ≤ R.locals) (hcs : cells ≤ R.cells ∧ slots ≤ R.slots) (hdg : decode cc pc = .ok (.invokevirtual idx, 3)) (h : wp_Playing_playItem x1 I A post) (kk : ∀ (I1 : Nat → Int32) (A1 : Nat → Nat → Int32) (H1 : Heap) (locs1 : List Loc), post I1 A1 → va_P D cls (wC cA a I1 A1) H1 → va_S AA s.heap H1 locs1 → W p l e R s m args below meth c H1 locs1 cells slots Q (F0 m (pc + 3) ls rest)) : W p l e R s m args below meth c H locs cells slots Q (F0 m pc ls (.int x1 :: .ref (a 3) :: .ref (a 16) :: rest)) :=
  va_callv (va_runV (As := [.ref (a 3), .int x1]) (rest := rest) S (c_Playing_playItem l D cA a H.size x1 I A post h) ⟨callB_of 2 S.2.2.2.2 g_Playing_playItem rfl rfl rfl (S.2.2.2.2 _ mi_Playing) hlink ⟨by decide, by decide, by decide +kernel⟩ hR, S.2.2.2.2 _ mn_Playing_playItem, S.2.2.2.2 _ ms_Playing_playItem⟩ (preCV hK hD hA hS hP 16 rfl rfl) rfl rfl hl1 rfl (lv_room hst) hdg hcs) hS (fun q _ z => AC_le hD hA hS q z) (fun q z => AC_le hD hA hS q z) (fun u t H1 locs1 ht _ hp hB _ _ hS1 => kk u.1 u.2 H1 locs1 hp (of_endC ht hB) hS1)
def wp_Playing_playBar_7 (post : (Nat → Int32) → (Nat → Nat → Int32) → Prop) : Nat → Int32 → Int32 → (Nat → Int32) → (Nat → Nat → Int32) → Prop
  | 0, _, _, _, _ => False
  | n + 1, y2, y3, I, A => (vp_in (y2 + 1) 9 ∧ (((A 8 ((y2 + 1).toNatClampNeg)) ≤ y3 → post I A) ∧ (¬ (A 8 ((y2 + 1).toNatClampNeg)) ≤ y3 → (wp_Playing_playItem y3 I A (fun I22 A22 => (∀ v25 : Int32, v25 = y3 + 1 → wp_Playing_playBar_7 post n y2 v25 I22 A22))))))
def wp_Playing_playBar (x1 : Int32) (I : Nat → Int32) (A : Nat → Nat → Int32) (post : (Nat → Int32) → (Nat → Nat → Int32) → Prop) : Prop := (vp_in x1 9 ∧ (∀ v6 : Int32, v6 = (A 8 (x1.toNatClampNeg)) → (∃ n7, wp_Playing_playBar_7 post n7 x1 v6 I A)))
theorem d_Playing_playBar_0 : decode b_Playing_playBar 0 = .ok (.aload_n 1, 1) := by decide +kernel
theorem d_Playing_playBar_1 : decode b_Playing_playBar 1 = .ok (.getfield 56, 3) := by decide +kernel
theorem d_Playing_playBar_4 : decode b_Playing_playBar 4 = .ok (.iload_n 2, 1) := by decide +kernel
theorem d_Playing_playBar_5 : decode b_Playing_playBar 5 = .ok (.iaload, 1) := by decide +kernel
theorem d_Playing_playBar_6 : decode b_Playing_playBar 6 = .ok (.istore_n 3, 1) := by decide +kernel
theorem d_Playing_playBar_7 : decode b_Playing_playBar 7 = .ok (.iload_n 3, 1) := by decide +kernel
theorem d_Playing_playBar_8 : decode b_Playing_playBar 8 = .ok (.aload_n 1, 1) := by decide +kernel
theorem d_Playing_playBar_9 : decode b_Playing_playBar 9 = .ok (.getfield 56, 3) := by decide +kernel
theorem d_Playing_playBar_12 : decode b_Playing_playBar 12 = .ok (.iload_n 2, 1) := by decide +kernel
theorem d_Playing_playBar_13 : decode b_Playing_playBar 13 = .ok (.iconst 1, 1) := by decide +kernel
theorem d_Playing_playBar_14 : decode b_Playing_playBar 14 = .ok (.iadd, 1) := by decide +kernel
theorem d_Playing_playBar_15 : decode b_Playing_playBar 15 = .ok (.iaload, 1) := by decide +kernel
theorem d_Playing_playBar_16 : decode b_Playing_playBar 16 = .ok (.if_icmp .ge 15, 3) := by decide +kernel
theorem d_Playing_playBar_19 : decode b_Playing_playBar 19 = .ok (.aload_n 0, 1) := by decide +kernel
theorem d_Playing_playBar_20 : decode b_Playing_playBar 20 = .ok (.aload_n 1, 1) := by decide +kernel
theorem d_Playing_playBar_21 : decode b_Playing_playBar 21 = .ok (.iload_n 3, 1) := by decide +kernel
theorem d_Playing_playBar_22 : decode b_Playing_playBar 22 = .ok (.invokevirtual 59, 3) := by decide +kernel
theorem d_Playing_playBar_25 : decode b_Playing_playBar 25 = .ok (.iinc 3 1, 3) := by decide +kernel
theorem d_Playing_playBar_28 : decode b_Playing_playBar 28 = .ok (.goto (-21), 3) := by decide +kernel
theorem d_Playing_playBar_31 : decode b_Playing_playBar 31 = .ok (.return_, 1) := by decide +kernel
def w_Playing_playBar : List Cond := .code y_Playing_playBar b_Playing_playBar 4 none :: WALL
theorem g_Playing_playBar : GoodIn WALL w_Playing_playBar := good_of mc_Playing_playBar
set_option maxHeartbeats 4000000 in
set_option maxRecDepth 100000 in
theorem c_Playing_playBar (l : Launch) (D : va_G) (cA a : Nat → Nat) (sz : Nat) (x1 : Int32) (I : Nat → Int32) (A : Nat → Nat → Int32) (post : (Nat → Int32) → (Nat → Nat → Int32) → Prop) (h : wp_Playing_playBar x1 I A post) : Met l y_Playing_playBar w_Playing_playBar ({ frames := 3, cells := 0, slots := 0, locals := 69 }) (va_Pc [.ref (a 16), .ref (a 3), .int x1] (PreC D cA a I A sz)) (va_Qv (fun (u : StW) => post u.1 u.2) (EndC D cA a) (AC a sz)) 0 0 (AC a sz) := by
  refine Met.ofW (cc := b_Playing_playBar) (maxL := 4) (ret := none) (by decide) rfl ?_
  intro p e s m args below meth c s₁ B hml hv
  obtain ⟨rfl, hsz, hP, hK, hD0⟩ := hv
  have hx := B.exec
  have hb := B.bytes
  have hr := B.returns
  have hts := atoms_spec (ws := w_Playing_playBar) B.pre
  have hw := wall_of hts
  have hown : s.vm.findClass R_Playing = some m.cls := findClass_of_methodNamed B.named
  have hlocks := B.notSynchronized
  subst hsz
  have hD := hDC (sz := s.heap.size) hD0
  have hA : ∀ q : Nat, s.heap.size ≤ q → AC a s.heap.size q := fun q h => Or.inr h
  have hS : va_S (AC a s.heap.size) s.heap s.heap [] := va_S.rf
  have j7 : ∀ n : Nat, ∀ (y2 : Int32) (y3 : Int32) (I : Nat → Int32) (A : Nat → Nat → Int32) (H : Heap) (locs : List Loc) (ls : Array Slot), wp_Playing_playBar_7 post n y2 y3 I A → va_P D cls (wC cA a I A) H → va_S (AC a s.heap.size) s.heap H locs → lv_has ls 4 [(0, .ref (a 16)), (1, .ref (a 3)), (2, .int y2), (3, .int y3)] → W p l e (headSpec w_Playing_playBar ({ frames := 3, cells := 0, slots := 0, locals := 69 })).room s m [.ref (a 16), .ref (a 3), .int x1].toArray below meth c H locs 0 0 (MQ below (va_Qv (fun (u : StW) => post u.1 u.2) (EndC D cA a) (AC a s.heap.size)) [.ref (a 16), .ref (a 3), .int x1].toArray s 0 0 (AC a s.heap.size)) (F0 m 7 ls []) := by
    intro n
    induction n with
    | zero =>
      intro y2 y3 I A H locs ls h hP hS hl
      exact False.elim h
    | succ n ih =>
      intro y2 y3 I A H locs ls h hP hS hl
      unfold wp_Playing_playBar_7 at h
      refine lv_iload_n hx hb d_Playing_playBar_7 rfl (lv_at hl 3 rfl) ?_
      refine lv_aload_n hx hb d_Playing_playBar_8 rfl (lv_at hl 1 rfl) ?_
      refine gC_Tune_firstItem hx hb hw hown hK hP (hw _ m_Playing_56) d_Playing_playBar_9 ?_
      refine lv_iload_n hx hb d_Playing_playBar_12 rfl (lv_at hl 2 rfl) ?_
      refine lv_iconst (v := 1) hx hb d_Playing_playBar_13 ic_1 ?_
      refine lv_iadd hx hb d_Playing_playBar_14 ?_
      obtain ⟨hin, h⟩ := h
      refine lC8 hx hb hK hP hin d_Playing_playBar_15 ?_
      refine lv_icmp_ge (tgt := 31) hx hb d_Playing_playBar_16 rfl (fun q => ?_) (fun q => ?_)
      · have h := h.1 q
        exact W.vret hx hb hr (fun t ht hW => ⟨⟨(I, A), rfl, h, endC_of ht hP⟩, hS.F ht⟩) hS.2.2 d_Playing_playBar_31
      · have h := h.2 q
        refine lv_aload_n hx hb d_Playing_playBar_19 rfl (lv_at hl 0 rfl) ?_
        refine lv_aload_n hx hb d_Playing_playBar_20 rfl (lv_at hl 1 rfl) ?_
        refine lv_iload_n hx hb d_Playing_playBar_21 rfl (lv_at hl 3 rfl) ?_
        refine k_Playing_playItem y3 (rest := []) ⟨hx, hb, hml, hown, hw⟩ hK hD hA hS hP hl.1 (hw _ m_Playing_59) (Nat.le_of_ble_eq_true rfl) ⟨Nat.le_of_ble_eq_true rfl, Nat.le_of_ble_eq_true rfl⟩ ⟨Nat.zero_le _, Nat.zero_le _⟩ d_Playing_playBar_22 h (fun I22 A22 H locs h hP hS => ?_)
        obtain ⟨v25, ev25⟩ : ∃ z : Int32, z = y3 + 1 := ⟨_, rfl⟩
        have h := h v25 ev25
        refine lv_iinc (k := 3) (v := v25) (lv' := [(3, .int v25), (0, .ref (a 16)), (1, .ref (a 3)), (2, .int y2)]) hx hb d_Playing_playBar_25 hl rfl (by rw [ev25, ic_1]) (by decide) rfl (fun ls hl => ?_)
        refine lv_goto (tgt := 7) hx hb d_Playing_playBar_28 rfl ?_
        exact ih y2 v25 I22 A22 _ _ _ h hP hS (lv_sub hl [1, 2, 3, 0] rfl)
  have hl := lv_entry ([.ref (a 16), .ref (a 3), .int x1]) (n := 4) (Nat.le_of_ble_eq_true rfl)
  rw [lg_entry_eq]
  generalize (lg_sl ([.ref (a 16), .ref (a 3), .int x1]) ++ List.replicate (4 - (lg_sl ([.ref (a 16), .ref (a 3), .int x1])).length) Slot.unset).toArray = ls at hl ⊢
  have hl : lv_has ls 4 [(0, .ref (a 16)), (1, .ref (a 3)), (2, .int x1)] := hl
  unfold wp_Playing_playBar at h
  refine lv_aload_n hx hb d_Playing_playBar_0 rfl (lv_at hl 1 rfl) ?_
  refine gC_Tune_firstItem hx hb hw hown hK hP (hw _ m_Playing_56) d_Playing_playBar_1 ?_
  refine lv_iload_n hx hb d_Playing_playBar_4 rfl (lv_at hl 2 rfl) ?_
  obtain ⟨hin, h⟩ := h
  refine lC8 hx hb hK hP hin d_Playing_playBar_5 ?_
  refine lv_topi (fun v6 ev6 => ?_)
  have h := h v6 ev6
  refine lv_istore_n (lv' := [(3, .int v6), (0, .ref (a 16)), (1, .ref (a 3)), (2, .int x1)]) hx hb d_Playing_playBar_6 rfl hl (by decide) rfl (fun ls hl => ?_)
  obtain ⟨n7, h⟩ := h
  exact j7 n7 x1 v6 I A _ _ _ h hP hS (lv_sub hl [1, 2, 3, 0] rfl)
theorem k_Playing_playBar {p : Program} {l : Launch} {e : Env} {R : Room} {s : State} {m : MethodId} {args : Array Value} {below : List Frame} {meth : Method} {c : Code} {H : Heap} {locs : List Loc} {cells slots : Nat} {Q : State → Prop} {cc : ByteArray} {pc nL idx : Nat} {own : String} {ls : Array Slot} {D : va_G} {cA a : Nat → Nat} {AA : Nat → Prop} {I : Nat → Int32} {A : Nat → Nat → Int32} {post : (Nat → Int32) → (Nat → Nat → Int32) → Prop} (x1 : Int32) {rest : List Value} (S : CallFix p m c cc nL s args WALL own) (hK : KC D cA a AA s) (hD : ∀ I A, va_D AA (wC cA a I A)) (hA : ∀ q : Nat, s.heap.size ≤ q → AA q) (hS : va_S AA s.heap H locs) (hP : va_P D cls (wC cA a I A) H) (hl1 : ls.size = nL) (hlink : (Cond.methodLink own idx y_Playing_playBar).before args s = true) (hst : (rest.map fun v => v.category).sum ≤ 8) (hR : ({ frames := 3, cells := 0, slots := 0, locals := 69 } : Room).frames + 1 ≤ R.frames ∧ 8 + (4 + 11) + ({ frames := 3, cells := 0, slots := 0, locals := 69 } : Room).locals ≤ R.locals) (hcs : cells ≤ R.cells ∧ slots ≤ R.slots) (hdg : decode cc pc = .ok (.invokevirtual idx, 3)) (h : wp_Playing_playBar x1 I A post) (kk : ∀ (I1 : Nat → Int32) (A1 : Nat → Nat → Int32) (H1 : Heap) (locs1 : List Loc), post I1 A1 → va_P D cls (wC cA a I1 A1) H1 → va_S AA s.heap H1 locs1 → W p l e R s m args below meth c H1 locs1 cells slots Q (F0 m (pc + 3) ls rest)) : W p l e R s m args below meth c H locs cells slots Q (F0 m pc ls (.int x1 :: .ref (a 3) :: .ref (a 16) :: rest)) :=
  va_callv (va_runV (As := [.ref (a 3), .int x1]) (rest := rest) S (c_Playing_playBar l D cA a H.size x1 I A post h) ⟨callB_of 2 S.2.2.2.2 g_Playing_playBar rfl rfl rfl (S.2.2.2.2 _ mi_Playing) hlink ⟨by decide, by decide, by decide +kernel⟩ hR, S.2.2.2.2 _ mn_Playing_playBar, S.2.2.2.2 _ ms_Playing_playBar⟩ (preCV hK hD hA hS hP 16 rfl rfl) rfl rfl hl1 rfl (lv_room hst) hdg hcs) hS (fun q _ z => AC_le hD hA hS q z) (fun q z => AC_le hD hA hS q z) (fun u t H1 locs1 ht _ hp hB _ _ hS1 => kk u.1 u.2 H1 locs1 hp (of_endC ht hB) hS1)
def wp_Playing_perform_112 (k30 : Int32 → Int32 → Int32 → Int32 → (Nat → Int32) → (Nat → Nat → Int32) → Prop) (post : (Nat → Int32) → (Nat → Nat → Int32) → Prop) (y2 : Int32) (y3 : Int32) (y4 : Int32) (y5 : Int32) (s0 : Int32) (I : Nat → Int32) (A : Nat → Nat → Int32) : Prop := ((s0 = 0 → (∀ v133 : Int32, v133 = y2 + 1 → ((s0 = 0 → (∀ v146 : Int32, v146 = y5 + 1 → k30 v133 y3 y4 v146 I A)) ∧ (¬ s0 = 0 → (∀ v146 : Int32, v146 = y5 + 1 → k30 v133 v133 1 v146 I A))))) ∧ (¬ s0 = 0 → ((y4 = 1 → (∀ v146 : Int32, v146 = y5 + 1 → k30 y3 y3 2 v146 I A)) ∧ (¬ y4 = 1 → (∀ v133 : Int32, v133 = y2 + 1 → ((s0 = 0 → (∀ v146 : Int32, v146 = y5 + 1 → k30 v133 y3 y4 v146 I A)) ∧ (¬ s0 = 0 → (∀ v146 : Int32, v146 = y5 + 1 → k30 v133 v133 1 v146 I A))))))))
def wp_Playing_perform_88 (k30 : Int32 → Int32 → Int32 → Int32 → (Nat → Int32) → (Nat → Nat → Int32) → Prop) (post : (Nat → Int32) → (Nat → Nat → Int32) → Prop) (y2 : Int32) (y3 : Int32) (y4 : Int32) (y5 : Int32) (I : Nat → Int32) (A : Nat → Nat → Int32) : Prop := (wp_Playing_playBar y2 I A (fun I91 A91 => (vp_in (y2 + 1) 9 ∧ ((((A91 4 ((y2 + 1).toNatClampNeg)) &&& 2) = 0 → wp_Playing_perform_112 k30 post y2 y3 y4 y5 0 I91 A91) ∧ (¬ ((A91 4 ((y2 + 1).toNatClampNeg)) &&& 2) = 0 → wp_Playing_perform_112 k30 post y2 y3 y4 y5 1 I91 A91)))))
def wp_Playing_perform_66 (k30 : Int32 → Int32 → Int32 → Int32 → (Nat → Int32) → (Nat → Nat → Int32) → Prop) (post : (Nat → Int32) → (Nat → Nat → Int32) → Prop) (y2 : Int32) (y3 : Int32) (y4 : Int32) (y5 : Int32) (I : Nat → Int32) (A : Nat → Nat → Int32) : Prop := (vp_in y2 8 ∧ (((A 5 (y2.toNatClampNeg)) = 1 → ((y4 = 2 → (∀ v82 : Int32, v82 = y2 + 1 → (∀ v146 : Int32, v146 = y5 + 1 → k30 v82 y3 y4 v146 I A))) ∧ (¬ y4 = 2 → wp_Playing_perform_88 k30 post y2 y3 y4 y5 I A))) ∧ (¬ (A 5 (y2.toNatClampNeg)) = 1 → wp_Playing_perform_88 k30 post y2 y3 y4 y5 I A)))
def wp_Playing_perform_30 (post : (Nat → Int32) → (Nat → Nat → Int32) → Prop) : Nat → Int32 → Int32 → Int32 → Int32 → (Nat → Int32) → (Nat → Nat → Int32) → Prop
  | 0, _, _, _, _, _, _ => False
  | n + 1, y2, y3, y4, y5, I, A => ((64 ≤ y5 → post I A) ∧ (¬ 64 ≤ y5 → (((I 0) ≤ y2 → post I A) ∧ (¬ (I 0) ≤ y2 → (vp_in y2 9 ∧ ((((A 4 (y2.toNatClampNeg)) &&& 1) = 0 → wp_Playing_perform_66 (fun y2 y3 y4 y5 I A => wp_Playing_perform_30 post n y2 y3 y4 y5 I A) post y2 y3 y4 y5 I A) ∧ (¬ ((A 4 (y2.toNatClampNeg)) &&& 1) = 0 → ((y2 = y3 → wp_Playing_perform_66 (fun y2 y3 y4 y5 I A => wp_Playing_perform_30 post n y2 y3 y4 y5 I A) post y2 y3 y4 y5 I A) ∧ (¬ y2 = y3 → wp_Playing_perform_66 (fun y2 y3 y4 y5 I A => wp_Playing_perform_30 post n y2 y3 y4 y5 I A) post y2 y2 1 y5 I A)))))))))
def wp_Playing_perform (I : Nat → Int32) (A : Nat → Nat → Int32) (post : (Nat → Int32) → (Nat → Nat → Int32) → Prop) : Prop := (∃ n30, wp_Playing_perform_30 post n30 0 0 1 0 (upd (upd (upd (upd I 23 0) 24 0) 25 0) 26 0) A)
theorem d_Playing_perform_0 : decode b_Playing_perform 0 = .ok (.aload_n 0, 1) := by decide +kernel
theorem d_Playing_perform_1 : decode b_Playing_perform 1 = .ok (.iconst 0, 1) := by decide +kernel
theorem d_Playing_perform_2 : decode b_Playing_perform 2 = .ok (.putfield 27, 3) := by decide +kernel
theorem d_Playing_perform_5 : decode b_Playing_perform 5 = .ok (.aload_n 0, 1) := by decide +kernel
theorem d_Playing_perform_6 : decode b_Playing_perform 6 = .ok (.iconst 0, 1) := by decide +kernel
theorem d_Playing_perform_7 : decode b_Playing_perform 7 = .ok (.putfield 31, 3) := by decide +kernel
theorem d_Playing_perform_10 : decode b_Playing_perform 10 = .ok (.aload_n 0, 1) := by decide +kernel
theorem d_Playing_perform_11 : decode b_Playing_perform 11 = .ok (.iconst 0, 1) := by decide +kernel
theorem d_Playing_perform_12 : decode b_Playing_perform 12 = .ok (.putfield 35, 3) := by decide +kernel
theorem d_Playing_perform_15 : decode b_Playing_perform 15 = .ok (.aload_n 0, 1) := by decide +kernel
theorem d_Playing_perform_16 : decode b_Playing_perform 16 = .ok (.iconst 0, 1) := by decide +kernel
theorem d_Playing_perform_17 : decode b_Playing_perform 17 = .ok (.putfield 38, 3) := by decide +kernel
theorem d_Playing_perform_20 : decode b_Playing_perform 20 = .ok (.iconst 0, 1) := by decide +kernel
theorem d_Playing_perform_21 : decode b_Playing_perform 21 = .ok (.istore_n 2, 1) := by decide +kernel
theorem d_Playing_perform_22 : decode b_Playing_perform 22 = .ok (.iconst 0, 1) := by decide +kernel
theorem d_Playing_perform_23 : decode b_Playing_perform 23 = .ok (.istore_n 3, 1) := by decide +kernel
theorem d_Playing_perform_24 : decode b_Playing_perform 24 = .ok (.iconst 1, 1) := by decide +kernel
theorem d_Playing_perform_25 : decode b_Playing_perform 25 = .ok (.istore 4, 2) := by decide +kernel
theorem d_Playing_perform_27 : decode b_Playing_perform 27 = .ok (.iconst 0, 1) := by decide +kernel
theorem d_Playing_perform_28 : decode b_Playing_perform 28 = .ok (.istore 5, 2) := by decide +kernel
theorem d_Playing_perform_30 : decode b_Playing_perform 30 = .ok (.iload 5, 2) := by decide +kernel
theorem d_Playing_perform_32 : decode b_Playing_perform 32 = .ok (.bipush 64, 2) := by decide +kernel
theorem d_Playing_perform_34 : decode b_Playing_perform 34 = .ok (.if_icmp .ge 118, 3) := by decide +kernel
theorem d_Playing_perform_37 : decode b_Playing_perform 37 = .ok (.iload_n 2, 1) := by decide +kernel
theorem d_Playing_perform_38 : decode b_Playing_perform 38 = .ok (.aload_n 1, 1) := by decide +kernel
theorem d_Playing_perform_39 : decode b_Playing_perform 39 = .ok (.getfield 41, 3) := by decide +kernel
theorem d_Playing_perform_42 : decode b_Playing_perform 42 = .ok (.if_icmp .ge 110, 3) := by decide +kernel
theorem d_Playing_perform_45 : decode b_Playing_perform 45 = .ok (.aload_n 1, 1) := by decide +kernel
theorem d_Playing_perform_46 : decode b_Playing_perform 46 = .ok (.getfield 46, 3) := by decide +kernel
theorem d_Playing_perform_49 : decode b_Playing_perform 49 = .ok (.iload_n 2, 1) := by decide +kernel
theorem d_Playing_perform_50 : decode b_Playing_perform 50 = .ok (.iaload, 1) := by decide +kernel
theorem d_Playing_perform_51 : decode b_Playing_perform 51 = .ok (.iconst 1, 1) := by decide +kernel
theorem d_Playing_perform_52 : decode b_Playing_perform 52 = .ok (.iand, 1) := by decide +kernel
theorem d_Playing_perform_53 : decode b_Playing_perform 53 = .ok (.ifCond .eq 13, 3) := by decide +kernel
theorem d_Playing_perform_56 : decode b_Playing_perform 56 = .ok (.iload_n 2, 1) := by decide +kernel
theorem d_Playing_perform_57 : decode b_Playing_perform 57 = .ok (.iload_n 3, 1) := by decide +kernel
theorem d_Playing_perform_58 : decode b_Playing_perform 58 = .ok (.if_icmp .eq 8, 3) := by decide +kernel
theorem d_Playing_perform_61 : decode b_Playing_perform 61 = .ok (.iload_n 2, 1) := by decide +kernel
theorem d_Playing_perform_62 : decode b_Playing_perform 62 = .ok (.istore_n 3, 1) := by decide +kernel
theorem d_Playing_perform_63 : decode b_Playing_perform 63 = .ok (.iconst 1, 1) := by decide +kernel
theorem d_Playing_perform_64 : decode b_Playing_perform 64 = .ok (.istore 4, 2) := by decide +kernel
theorem d_Playing_perform_66 : decode b_Playing_perform 66 = .ok (.aload_n 1, 1) := by decide +kernel
theorem d_Playing_perform_67 : decode b_Playing_perform 67 = .ok (.getfield 49, 3) := by decide +kernel
theorem d_Playing_perform_70 : decode b_Playing_perform 70 = .ok (.iload_n 2, 1) := by decide +kernel
theorem d_Playing_perform_71 : decode b_Playing_perform 71 = .ok (.iaload, 1) := by decide +kernel
theorem d_Playing_perform_72 : decode b_Playing_perform 72 = .ok (.iconst 1, 1) := by decide +kernel
theorem d_Playing_perform_73 : decode b_Playing_perform 73 = .ok (.if_icmp .ne 15, 3) := by decide +kernel
theorem d_Playing_perform_76 : decode b_Playing_perform 76 = .ok (.iload 4, 2) := by decide +kernel
theorem d_Playing_perform_78 : decode b_Playing_perform 78 = .ok (.iconst 2, 1) := by decide +kernel
theorem d_Playing_perform_79 : decode b_Playing_perform 79 = .ok (.if_icmp .ne 9, 3) := by decide +kernel
theorem d_Playing_perform_82 : decode b_Playing_perform 82 = .ok (.iinc 2 1, 3) := by decide +kernel
theorem d_Playing_perform_85 : decode b_Playing_perform 85 = .ok (.goto 61, 3) := by decide +kernel
theorem d_Playing_perform_88 : decode b_Playing_perform 88 = .ok (.aload_n 0, 1) := by decide +kernel
theorem d_Playing_perform_89 : decode b_Playing_perform 89 = .ok (.aload_n 1, 1) := by decide +kernel
theorem d_Playing_perform_90 : decode b_Playing_perform 90 = .ok (.iload_n 2, 1) := by decide +kernel
theorem d_Playing_perform_91 : decode b_Playing_perform 91 = .ok (.invokevirtual 52, 3) := by decide +kernel
theorem d_Playing_perform_94 : decode b_Playing_perform 94 = .ok (.aload_n 1, 1) := by decide +kernel
theorem d_Playing_perform_95 : decode b_Playing_perform 95 = .ok (.getfield 46, 3) := by decide +kernel
theorem d_Playing_perform_98 : decode b_Playing_perform 98 = .ok (.iload_n 2, 1) := by decide +kernel
theorem d_Playing_perform_99 : decode b_Playing_perform 99 = .ok (.iconst 1, 1) := by decide +kernel
theorem d_Playing_perform_100 : decode b_Playing_perform 100 = .ok (.iadd, 1) := by decide +kernel
theorem d_Playing_perform_101 : decode b_Playing_perform 101 = .ok (.iaload, 1) := by decide +kernel
theorem d_Playing_perform_102 : decode b_Playing_perform 102 = .ok (.iconst 2, 1) := by decide +kernel
theorem d_Playing_perform_103 : decode b_Playing_perform 103 = .ok (.iand, 1) := by decide +kernel
theorem d_Playing_perform_104 : decode b_Playing_perform 104 = .ok (.ifCond .eq 7, 3) := by decide +kernel
theorem d_Playing_perform_107 : decode b_Playing_perform 107 = .ok (.iconst 1, 1) := by decide +kernel
theorem d_Playing_perform_108 : decode b_Playing_perform 108 = .ok (.goto 4, 3) := by decide +kernel
theorem d_Playing_perform_111 : decode b_Playing_perform 111 = .ok (.iconst 0, 1) := by decide +kernel
theorem d_Playing_perform_112 : decode b_Playing_perform 112 = .ok (.istore 6, 2) := by decide +kernel
theorem d_Playing_perform_114 : decode b_Playing_perform 114 = .ok (.iload 6, 2) := by decide +kernel
theorem d_Playing_perform_116 : decode b_Playing_perform 116 = .ok (.ifCond .eq 17, 3) := by decide +kernel
theorem d_Playing_perform_119 : decode b_Playing_perform 119 = .ok (.iload 4, 2) := by decide +kernel
theorem d_Playing_perform_121 : decode b_Playing_perform 121 = .ok (.iconst 1, 1) := by decide +kernel
theorem d_Playing_perform_122 : decode b_Playing_perform 122 = .ok (.if_icmp .ne 11, 3) := by decide +kernel
theorem d_Playing_perform_125 : decode b_Playing_perform 125 = .ok (.iconst 2, 1) := by decide +kernel
theorem d_Playing_perform_126 : decode b_Playing_perform 126 = .ok (.istore 4, 2) := by decide +kernel
theorem d_Playing_perform_128 : decode b_Playing_perform 128 = .ok (.iload_n 3, 1) := by decide +kernel
theorem d_Playing_perform_129 : decode b_Playing_perform 129 = .ok (.istore_n 2, 1) := by decide +kernel
theorem d_Playing_perform_130 : decode b_Playing_perform 130 = .ok (.goto 16, 3) := by decide +kernel
theorem d_Playing_perform_133 : decode b_Playing_perform 133 = .ok (.iinc 2 1, 3) := by decide +kernel
theorem d_Playing_perform_136 : decode b_Playing_perform 136 = .ok (.iload 6, 2) := by decide +kernel
theorem d_Playing_perform_138 : decode b_Playing_perform 138 = .ok (.ifCond .eq 8, 3) := by decide +kernel
theorem d_Playing_perform_141 : decode b_Playing_perform 141 = .ok (.iload_n 2, 1) := by decide +kernel
theorem d_Playing_perform_142 : decode b_Playing_perform 142 = .ok (.istore_n 3, 1) := by decide +kernel
theorem d_Playing_perform_143 : decode b_Playing_perform 143 = .ok (.iconst 1, 1) := by decide +kernel
theorem d_Playing_perform_144 : decode b_Playing_perform 144 = .ok (.istore 4, 2) := by decide +kernel
theorem d_Playing_perform_146 : decode b_Playing_perform 146 = .ok (.iinc 5 1, 3) := by decide +kernel
theorem d_Playing_perform_149 : decode b_Playing_perform 149 = .ok (.goto (-119), 3) := by decide +kernel
theorem d_Playing_perform_152 : decode b_Playing_perform 152 = .ok (.return_, 1) := by decide +kernel
def w_Playing_perform : List Cond := .code y_Playing_perform b_Playing_perform 7 none :: WALL
theorem g_Playing_perform : GoodIn WALL w_Playing_perform := good_of mc_Playing_perform
set_option maxHeartbeats 4000000 in
set_option maxRecDepth 100000 in
theorem c_Playing_perform (l : Launch) (D : va_G) (cA a : Nat → Nat) (sz : Nat) (I : Nat → Int32) (A : Nat → Nat → Int32) (post : (Nat → Int32) → (Nat → Nat → Int32) → Prop) (h : wp_Playing_perform I A post) : Met l y_Playing_perform w_Playing_perform ({ frames := 4, cells := 0, slots := 0, locals := 92 }) (va_Pc [.ref (a 16), .ref (a 3)] (PreC D cA a I A sz)) (va_Qv (fun (u : StW) => post u.1 u.2) (EndC D cA a) (AC a sz)) 0 0 (AC a sz) := by
  refine Met.ofW (cc := b_Playing_perform) (maxL := 7) (ret := none) (by decide) rfl ?_
  intro p e s m args below meth c s₁ B hml hv
  obtain ⟨rfl, hsz, hP, hK, hD0⟩ := hv
  have hx := B.exec
  have hb := B.bytes
  have hr := B.returns
  have hts := atoms_spec (ws := w_Playing_perform) B.pre
  have hw := wall_of hts
  have hown : s.vm.findClass R_Playing = some m.cls := findClass_of_methodNamed B.named
  have hlocks := B.notSynchronized
  subst hsz
  have hD := hDC (sz := s.heap.size) hD0
  have hA : ∀ q : Nat, s.heap.size ≤ q → AC a s.heap.size q := fun q h => Or.inr h
  have hS : va_S (AC a s.heap.size) s.heap s.heap [] := va_S.rf
  have j112 : ∀ (k30 : Int32 → Int32 → Int32 → Int32 → (Nat → Int32) → (Nat → Nat → Int32) → Prop) (hk30 : ∀ (y2 : Int32) (y3 : Int32) (y4 : Int32) (y5 : Int32) (I : Nat → Int32) (A : Nat → Nat → Int32) (H : Heap) (locs : List Loc) (ls : Array Slot), k30 y2 y3 y4 y5 I A → va_P D cls (wC cA a I A) H → va_S (AC a s.heap.size) s.heap H locs → lv_has ls 7 [(0, .ref (a 16)), (1, .ref (a 3)), (2, .int y2), (3, .int y3), (4, .int y4), (5, .int y5)] → W p l e (headSpec w_Playing_perform ({ frames := 4, cells := 0, slots := 0, locals := 92 })).room s m [.ref (a 16), .ref (a 3)].toArray below meth c H locs 0 0 (MQ below (va_Qv (fun (u : StW) => post u.1 u.2) (EndC D cA a) (AC a s.heap.size)) [.ref (a 16), .ref (a 3)].toArray s 0 0 (AC a s.heap.size)) (F0 m 30 ls [])), ∀ (y2 : Int32) (y3 : Int32) (y4 : Int32) (y5 : Int32) (s0 : Int32) (I : Nat → Int32) (A : Nat → Nat → Int32) (H : Heap) (locs : List Loc) (ls : Array Slot), wp_Playing_perform_112 k30 post y2 y3 y4 y5 s0 I A → va_P D cls (wC cA a I A) H → va_S (AC a s.heap.size) s.heap H locs → lv_has ls 7 [(0, .ref (a 16)), (1, .ref (a 3)), (2, .int y2), (3, .int y3), (4, .int y4), (5, .int y5)] → W p l e (headSpec w_Playing_perform ({ frames := 4, cells := 0, slots := 0, locals := 92 })).room s m [.ref (a 16), .ref (a 3)].toArray below meth c H locs 0 0 (MQ below (va_Qv (fun (u : StW) => post u.1 u.2) (EndC D cA a) (AC a s.heap.size)) [.ref (a 16), .ref (a 3)].toArray s 0 0 (AC a s.heap.size)) (F0 m 112 ls [.int s0]) := by
    intro k30 hk30
    intro y2 y3 y4 y5 s0 I A H locs ls h hP hS hl
    unfold wp_Playing_perform_112 at h
    refine lv_istore (lv' := [(6, .int s0), (0, .ref (a 16)), (1, .ref (a 3)), (2, .int y2), (3, .int y3), (4, .int y4), (5, .int y5)]) hx hb d_Playing_perform_112 hl (by decide) rfl (fun ls hl => ?_)
    refine lv_iload hx hb d_Playing_perform_114 (lv_at hl 0 rfl) ?_
    refine lv_if_eq (tgt := 133) hx hb d_Playing_perform_116 rfl (fun q => ?_) (fun q => ?_)
    · have h := h.1 q
      obtain ⟨v133, ev133⟩ : ∃ z : Int32, z = y2 + 1 := ⟨_, rfl⟩
      have h := h v133 ev133
      refine lv_iinc (k := 3) (v := v133) (lv' := [(2, .int v133), (6, .int s0), (0, .ref (a 16)), (1, .ref (a 3)), (3, .int y3), (4, .int y4), (5, .int y5)]) hx hb d_Playing_perform_133 hl rfl (by rw [ev133, ic_1]) (by decide) rfl (fun ls hl => ?_)
      refine lv_iload hx hb d_Playing_perform_136 (lv_at hl 1 rfl) ?_
      refine lv_if_eq (tgt := 146) hx hb d_Playing_perform_138 rfl (fun q => ?_) (fun q => ?_)
      · have h := h.1 q
        obtain ⟨v146, ev146⟩ : ∃ z : Int32, z = y5 + 1 := ⟨_, rfl⟩
        have h := h v146 ev146
        refine lv_iinc (k := 6) (v := v146) (lv' := [(5, .int v146), (2, .int v133), (6, .int s0), (0, .ref (a 16)), (1, .ref (a 3)), (3, .int y3), (4, .int y4)]) hx hb d_Playing_perform_146 hl rfl (by rw [ev146, ic_1]) (by decide) rfl (fun ls hl => ?_)
        refine lv_goto (tgt := 30) hx hb d_Playing_perform_149 rfl ?_
        exact hk30 v133 y3 y4 v146 I A _ _ _ h hP hS (lv_sub hl [3, 4, 1, 5, 6, 0] rfl)
      · have h := h.2 q
        refine lv_iload_n hx hb d_Playing_perform_141 rfl (lv_at hl 0 rfl) ?_
        refine lv_istore_n (lv' := [(3, .int v133), (2, .int v133), (6, .int s0), (0, .ref (a 16)), (1, .ref (a 3)), (4, .int y4), (5, .int y5)]) hx hb d_Playing_perform_142 rfl hl (by decide) rfl (fun ls hl => ?_)
        refine lv_iconst (v := 1) hx hb d_Playing_perform_143 ic_1 ?_
        refine lv_istore (lv' := [(4, .int 1), (3, .int v133), (2, .int v133), (6, .int s0), (0, .ref (a 16)), (1, .ref (a 3)), (5, .int y5)]) hx hb d_Playing_perform_144 hl (by decide) rfl (fun ls hl => ?_)
        obtain ⟨v146, ev146⟩ : ∃ z : Int32, z = y5 + 1 := ⟨_, rfl⟩
        have h := h v146 ev146
        refine lv_iinc (k := 6) (v := v146) (lv' := [(5, .int v146), (4, .int 1), (3, .int v133), (2, .int v133), (6, .int s0), (0, .ref (a 16)), (1, .ref (a 3))]) hx hb d_Playing_perform_146 hl rfl (by rw [ev146, ic_1]) (by decide) rfl (fun ls hl => ?_)
        refine lv_goto (tgt := 30) hx hb d_Playing_perform_149 rfl ?_
        exact hk30 v133 v133 1 v146 I A _ _ _ h hP hS (lv_sub hl [5, 6, 3, 2, 1, 0] rfl)
    · have h := h.2 q
      refine lv_iload hx hb d_Playing_perform_119 (lv_at hl 5 rfl) ?_
      refine lv_iconst (v := 1) hx hb d_Playing_perform_121 ic_1 ?_
      refine lv_icmp_ne (tgt := 133) hx hb d_Playing_perform_122 rfl (fun q => ?_) (fun q => ?_)
      · have h := h.2 q
        obtain ⟨v133, ev133⟩ : ∃ z : Int32, z = y2 + 1 := ⟨_, rfl⟩
        have h := h v133 ev133
        refine lv_iinc (k := 3) (v := v133) (lv' := [(2, .int v133), (6, .int s0), (0, .ref (a 16)), (1, .ref (a 3)), (3, .int y3), (4, .int y4), (5, .int y5)]) hx hb d_Playing_perform_133 hl rfl (by rw [ev133, ic_1]) (by decide) rfl (fun ls hl => ?_)
        refine lv_iload hx hb d_Playing_perform_136 (lv_at hl 1 rfl) ?_
        refine lv_if_eq (tgt := 146) hx hb d_Playing_perform_138 rfl (fun q => ?_) (fun q => ?_)
        · have h := h.1 q
          obtain ⟨v146, ev146⟩ : ∃ z : Int32, z = y5 + 1 := ⟨_, rfl⟩
          have h := h v146 ev146
          refine lv_iinc (k := 6) (v := v146) (lv' := [(5, .int v146), (2, .int v133), (6, .int s0), (0, .ref (a 16)), (1, .ref (a 3)), (3, .int y3), (4, .int y4)]) hx hb d_Playing_perform_146 hl rfl (by rw [ev146, ic_1]) (by decide) rfl (fun ls hl => ?_)
          refine lv_goto (tgt := 30) hx hb d_Playing_perform_149 rfl ?_
          exact hk30 v133 y3 y4 v146 I A _ _ _ h hP hS (lv_sub hl [3, 4, 1, 5, 6, 0] rfl)
        · have h := h.2 q
          refine lv_iload_n hx hb d_Playing_perform_141 rfl (lv_at hl 0 rfl) ?_
          refine lv_istore_n (lv' := [(3, .int v133), (2, .int v133), (6, .int s0), (0, .ref (a 16)), (1, .ref (a 3)), (4, .int y4), (5, .int y5)]) hx hb d_Playing_perform_142 rfl hl (by decide) rfl (fun ls hl => ?_)
          refine lv_iconst (v := 1) hx hb d_Playing_perform_143 ic_1 ?_
          refine lv_istore (lv' := [(4, .int 1), (3, .int v133), (2, .int v133), (6, .int s0), (0, .ref (a 16)), (1, .ref (a 3)), (5, .int y5)]) hx hb d_Playing_perform_144 hl (by decide) rfl (fun ls hl => ?_)
          obtain ⟨v146, ev146⟩ : ∃ z : Int32, z = y5 + 1 := ⟨_, rfl⟩
          have h := h v146 ev146
          refine lv_iinc (k := 6) (v := v146) (lv' := [(5, .int v146), (4, .int 1), (3, .int v133), (2, .int v133), (6, .int s0), (0, .ref (a 16)), (1, .ref (a 3))]) hx hb d_Playing_perform_146 hl rfl (by rw [ev146, ic_1]) (by decide) rfl (fun ls hl => ?_)
          refine lv_goto (tgt := 30) hx hb d_Playing_perform_149 rfl ?_
          exact hk30 v133 v133 1 v146 I A _ _ _ h hP hS (lv_sub hl [5, 6, 3, 2, 1, 0] rfl)
      · have h := h.1 q
        refine lv_iconst (v := 2) hx hb d_Playing_perform_125 ic_2 ?_
        refine lv_istore (lv' := [(4, .int 2), (6, .int s0), (0, .ref (a 16)), (1, .ref (a 3)), (2, .int y2), (3, .int y3), (5, .int y5)]) hx hb d_Playing_perform_126 hl (by decide) rfl (fun ls hl => ?_)
        refine lv_iload_n hx hb d_Playing_perform_128 rfl (lv_at hl 5 rfl) ?_
        refine lv_istore_n (lv' := [(2, .int y3), (4, .int 2), (6, .int s0), (0, .ref (a 16)), (1, .ref (a 3)), (3, .int y3), (5, .int y5)]) hx hb d_Playing_perform_129 rfl hl (by decide) rfl (fun ls hl => ?_)
        refine lv_goto (tgt := 146) hx hb d_Playing_perform_130 rfl ?_
        obtain ⟨v146, ev146⟩ : ∃ z : Int32, z = y5 + 1 := ⟨_, rfl⟩
        have h := h v146 ev146
        refine lv_iinc (k := 6) (v := v146) (lv' := [(5, .int v146), (2, .int y3), (4, .int 2), (6, .int s0), (0, .ref (a 16)), (1, .ref (a 3)), (3, .int y3)]) hx hb d_Playing_perform_146 hl rfl (by rw [ev146, ic_1]) (by decide) rfl (fun ls hl => ?_)
        refine lv_goto (tgt := 30) hx hb d_Playing_perform_149 rfl ?_
        exact hk30 y3 y3 2 v146 I A _ _ _ h hP hS (lv_sub hl [4, 5, 1, 6, 2, 0] rfl)
  have j88 : ∀ (k30 : Int32 → Int32 → Int32 → Int32 → (Nat → Int32) → (Nat → Nat → Int32) → Prop) (hk30 : ∀ (y2 : Int32) (y3 : Int32) (y4 : Int32) (y5 : Int32) (I : Nat → Int32) (A : Nat → Nat → Int32) (H : Heap) (locs : List Loc) (ls : Array Slot), k30 y2 y3 y4 y5 I A → va_P D cls (wC cA a I A) H → va_S (AC a s.heap.size) s.heap H locs → lv_has ls 7 [(0, .ref (a 16)), (1, .ref (a 3)), (2, .int y2), (3, .int y3), (4, .int y4), (5, .int y5)] → W p l e (headSpec w_Playing_perform ({ frames := 4, cells := 0, slots := 0, locals := 92 })).room s m [.ref (a 16), .ref (a 3)].toArray below meth c H locs 0 0 (MQ below (va_Qv (fun (u : StW) => post u.1 u.2) (EndC D cA a) (AC a s.heap.size)) [.ref (a 16), .ref (a 3)].toArray s 0 0 (AC a s.heap.size)) (F0 m 30 ls [])), ∀ (y2 : Int32) (y3 : Int32) (y4 : Int32) (y5 : Int32) (I : Nat → Int32) (A : Nat → Nat → Int32) (H : Heap) (locs : List Loc) (ls : Array Slot), wp_Playing_perform_88 k30 post y2 y3 y4 y5 I A → va_P D cls (wC cA a I A) H → va_S (AC a s.heap.size) s.heap H locs → lv_has ls 7 [(0, .ref (a 16)), (1, .ref (a 3)), (2, .int y2), (3, .int y3), (4, .int y4), (5, .int y5)] → W p l e (headSpec w_Playing_perform ({ frames := 4, cells := 0, slots := 0, locals := 92 })).room s m [.ref (a 16), .ref (a 3)].toArray below meth c H locs 0 0 (MQ below (va_Qv (fun (u : StW) => post u.1 u.2) (EndC D cA a) (AC a s.heap.size)) [.ref (a 16), .ref (a 3)].toArray s 0 0 (AC a s.heap.size)) (F0 m 88 ls []) := by
    intro k30 hk30
    intro y2 y3 y4 y5 I A H locs ls h hP hS hl
    unfold wp_Playing_perform_88 at h
    refine lv_aload_n hx hb d_Playing_perform_88 rfl (lv_at hl 0 rfl) ?_
    refine lv_aload_n hx hb d_Playing_perform_89 rfl (lv_at hl 1 rfl) ?_
    refine lv_iload_n hx hb d_Playing_perform_90 rfl (lv_at hl 2 rfl) ?_
    refine k_Playing_playBar y2 (rest := []) ⟨hx, hb, hml, hown, hw⟩ hK hD hA hS hP hl.1 (hw _ m_Playing_52) (Nat.le_of_ble_eq_true rfl) ⟨Nat.le_of_ble_eq_true rfl, Nat.le_of_ble_eq_true rfl⟩ ⟨Nat.zero_le _, Nat.zero_le _⟩ d_Playing_perform_91 h (fun I91 A91 H locs h hP hS => ?_)
    refine lv_aload_n hx hb d_Playing_perform_94 rfl (lv_at hl 1 rfl) ?_
    refine gC_Tune_line hx hb hw hown hK hP (hw _ m_Playing_46) d_Playing_perform_95 ?_
    refine lv_iload_n hx hb d_Playing_perform_98 rfl (lv_at hl 2 rfl) ?_
    refine lv_iconst (v := 1) hx hb d_Playing_perform_99 ic_1 ?_
    refine lv_iadd hx hb d_Playing_perform_100 ?_
    obtain ⟨hin, h⟩ := h
    refine lC4 hx hb hK hP hin d_Playing_perform_101 ?_
    refine lv_iconst (v := 2) hx hb d_Playing_perform_102 ic_2 ?_
    refine lv_iand hx hb d_Playing_perform_103 ?_
    refine lv_if_eq (tgt := 111) hx hb d_Playing_perform_104 rfl (fun q => ?_) (fun q => ?_)
    · have h := h.1 q
      refine lv_iconst (v := 0) hx hb d_Playing_perform_111 ic_0 ?_
      exact (j112 _ hk30) y2 y3 y4 y5 0 I91 A91 _ _ _ h hP hS (lv_sub hl [0, 1, 2, 3, 4, 5] rfl)
    · have h := h.2 q
      refine lv_iconst (v := 1) hx hb d_Playing_perform_107 ic_1 ?_
      refine lv_goto (tgt := 112) hx hb d_Playing_perform_108 rfl ?_
      exact (j112 _ hk30) y2 y3 y4 y5 1 I91 A91 _ _ _ h hP hS (lv_sub hl [0, 1, 2, 3, 4, 5] rfl)
  have j66 : ∀ (k30 : Int32 → Int32 → Int32 → Int32 → (Nat → Int32) → (Nat → Nat → Int32) → Prop) (hk30 : ∀ (y2 : Int32) (y3 : Int32) (y4 : Int32) (y5 : Int32) (I : Nat → Int32) (A : Nat → Nat → Int32) (H : Heap) (locs : List Loc) (ls : Array Slot), k30 y2 y3 y4 y5 I A → va_P D cls (wC cA a I A) H → va_S (AC a s.heap.size) s.heap H locs → lv_has ls 7 [(0, .ref (a 16)), (1, .ref (a 3)), (2, .int y2), (3, .int y3), (4, .int y4), (5, .int y5)] → W p l e (headSpec w_Playing_perform ({ frames := 4, cells := 0, slots := 0, locals := 92 })).room s m [.ref (a 16), .ref (a 3)].toArray below meth c H locs 0 0 (MQ below (va_Qv (fun (u : StW) => post u.1 u.2) (EndC D cA a) (AC a s.heap.size)) [.ref (a 16), .ref (a 3)].toArray s 0 0 (AC a s.heap.size)) (F0 m 30 ls [])), ∀ (y2 : Int32) (y3 : Int32) (y4 : Int32) (y5 : Int32) (I : Nat → Int32) (A : Nat → Nat → Int32) (H : Heap) (locs : List Loc) (ls : Array Slot), wp_Playing_perform_66 k30 post y2 y3 y4 y5 I A → va_P D cls (wC cA a I A) H → va_S (AC a s.heap.size) s.heap H locs → lv_has ls 7 [(0, .ref (a 16)), (1, .ref (a 3)), (2, .int y2), (3, .int y3), (4, .int y4), (5, .int y5)] → W p l e (headSpec w_Playing_perform ({ frames := 4, cells := 0, slots := 0, locals := 92 })).room s m [.ref (a 16), .ref (a 3)].toArray below meth c H locs 0 0 (MQ below (va_Qv (fun (u : StW) => post u.1 u.2) (EndC D cA a) (AC a s.heap.size)) [.ref (a 16), .ref (a 3)].toArray s 0 0 (AC a s.heap.size)) (F0 m 66 ls []) := by
    intro k30 hk30
    intro y2 y3 y4 y5 I A H locs ls h hP hS hl
    unfold wp_Playing_perform_66 at h
    refine lv_aload_n hx hb d_Playing_perform_66 rfl (lv_at hl 1 rfl) ?_
    refine gC_Tune_ending hx hb hw hown hK hP (hw _ m_Playing_49) d_Playing_perform_67 ?_
    refine lv_iload_n hx hb d_Playing_perform_70 rfl (lv_at hl 2 rfl) ?_
    obtain ⟨hin, h⟩ := h
    refine lC5 hx hb hK hP hin d_Playing_perform_71 ?_
    refine lv_iconst (v := 1) hx hb d_Playing_perform_72 ic_1 ?_
    refine lv_icmp_ne (tgt := 88) hx hb d_Playing_perform_73 rfl (fun q => ?_) (fun q => ?_)
    · have h := h.2 q
      exact (j88 _ hk30) y2 y3 y4 y5 I A _ _ _ h hP hS (lv_sub hl [0, 1, 2, 3, 4, 5] rfl)
    · have h := h.1 q
      refine lv_iload hx hb d_Playing_perform_76 (lv_at hl 4 rfl) ?_
      refine lv_iconst (v := 2) hx hb d_Playing_perform_78 ic_2 ?_
      refine lv_icmp_ne (tgt := 88) hx hb d_Playing_perform_79 rfl (fun q => ?_) (fun q => ?_)
      · have h := h.2 q
        exact (j88 _ hk30) y2 y3 y4 y5 I A _ _ _ h hP hS (lv_sub hl [0, 1, 2, 3, 4, 5] rfl)
      · have h := h.1 q
        obtain ⟨v82, ev82⟩ : ∃ z : Int32, z = y2 + 1 := ⟨_, rfl⟩
        have h := h v82 ev82
        refine lv_iinc (k := 2) (v := v82) (lv' := [(2, .int v82), (0, .ref (a 16)), (1, .ref (a 3)), (3, .int y3), (4, .int y4), (5, .int y5)]) hx hb d_Playing_perform_82 hl rfl (by rw [ev82, ic_1]) (by decide) rfl (fun ls hl => ?_)
        refine lv_goto (tgt := 146) hx hb d_Playing_perform_85 rfl ?_
        obtain ⟨v146, ev146⟩ : ∃ z : Int32, z = y5 + 1 := ⟨_, rfl⟩
        have h := h v146 ev146
        refine lv_iinc (k := 5) (v := v146) (lv' := [(5, .int v146), (2, .int v82), (0, .ref (a 16)), (1, .ref (a 3)), (3, .int y3), (4, .int y4)]) hx hb d_Playing_perform_146 hl rfl (by rw [ev146, ic_1]) (by decide) rfl (fun ls hl => ?_)
        refine lv_goto (tgt := 30) hx hb d_Playing_perform_149 rfl ?_
        exact hk30 v82 y3 y4 v146 I A _ _ _ h hP hS (lv_sub hl [2, 3, 1, 4, 5, 0] rfl)
  have j30 : ∀ n : Nat, ∀ (y2 : Int32) (y3 : Int32) (y4 : Int32) (y5 : Int32) (I : Nat → Int32) (A : Nat → Nat → Int32) (H : Heap) (locs : List Loc) (ls : Array Slot), wp_Playing_perform_30 post n y2 y3 y4 y5 I A → va_P D cls (wC cA a I A) H → va_S (AC a s.heap.size) s.heap H locs → lv_has ls 7 [(0, .ref (a 16)), (1, .ref (a 3)), (2, .int y2), (3, .int y3), (4, .int y4), (5, .int y5)] → W p l e (headSpec w_Playing_perform ({ frames := 4, cells := 0, slots := 0, locals := 92 })).room s m [.ref (a 16), .ref (a 3)].toArray below meth c H locs 0 0 (MQ below (va_Qv (fun (u : StW) => post u.1 u.2) (EndC D cA a) (AC a s.heap.size)) [.ref (a 16), .ref (a 3)].toArray s 0 0 (AC a s.heap.size)) (F0 m 30 ls []) := by
    intro n
    induction n with
    | zero =>
      intro y2 y3 y4 y5 I A H locs ls h hP hS hl
      exact False.elim h
    | succ n ih =>
      intro y2 y3 y4 y5 I A H locs ls h hP hS hl
      unfold wp_Playing_perform_30 at h
      refine lv_iload hx hb d_Playing_perform_30 (lv_at hl 5 rfl) ?_
      refine lv_bipush (v := 64) hx hb d_Playing_perform_32 bp_64 ?_
      refine lv_icmp_ge (tgt := 152) hx hb d_Playing_perform_34 rfl (fun q => ?_) (fun q => ?_)
      · have h := h.1 q
        exact W.vret hx hb hr (fun t ht hW => ⟨⟨(I, A), rfl, h, endC_of ht hP⟩, hS.F ht⟩) hS.2.2 d_Playing_perform_152
      · have h := h.2 q
        refine lv_iload_n hx hb d_Playing_perform_37 rfl (lv_at hl 2 rfl) ?_
        refine lv_aload_n hx hb d_Playing_perform_38 rfl (lv_at hl 1 rfl) ?_
        refine gC_Tune_barCount hx hb hw hown hK hP (hw _ m_Playing_41) d_Playing_perform_39 ?_
        refine lv_icmp_ge (tgt := 152) hx hb d_Playing_perform_42 rfl (fun q => ?_) (fun q => ?_)
        · have h := h.1 q
          exact W.vret hx hb hr (fun t ht hW => ⟨⟨(I, A), rfl, h, endC_of ht hP⟩, hS.F ht⟩) hS.2.2 d_Playing_perform_152
        · have h := h.2 q
          refine lv_aload_n hx hb d_Playing_perform_45 rfl (lv_at hl 1 rfl) ?_
          refine gC_Tune_line hx hb hw hown hK hP (hw _ m_Playing_46) d_Playing_perform_46 ?_
          refine lv_iload_n hx hb d_Playing_perform_49 rfl (lv_at hl 2 rfl) ?_
          obtain ⟨hin, h⟩ := h
          refine lC4 hx hb hK hP hin d_Playing_perform_50 ?_
          refine lv_iconst (v := 1) hx hb d_Playing_perform_51 ic_1 ?_
          refine lv_iand hx hb d_Playing_perform_52 ?_
          refine lv_if_eq (tgt := 66) hx hb d_Playing_perform_53 rfl (fun q => ?_) (fun q => ?_)
          · have h := h.1 q
            exact (j66 _ ih) y2 y3 y4 y5 I A _ _ _ h hP hS (lv_sub hl [0, 1, 2, 3, 4, 5] rfl)
          · have h := h.2 q
            refine lv_iload_n hx hb d_Playing_perform_56 rfl (lv_at hl 2 rfl) ?_
            refine lv_iload_n hx hb d_Playing_perform_57 rfl (lv_at hl 3 rfl) ?_
            refine lv_icmp_eq (tgt := 66) hx hb d_Playing_perform_58 rfl (fun q => ?_) (fun q => ?_)
            · have h := h.1 q
              exact (j66 _ ih) y2 y3 y4 y5 I A _ _ _ h hP hS (lv_sub hl [0, 1, 2, 3, 4, 5] rfl)
            · have h := h.2 q
              refine lv_iload_n hx hb d_Playing_perform_61 rfl (lv_at hl 2 rfl) ?_
              refine lv_istore_n (lv' := [(3, .int y2), (0, .ref (a 16)), (1, .ref (a 3)), (2, .int y2), (4, .int y4), (5, .int y5)]) hx hb d_Playing_perform_62 rfl hl (by decide) rfl (fun ls hl => ?_)
              refine lv_iconst (v := 1) hx hb d_Playing_perform_63 ic_1 ?_
              refine lv_istore (lv' := [(4, .int 1), (3, .int y2), (0, .ref (a 16)), (1, .ref (a 3)), (2, .int y2), (5, .int y5)]) hx hb d_Playing_perform_64 hl (by decide) rfl (fun ls hl => ?_)
              exact (j66 _ ih) y2 y2 1 y5 I A _ _ _ h hP hS (lv_sub hl [2, 3, 4, 1, 0, 5] rfl)
  have hl := lv_entry ([.ref (a 16), .ref (a 3)]) (n := 7) (Nat.le_of_ble_eq_true rfl)
  rw [lg_entry_eq]
  generalize (lg_sl ([.ref (a 16), .ref (a 3)]) ++ List.replicate (7 - (lg_sl ([.ref (a 16), .ref (a 3)])).length) Slot.unset).toArray = ls at hl ⊢
  have hl : lv_has ls 7 [(0, .ref (a 16)), (1, .ref (a 3))] := hl
  unfold wp_Playing_perform at h
  refine lv_aload_n hx hb d_Playing_perform_0 rfl (lv_at hl 0 rfl) ?_
  refine lv_iconst (v := 0) hx hb d_Playing_perform_1 ic_0 ?_
  refine pC_Playing_count hx hb hw hown hK hD hS hP (hw _ m_Playing_27) d_Playing_perform_2 (fun H locs hP hS => ?_)
  refine lv_aload_n hx hb d_Playing_perform_5 rfl (lv_at hl 0 rfl) ?_
  refine lv_iconst (v := 0) hx hb d_Playing_perform_6 ic_0 ?_
  refine pC_Playing_tooMany hx hb hw hown hK hD hS hP (hw _ m_Playing_31) vz0 d_Playing_perform_7 (fun H locs hP hS => ?_)
  refine lv_aload_n hx hb d_Playing_perform_10 rfl (lv_at hl 0 rfl) ?_
  refine lv_iconst (v := 0) hx hb d_Playing_perform_11 ic_0 ?_
  refine pC_Playing_now hx hb hw hown hK hD hS hP (hw _ m_Playing_35) d_Playing_perform_12 (fun H locs hP hS => ?_)
  refine lv_aload_n hx hb d_Playing_perform_15 rfl (lv_at hl 0 rfl) ?_
  refine lv_iconst (v := 0) hx hb d_Playing_perform_16 ic_0 ?_
  refine pC_Playing_waitingCount hx hb hw hown hK hD hS hP (hw _ m_Playing_38) d_Playing_perform_17 (fun H locs hP hS => ?_)
  refine lv_iconst (v := 0) hx hb d_Playing_perform_20 ic_0 ?_
  refine lv_istore_n (lv' := [(2, .int 0), (0, .ref (a 16)), (1, .ref (a 3))]) hx hb d_Playing_perform_21 rfl hl (by decide) rfl (fun ls hl => ?_)
  refine lv_iconst (v := 0) hx hb d_Playing_perform_22 ic_0 ?_
  refine lv_istore_n (lv' := [(3, .int 0), (2, .int 0), (0, .ref (a 16)), (1, .ref (a 3))]) hx hb d_Playing_perform_23 rfl hl (by decide) rfl (fun ls hl => ?_)
  refine lv_iconst (v := 1) hx hb d_Playing_perform_24 ic_1 ?_
  refine lv_istore (lv' := [(4, .int 1), (3, .int 0), (2, .int 0), (0, .ref (a 16)), (1, .ref (a 3))]) hx hb d_Playing_perform_25 hl (by decide) rfl (fun ls hl => ?_)
  refine lv_iconst (v := 0) hx hb d_Playing_perform_27 ic_0 ?_
  refine lv_istore (lv' := [(5, .int 0), (4, .int 1), (3, .int 0), (2, .int 0), (0, .ref (a 16)), (1, .ref (a 3))]) hx hb d_Playing_perform_28 hl (by decide) rfl (fun ls hl => ?_)
  obtain ⟨n30, h⟩ := h
  exact j30 n30 0 0 1 0 (upd (upd (upd (upd I 23 0) 24 0) 25 0) 26 0) A _ _ _ h hP hS (lv_sub hl [4, 5, 3, 2, 1, 0] rfl)
theorem k_Playing_perform {p : Program} {l : Launch} {e : Env} {R : Room} {s : State} {m : MethodId} {args : Array Value} {below : List Frame} {meth : Method} {c : Code} {H : Heap} {locs : List Loc} {cells slots : Nat} {Q : State → Prop} {cc : ByteArray} {pc nL idx : Nat} {own : String} {ls : Array Slot} {D : va_G} {cA a : Nat → Nat} {AA : Nat → Prop} {I : Nat → Int32} {A : Nat → Nat → Int32} {post : (Nat → Int32) → (Nat → Nat → Int32) → Prop} {rest : List Value} (S : CallFix p m c cc nL s args WALL own) (hK : KC D cA a AA s) (hD : ∀ I A, va_D AA (wC cA a I A)) (hA : ∀ q : Nat, s.heap.size ≤ q → AA q) (hS : va_S AA s.heap H locs) (hP : va_P D cls (wC cA a I A) H) (hl1 : ls.size = nL) (hlink : (Cond.methodLink own idx y_Playing_perform).before args s = true) (hst : (rest.map fun v => v.category).sum ≤ 8) (hR : ({ frames := 4, cells := 0, slots := 0, locals := 92 } : Room).frames + 1 ≤ R.frames ∧ 8 + (7 + 11) + ({ frames := 4, cells := 0, slots := 0, locals := 92 } : Room).locals ≤ R.locals) (hcs : cells ≤ R.cells ∧ slots ≤ R.slots) (hdg : decode cc pc = .ok (.invokevirtual idx, 3)) (h : wp_Playing_perform I A post) (kk : ∀ (I1 : Nat → Int32) (A1 : Nat → Nat → Int32) (H1 : Heap) (locs1 : List Loc), post I1 A1 → va_P D cls (wC cA a I1 A1) H1 → va_S AA s.heap H1 locs1 → W p l e R s m args below meth c H1 locs1 cells slots Q (F0 m (pc + 3) ls rest)) : W p l e R s m args below meth c H locs cells slots Q (F0 m pc ls (.ref (a 3) :: .ref (a 16) :: rest)) :=
  va_callv (va_runV (As := [.ref (a 3)]) (rest := rest) S (c_Playing_perform l D cA a H.size I A post h) ⟨callB_of 1 S.2.2.2.2 g_Playing_perform rfl rfl rfl (S.2.2.2.2 _ mi_Playing) hlink ⟨by decide, by decide, by decide +kernel⟩ hR, S.2.2.2.2 _ mn_Playing_perform, S.2.2.2.2 _ ms_Playing_perform⟩ (preCV hK hD hA hS hP 16 rfl rfl) rfl rfl hl1 rfl (lv_room hst) hdg hcs) hS (fun q _ z => AC_le hD hA hS q z) (fun q z => AC_le hD hA hS q z) (fun u t H1 locs1 ht _ hp hB _ _ hS1 => kk u.1 u.2 H1 locs1 hp (of_endC ht hB) hS1)
def wp_TuneSetter_refuse (x1 : Int32) (x2 : Int32) (I : Nat → Int32) (A : Nat → Nat → Int32) (post : Int32 → (Nat → Int32) → (Nat → Nat → Int32) → Prop) : Prop := post x1 (upd (upd I 34 0) 35 x2) A
theorem d_TuneSetter_refuse_0 : decode b_TuneSetter_refuse 0 = .ok (.aload_n 0, 1) := by decide +kernel
theorem d_TuneSetter_refuse_1 : decode b_TuneSetter_refuse 1 = .ok (.iconst 0, 1) := by decide +kernel
theorem d_TuneSetter_refuse_2 : decode b_TuneSetter_refuse 2 = .ok (.putfield 87, 3) := by decide +kernel
theorem d_TuneSetter_refuse_5 : decode b_TuneSetter_refuse 5 = .ok (.aload_n 0, 1) := by decide +kernel
theorem d_TuneSetter_refuse_6 : decode b_TuneSetter_refuse 6 = .ok (.iload_n 2, 1) := by decide +kernel
theorem d_TuneSetter_refuse_7 : decode b_TuneSetter_refuse 7 = .ok (.putfield 48, 3) := by decide +kernel
theorem d_TuneSetter_refuse_10 : decode b_TuneSetter_refuse 10 = .ok (.iload_n 1, 1) := by decide +kernel
theorem d_TuneSetter_refuse_11 : decode b_TuneSetter_refuse 11 = .ok (.ireturn, 1) := by decide +kernel
def w_TuneSetter_refuse : List Cond := .code y_TuneSetter_refuse b_TuneSetter_refuse 3 (some .int) :: WALL
theorem g_TuneSetter_refuse : GoodIn WALL w_TuneSetter_refuse := good_of mc_TuneSetter_refuse
set_option maxHeartbeats 4000000 in
set_option maxRecDepth 100000 in
theorem c_TuneSetter_refuse (l : Launch) (D : va_G) (cA a : Nat → Nat) (sz : Nat) (x1 : Int32) (x2 : Int32) (I : Nat → Int32) (A : Nat → Nat → Int32) (post : Int32 → (Nat → Int32) → (Nat → Nat → Int32) → Prop) (h : wp_TuneSetter_refuse x1 x2 I A post) : Met l y_TuneSetter_refuse w_TuneSetter_refuse ({ frames := 0, cells := 0, slots := 0, locals := 0 }) (va_Pc [.ref (a 0), .int x1, .int x2] (PreC D cA a I A sz)) (va_Qi (fun r (u : StW) => post r u.1 u.2) (EndC D cA a) (AC a sz)) 0 0 (AC a sz) := by
  refine Met.ofW (cc := b_TuneSetter_refuse) (maxL := 3) (ret := (some .int)) (by decide) rfl ?_
  intro p e s m args below meth c s₁ B hml hv
  obtain ⟨rfl, hsz, hP, hK, hD0⟩ := hv
  have hx := B.exec
  have hb := B.bytes
  have hr := B.returns
  have hts := atoms_spec (ws := w_TuneSetter_refuse) B.pre
  have hw := wall_of hts
  have hown : s.vm.findClass R_TuneSetter = some m.cls := findClass_of_methodNamed B.named
  have hlocks := B.notSynchronized
  subst hsz
  have hD := hDC (sz := s.heap.size) hD0
  have hA : ∀ q : Nat, s.heap.size ≤ q → AC a s.heap.size q := fun q h => Or.inr h
  have hS : va_S (AC a s.heap.size) s.heap s.heap [] := va_S.rf
  have hl := lv_entry ([.ref (a 0), .int x1, .int x2]) (n := 3) (Nat.le_of_ble_eq_true rfl)
  rw [lg_entry_eq]
  generalize (lg_sl ([.ref (a 0), .int x1, .int x2]) ++ List.replicate (3 - (lg_sl ([.ref (a 0), .int x1, .int x2])).length) Slot.unset).toArray = ls at hl ⊢
  have hl : lv_has ls 3 [(0, .ref (a 0)), (1, .int x1), (2, .int x2)] := hl
  unfold wp_TuneSetter_refuse at h
  refine lv_aload_n hx hb d_TuneSetter_refuse_0 rfl (lv_at hl 0 rfl) ?_
  refine lv_iconst (v := 0) hx hb d_TuneSetter_refuse_1 ic_0 ?_
  refine pC_TuneSetter_hasTune hx hb hw hown hK hD hS hP (hw _ m_TuneSetter_87) vz0 d_TuneSetter_refuse_2 (fun H locs hP hS => ?_)
  refine lv_aload_n hx hb d_TuneSetter_refuse_5 rfl (lv_at hl 0 rfl) ?_
  refine lv_iload_n hx hb d_TuneSetter_refuse_6 rfl (lv_at hl 2 rfl) ?_
  refine pC_TuneSetter_wrongPlace hx hb hw hown hK hD hS hP (hw _ m_TuneSetter_48) d_TuneSetter_refuse_7 (fun H locs hP hS => ?_)
  refine lv_iload_n hx hb d_TuneSetter_refuse_10 rfl (lv_at hl 1 rfl) ?_
  exact W.iret hx hb hr (fun t ht hW => ⟨⟨_, ((upd (upd I 34 0) 35 x2), A), rfl, h, endC_of ht hP⟩, hS.F ht⟩) hS.2.2 d_TuneSetter_refuse_11
theorem k_TuneSetter_refuse {p : Program} {l : Launch} {e : Env} {R : Room} {s : State} {m : MethodId} {args : Array Value} {below : List Frame} {meth : Method} {c : Code} {H : Heap} {locs : List Loc} {cells slots : Nat} {Q : State → Prop} {cc : ByteArray} {pc nL idx : Nat} {own : String} {ls : Array Slot} {D : va_G} {cA a : Nat → Nat} {AA : Nat → Prop} {I : Nat → Int32} {A : Nat → Nat → Int32} {post : Int32 → (Nat → Int32) → (Nat → Nat → Int32) → Prop} (x1 : Int32) (x2 : Int32) {rest : List Value} (S : CallFix p m c cc nL s args WALL own) (hK : KC D cA a AA s) (hD : ∀ I A, va_D AA (wC cA a I A)) (hA : ∀ q : Nat, s.heap.size ≤ q → AA q) (hS : va_S AA s.heap H locs) (hP : va_P D cls (wC cA a I A) H) (hl1 : ls.size = nL) (hlink : (Cond.methodLink own idx y_TuneSetter_refuse).before args s = true) (hst : (rest.map fun v => v.category).sum ≤ 8) (hR : ({ frames := 0, cells := 0, slots := 0, locals := 0 } : Room).frames + 1 ≤ R.frames ∧ 8 + (3 + 11) + ({ frames := 0, cells := 0, slots := 0, locals := 0 } : Room).locals ≤ R.locals) (hcs : cells ≤ R.cells ∧ slots ≤ R.slots) (hdg : decode cc pc = .ok (.invokevirtual idx, 3)) (h : wp_TuneSetter_refuse x1 x2 I A post) (kk : ∀ (r : Int32) (I1 : Nat → Int32) (A1 : Nat → Nat → Int32) (H1 : Heap) (locs1 : List Loc), post r I1 A1 → va_P D cls (wC cA a I1 A1) H1 → va_S AA s.heap H1 locs1 → W p l e R s m args below meth c H1 locs1 cells slots Q (F0 m (pc + 3) ls (.int r :: rest))) : W p l e R s m args below meth c H locs cells slots Q (F0 m pc ls (.int x2 :: .int x1 :: .ref (a 0) :: rest)) :=
  va_calli (va_runV (As := [.int x1, .int x2]) (rest := rest) S (c_TuneSetter_refuse l D cA a H.size x1 x2 I A post h) ⟨callB_of 2 S.2.2.2.2 g_TuneSetter_refuse rfl rfl rfl (S.2.2.2.2 _ mi_TuneSetter) hlink ⟨by decide, by decide, by decide +kernel⟩ hR, S.2.2.2.2 _ mn_TuneSetter_refuse, S.2.2.2.2 _ ms_TuneSetter_refuse⟩ (preCV hK hD hA hS hP 0 rfl rfl) rfl rfl hl1 rfl (lv_room hst) hdg hcs) hS (fun q _ z => AC_le hD hA hS q z) (fun q z => AC_le hD hA hS q z) (fun r u t H1 locs1 ht _ hp hB _ _ hS1 => kk r u.1 u.2 H1 locs1 hp (of_endC ht hB) hS1)
def wp_TuneSetter_read (I : Nat → Int32) (A : Nat → Nat → Int32) (post : Int32 → (Nat → Int32) → (Nat → Nat → Int32) → Prop) : Prop := (wp_Reader_prepare (I 31) (I 32) (I 33) I A (fun I16 A16 => (wp_Reader_scan (I16 30) I16 A16 (fun I31 A31 => (((I31 3) = 0 → (wp_Playing_perform I31 A31 (fun I74 A74 => (((I74 24) = 0 → post (I74 23) (upd (upd I74 34 1) 35 (-1)) A74) ∧ (¬ (I74 24) = 0 → (wp_TuneSetter_refuse (-7) (I74 30) I74 A74 (fun r94 I94 A94 => post r94 I94 A94))))))) ∧ (¬ (I31 3) = 0 → (wp_TuneSetter_refuse (I31 3) (I31 4) I31 A31 (fun r59 I59 A59 => post r59 I59 A59))))))))
theorem d_TuneSetter_read_0 : decode b_TuneSetter_read 0 = .ok (.aload_n 0, 1) := by decide +kernel
theorem d_TuneSetter_read_1 : decode b_TuneSetter_read 1 = .ok (.getfield 16, 3) := by decide +kernel
theorem d_TuneSetter_read_4 : decode b_TuneSetter_read 4 = .ok (.aload_n 0, 1) := by decide +kernel
theorem d_TuneSetter_read_5 : decode b_TuneSetter_read 5 = .ok (.getfield 41, 3) := by decide +kernel
theorem d_TuneSetter_read_8 : decode b_TuneSetter_read 8 = .ok (.aload_n 0, 1) := by decide +kernel
theorem d_TuneSetter_read_9 : decode b_TuneSetter_read 9 = .ok (.getfield 45, 3) := by decide +kernel
theorem d_TuneSetter_read_12 : decode b_TuneSetter_read 12 = .ok (.aload_n 0, 1) := by decide +kernel
theorem d_TuneSetter_read_13 : decode b_TuneSetter_read 13 = .ok (.getfield 51, 3) := by decide +kernel
theorem d_TuneSetter_read_16 : decode b_TuneSetter_read 16 = .ok (.invokevirtual 57, 3) := by decide +kernel
theorem d_TuneSetter_read_19 : decode b_TuneSetter_read 19 = .ok (.aload_n 0, 1) := by decide +kernel
theorem d_TuneSetter_read_20 : decode b_TuneSetter_read 20 = .ok (.getfield 16, 3) := by decide +kernel
theorem d_TuneSetter_read_23 : decode b_TuneSetter_read 23 = .ok (.aload_n 0, 1) := by decide +kernel
theorem d_TuneSetter_read_24 : decode b_TuneSetter_read 24 = .ok (.getfield 9, 3) := by decide +kernel
theorem d_TuneSetter_read_27 : decode b_TuneSetter_read 27 = .ok (.aload_n 0, 1) := by decide +kernel
theorem d_TuneSetter_read_28 : decode b_TuneSetter_read 28 = .ok (.getfield 54, 3) := by decide +kernel
theorem d_TuneSetter_read_31 : decode b_TuneSetter_read 31 = .ok (.invokevirtual 61, 3) := by decide +kernel
theorem d_TuneSetter_read_34 : decode b_TuneSetter_read 34 = .ok (.aload_n 0, 1) := by decide +kernel
theorem d_TuneSetter_read_35 : decode b_TuneSetter_read 35 = .ok (.getfield 16, 3) := by decide +kernel
theorem d_TuneSetter_read_38 : decode b_TuneSetter_read 38 = .ok (.getfield 65, 3) := by decide +kernel
theorem d_TuneSetter_read_41 : decode b_TuneSetter_read 41 = .ok (.ifCond .eq 22, 3) := by decide +kernel
theorem d_TuneSetter_read_44 : decode b_TuneSetter_read 44 = .ok (.aload_n 0, 1) := by decide +kernel
theorem d_TuneSetter_read_45 : decode b_TuneSetter_read 45 = .ok (.aload_n 0, 1) := by decide +kernel
theorem d_TuneSetter_read_46 : decode b_TuneSetter_read 46 = .ok (.getfield 16, 3) := by decide +kernel
theorem d_TuneSetter_read_49 : decode b_TuneSetter_read 49 = .ok (.getfield 65, 3) := by decide +kernel
theorem d_TuneSetter_read_52 : decode b_TuneSetter_read 52 = .ok (.aload_n 0, 1) := by decide +kernel
theorem d_TuneSetter_read_53 : decode b_TuneSetter_read 53 = .ok (.getfield 16, 3) := by decide +kernel
theorem d_TuneSetter_read_56 : decode b_TuneSetter_read 56 = .ok (.getfield 68, 3) := by decide +kernel
theorem d_TuneSetter_read_59 : decode b_TuneSetter_read 59 = .ok (.invokevirtual 71, 3) := by decide +kernel
theorem d_TuneSetter_read_62 : decode b_TuneSetter_read 62 = .ok (.ireturn, 1) := by decide +kernel
theorem d_TuneSetter_read_63 : decode b_TuneSetter_read 63 = .ok (.aload_n 0, 1) := by decide +kernel
theorem d_TuneSetter_read_64 : decode b_TuneSetter_read 64 = .ok (.getfield 23, 3) := by decide +kernel
theorem d_TuneSetter_read_67 : decode b_TuneSetter_read 67 = .ok (.aload_n 0, 1) := by decide +kernel
theorem d_TuneSetter_read_68 : decode b_TuneSetter_read 68 = .ok (.getfield 16, 3) := by decide +kernel
theorem d_TuneSetter_read_71 : decode b_TuneSetter_read 71 = .ok (.getfield 75, 3) := by decide +kernel
theorem d_TuneSetter_read_74 : decode b_TuneSetter_read 74 = .ok (.invokevirtual 79, 3) := by decide +kernel
theorem d_TuneSetter_read_77 : decode b_TuneSetter_read 77 = .ok (.aload_n 0, 1) := by decide +kernel
theorem d_TuneSetter_read_78 : decode b_TuneSetter_read 78 = .ok (.getfield 23, 3) := by decide +kernel
theorem d_TuneSetter_read_81 : decode b_TuneSetter_read 81 = .ok (.getfield 83, 3) := by decide +kernel
theorem d_TuneSetter_read_84 : decode b_TuneSetter_read 84 = .ok (.ifCond .eq 14, 3) := by decide +kernel
theorem d_TuneSetter_read_87 : decode b_TuneSetter_read 87 = .ok (.aload_n 0, 1) := by decide +kernel
theorem d_TuneSetter_read_88 : decode b_TuneSetter_read 88 = .ok (.bipush (-7), 2) := by decide +kernel
theorem d_TuneSetter_read_90 : decode b_TuneSetter_read 90 = .ok (.aload_n 0, 1) := by decide +kernel
theorem d_TuneSetter_read_91 : decode b_TuneSetter_read 91 = .ok (.getfield 54, 3) := by decide +kernel
theorem d_TuneSetter_read_94 : decode b_TuneSetter_read 94 = .ok (.invokevirtual 71, 3) := by decide +kernel
theorem d_TuneSetter_read_97 : decode b_TuneSetter_read 97 = .ok (.ireturn, 1) := by decide +kernel
theorem d_TuneSetter_read_98 : decode b_TuneSetter_read 98 = .ok (.aload_n 0, 1) := by decide +kernel
theorem d_TuneSetter_read_99 : decode b_TuneSetter_read 99 = .ok (.iconst 1, 1) := by decide +kernel
theorem d_TuneSetter_read_100 : decode b_TuneSetter_read 100 = .ok (.putfield 87, 3) := by decide +kernel
theorem d_TuneSetter_read_103 : decode b_TuneSetter_read 103 = .ok (.aload_n 0, 1) := by decide +kernel
theorem d_TuneSetter_read_104 : decode b_TuneSetter_read 104 = .ok (.iconst (-1), 1) := by decide +kernel
theorem d_TuneSetter_read_105 : decode b_TuneSetter_read 105 = .ok (.putfield 48, 3) := by decide +kernel
theorem d_TuneSetter_read_108 : decode b_TuneSetter_read 108 = .ok (.aload_n 0, 1) := by decide +kernel
theorem d_TuneSetter_read_109 : decode b_TuneSetter_read 109 = .ok (.getfield 23, 3) := by decide +kernel
theorem d_TuneSetter_read_112 : decode b_TuneSetter_read 112 = .ok (.getfield 90, 3) := by decide +kernel
theorem d_TuneSetter_read_115 : decode b_TuneSetter_read 115 = .ok (.ireturn, 1) := by decide +kernel
def w_TuneSetter_read : List Cond := .code y_TuneSetter_read b_TuneSetter_read 1 (some .int) :: WALL
theorem g_TuneSetter_read : GoodIn WALL w_TuneSetter_read := good_of mc_TuneSetter_read
set_option maxHeartbeats 4000000 in
set_option maxRecDepth 100000 in
theorem c_TuneSetter_read (l : Launch) (D : va_G) (cA a : Nat → Nat) (sz : Nat) (I : Nat → Int32) (A : Nat → Nat → Int32) (post : Int32 → (Nat → Int32) → (Nat → Nat → Int32) → Prop) (h : wp_TuneSetter_read I A post) : Met l y_TuneSetter_read w_TuneSetter_read ({ frames := 6, cells := 0, slots := 0, locals := 132 }) (va_Pc [.ref (a 0)] (PreC D cA a I A sz)) (va_Qi (fun r (u : StW) => post r u.1 u.2) (EndC D cA a) (AC a sz)) 0 0 (AC a sz) := by
  refine Met.ofW (cc := b_TuneSetter_read) (maxL := 1) (ret := (some .int)) (by decide) rfl ?_
  intro p e s m args below meth c s₁ B hml hv
  obtain ⟨rfl, hsz, hP, hK, hD0⟩ := hv
  have hx := B.exec
  have hb := B.bytes
  have hr := B.returns
  have hts := atoms_spec (ws := w_TuneSetter_read) B.pre
  have hw := wall_of hts
  have hown : s.vm.findClass R_TuneSetter = some m.cls := findClass_of_methodNamed B.named
  have hlocks := B.notSynchronized
  subst hsz
  have hD := hDC (sz := s.heap.size) hD0
  have hA : ∀ q : Nat, s.heap.size ≤ q → AC a s.heap.size q := fun q h => Or.inr h
  have hS : va_S (AC a s.heap.size) s.heap s.heap [] := va_S.rf
  have hl := lv_entry ([.ref (a 0)]) (n := 1) (Nat.le_of_ble_eq_true rfl)
  rw [lg_entry_eq]
  generalize (lg_sl ([.ref (a 0)]) ++ List.replicate (1 - (lg_sl ([.ref (a 0)])).length) Slot.unset).toArray = ls at hl ⊢
  have hl : lv_has ls 1 [(0, .ref (a 0))] := hl
  unfold wp_TuneSetter_read at h
  refine lv_aload_n hx hb d_TuneSetter_read_0 rfl (lv_at hl 0 rfl) ?_
  refine gC_TuneSetter_reader hx hb hw hown hK hP (hw _ m_TuneSetter_16) d_TuneSetter_read_1 ?_
  refine lv_aload_n hx hb d_TuneSetter_read_4 rfl (lv_at hl 0 rfl) ?_
  refine gC_TuneSetter_fullBar hx hb hw hown hK hP (hw _ m_TuneSetter_41) d_TuneSetter_read_5 ?_
  refine lv_aload_n hx hb d_TuneSetter_read_8 rfl (lv_at hl 0 rfl) ?_
  refine gC_TuneSetter_unitTicks hx hb hw hown hK hP (hw _ m_TuneSetter_45) d_TuneSetter_read_9 ?_
  refine lv_aload_n hx hb d_TuneSetter_read_12 rfl (lv_at hl 0 rfl) ?_
  refine gC_TuneSetter_sharps hx hb hw hown hK hP (hw _ m_TuneSetter_51) d_TuneSetter_read_13 ?_
  refine k_Reader_prepare (I 31) (I 32) (I 33) (rest := []) ⟨hx, hb, hml, hown, hw⟩ hK hD hA hS hP hl.1 (hw _ m_TuneSetter_57) (Nat.le_of_ble_eq_true rfl) ⟨Nat.le_of_ble_eq_true rfl, Nat.le_of_ble_eq_true rfl⟩ ⟨Nat.zero_le _, Nat.zero_le _⟩ d_TuneSetter_read_16 h (fun I16 A16 H locs h hP hS => ?_)
  refine lv_aload_n hx hb d_TuneSetter_read_19 rfl (lv_at hl 0 rfl) ?_
  refine gC_TuneSetter_reader hx hb hw hown hK hP (hw _ m_TuneSetter_16) d_TuneSetter_read_20 ?_
  refine lv_aload_n hx hb d_TuneSetter_read_23 rfl (lv_at hl 0 rfl) ?_
  refine gC_TuneSetter_text hx hb hw hown hK hP (hw _ m_TuneSetter_9) d_TuneSetter_read_24 ?_
  refine lv_aload_n hx hb d_TuneSetter_read_27 rfl (lv_at hl 0 rfl) ?_
  refine gC_TuneSetter_textSize hx hb hw hown hK hP (hw _ m_TuneSetter_54) d_TuneSetter_read_28 ?_
  refine k_Reader_scan (I16 30) (rest := []) ⟨hx, hb, hml, hown, hw⟩ hK hD hA hS hP hl.1 (hw _ m_TuneSetter_61) (Nat.le_of_ble_eq_true rfl) ⟨Nat.le_of_ble_eq_true rfl, Nat.le_of_ble_eq_true rfl⟩ ⟨Nat.zero_le _, Nat.zero_le _⟩ d_TuneSetter_read_31 h (fun I31 A31 H locs h hP hS => ?_)
  refine lv_aload_n hx hb d_TuneSetter_read_34 rfl (lv_at hl 0 rfl) ?_
  refine gC_TuneSetter_reader hx hb hw hown hK hP (hw _ m_TuneSetter_16) d_TuneSetter_read_35 ?_
  refine gC_Reader_fault hx hb hw hown hK hP (hw _ m_TuneSetter_65) d_TuneSetter_read_38 ?_
  refine lv_if_eq (tgt := 63) hx hb d_TuneSetter_read_41 rfl (fun q => ?_) (fun q => ?_)
  · have h := h.1 q
    refine lv_aload_n hx hb d_TuneSetter_read_63 rfl (lv_at hl 0 rfl) ?_
    refine gC_TuneSetter_playing hx hb hw hown hK hP (hw _ m_TuneSetter_23) d_TuneSetter_read_64 ?_
    refine lv_aload_n hx hb d_TuneSetter_read_67 rfl (lv_at hl 0 rfl) ?_
    refine gC_TuneSetter_reader hx hb hw hown hK hP (hw _ m_TuneSetter_16) d_TuneSetter_read_68 ?_
    refine gC_Reader_tune hx hb hw hown hK hP (hw _ m_TuneSetter_75) d_TuneSetter_read_71 ?_
    refine k_Playing_perform (rest := []) ⟨hx, hb, hml, hown, hw⟩ hK hD hA hS hP hl.1 (hw _ m_TuneSetter_79) (Nat.le_of_ble_eq_true rfl) ⟨Nat.le_of_ble_eq_true rfl, Nat.le_of_ble_eq_true rfl⟩ ⟨Nat.zero_le _, Nat.zero_le _⟩ d_TuneSetter_read_74 h (fun I74 A74 H locs h hP hS => ?_)
    refine lv_aload_n hx hb d_TuneSetter_read_77 rfl (lv_at hl 0 rfl) ?_
    refine gC_TuneSetter_playing hx hb hw hown hK hP (hw _ m_TuneSetter_23) d_TuneSetter_read_78 ?_
    refine gC_Playing_tooMany hx hb hw hown hK hP (hw _ m_TuneSetter_83) d_TuneSetter_read_81 ?_
    refine lv_if_eq (tgt := 98) hx hb d_TuneSetter_read_84 rfl (fun q => ?_) (fun q => ?_)
    · have h := h.1 q
      refine lv_aload_n hx hb d_TuneSetter_read_98 rfl (lv_at hl 0 rfl) ?_
      refine lv_iconst (v := 1) hx hb d_TuneSetter_read_99 ic_1 ?_
      refine pC_TuneSetter_hasTune hx hb hw hown hK hD hS hP (hw _ m_TuneSetter_87) vz1 d_TuneSetter_read_100 (fun H locs hP hS => ?_)
      refine lv_aload_n hx hb d_TuneSetter_read_103 rfl (lv_at hl 0 rfl) ?_
      refine lv_iconst (v := (-1)) hx hb d_TuneSetter_read_104 ic_m1 ?_
      refine pC_TuneSetter_wrongPlace hx hb hw hown hK hD hS hP (hw _ m_TuneSetter_48) d_TuneSetter_read_105 (fun H locs hP hS => ?_)
      refine lv_aload_n hx hb d_TuneSetter_read_108 rfl (lv_at hl 0 rfl) ?_
      refine gC_TuneSetter_playing hx hb hw hown hK hP (hw _ m_TuneSetter_23) d_TuneSetter_read_109 ?_
      refine gC_Playing_count hx hb hw hown hK hP (hw _ m_TuneSetter_90) d_TuneSetter_read_112 ?_
      exact W.iret hx hb hr (fun t ht hW => ⟨⟨_, ((upd (upd I74 34 1) 35 (-1)), A74), rfl, h, endC_of ht hP⟩, hS.F ht⟩) hS.2.2 d_TuneSetter_read_115
    · have h := h.2 q
      refine lv_aload_n hx hb d_TuneSetter_read_87 rfl (lv_at hl 0 rfl) ?_
      refine lv_bipush (v := (-7)) hx hb d_TuneSetter_read_88 bp_m7 ?_
      refine lv_aload_n hx hb d_TuneSetter_read_90 rfl (lv_at hl 0 rfl) ?_
      refine gC_TuneSetter_textSize hx hb hw hown hK hP (hw _ m_TuneSetter_54) d_TuneSetter_read_91 ?_
      refine k_TuneSetter_refuse (-7) (I74 30) (rest := []) ⟨hx, hb, hml, hown, hw⟩ hK hD hA hS hP hl.1 (hw _ m_TuneSetter_71) (Nat.le_of_ble_eq_true rfl) ⟨Nat.le_of_ble_eq_true rfl, Nat.le_of_ble_eq_true rfl⟩ ⟨Nat.zero_le _, Nat.zero_le _⟩ d_TuneSetter_read_94 h (fun r94 I94 A94 H locs h hP hS => ?_)
      exact W.iret hx hb hr (fun t ht hW => ⟨⟨_, (I94, A94), rfl, h, endC_of ht hP⟩, hS.F ht⟩) hS.2.2 d_TuneSetter_read_97
  · have h := h.2 q
    refine lv_aload_n hx hb d_TuneSetter_read_44 rfl (lv_at hl 0 rfl) ?_
    refine lv_aload_n hx hb d_TuneSetter_read_45 rfl (lv_at hl 0 rfl) ?_
    refine gC_TuneSetter_reader hx hb hw hown hK hP (hw _ m_TuneSetter_16) d_TuneSetter_read_46 ?_
    refine gC_Reader_fault hx hb hw hown hK hP (hw _ m_TuneSetter_65) d_TuneSetter_read_49 ?_
    refine lv_aload_n hx hb d_TuneSetter_read_52 rfl (lv_at hl 0 rfl) ?_
    refine gC_TuneSetter_reader hx hb hw hown hK hP (hw _ m_TuneSetter_16) d_TuneSetter_read_53 ?_
    refine gC_Reader_faultPlace hx hb hw hown hK hP (hw _ m_TuneSetter_68) d_TuneSetter_read_56 ?_
    refine k_TuneSetter_refuse (I31 3) (I31 4) (rest := []) ⟨hx, hb, hml, hown, hw⟩ hK hD hA hS hP hl.1 (hw _ m_TuneSetter_71) (Nat.le_of_ble_eq_true rfl) ⟨Nat.le_of_ble_eq_true rfl, Nat.le_of_ble_eq_true rfl⟩ ⟨Nat.zero_le _, Nat.zero_le _⟩ d_TuneSetter_read_59 h (fun r59 I59 A59 H locs h hP hS => ?_)
    exact W.iret hx hb hr (fun t ht hW => ⟨⟨_, (I59, A59), rfl, h, endC_of ht hP⟩, hS.F ht⟩) hS.2.2 d_TuneSetter_read_62
theorem k_TuneSetter_read {p : Program} {l : Launch} {e : Env} {R : Room} {s : State} {m : MethodId} {args : Array Value} {below : List Frame} {meth : Method} {c : Code} {H : Heap} {locs : List Loc} {cells slots : Nat} {Q : State → Prop} {cc : ByteArray} {pc nL idx : Nat} {own : String} {ls : Array Slot} {D : va_G} {cA a : Nat → Nat} {AA : Nat → Prop} {I : Nat → Int32} {A : Nat → Nat → Int32} {post : Int32 → (Nat → Int32) → (Nat → Nat → Int32) → Prop} {rest : List Value} (S : CallFix p m c cc nL s args WALL own) (hK : KC D cA a AA s) (hD : ∀ I A, va_D AA (wC cA a I A)) (hA : ∀ q : Nat, s.heap.size ≤ q → AA q) (hS : va_S AA s.heap H locs) (hP : va_P D cls (wC cA a I A) H) (hl1 : ls.size = nL) (hlink : (Cond.methodLink own idx y_TuneSetter_read).before args s = true) (hst : (rest.map fun v => v.category).sum ≤ 8) (hR : ({ frames := 6, cells := 0, slots := 0, locals := 132 } : Room).frames + 1 ≤ R.frames ∧ 8 + (1 + 11) + ({ frames := 6, cells := 0, slots := 0, locals := 132 } : Room).locals ≤ R.locals) (hcs : cells ≤ R.cells ∧ slots ≤ R.slots) (hdg : decode cc pc = .ok (.invokevirtual idx, 3)) (h : wp_TuneSetter_read I A post) (kk : ∀ (r : Int32) (I1 : Nat → Int32) (A1 : Nat → Nat → Int32) (H1 : Heap) (locs1 : List Loc), post r I1 A1 → va_P D cls (wC cA a I1 A1) H1 → va_S AA s.heap H1 locs1 → W p l e R s m args below meth c H1 locs1 cells slots Q (F0 m (pc + 3) ls (.int r :: rest))) : W p l e R s m args below meth c H locs cells slots Q (F0 m pc ls (.ref (a 0) :: rest)) :=
  va_calli (va_runV (As := []) (rest := rest) S (c_TuneSetter_read l D cA a H.size I A post h) ⟨callB_of 0 S.2.2.2.2 g_TuneSetter_read rfl rfl rfl (S.2.2.2.2 _ mi_TuneSetter) hlink ⟨by decide, by decide, by decide +kernel⟩ hR, S.2.2.2.2 _ mn_TuneSetter_read, S.2.2.2.2 _ ms_TuneSetter_read⟩ (preCV hK hD hA hS hP 0 rfl rfl) rfl rfl hl1 rfl (lv_room hst) hdg hcs) hS (fun q _ z => AC_le hD hA hS q z) (fun q z => AC_le hD hA hS q z) (fun r u t H1 locs1 ht _ hp hB _ _ hS1 => kk r u.1 u.2 H1 locs1 hp (of_endC ht hB) hS1)
def wp_TuneSetter_place (I : Nat → Int32) (A : Nat → Nat → Int32) (post : Int32 → (Nat → Int32) → (Nat → Nat → Int32) → Prop) : Prop := post (I 35) I A
theorem d_TuneSetter_place_0 : decode b_TuneSetter_place 0 = .ok (.aload_n 0, 1) := by decide +kernel
theorem d_TuneSetter_place_1 : decode b_TuneSetter_place 1 = .ok (.getfield 48, 3) := by decide +kernel
theorem d_TuneSetter_place_4 : decode b_TuneSetter_place 4 = .ok (.ireturn, 1) := by decide +kernel
def w_TuneSetter_place : List Cond := .code y_TuneSetter_place b_TuneSetter_place 1 (some .int) :: WALL
theorem g_TuneSetter_place : GoodIn WALL w_TuneSetter_place := good_of mc_TuneSetter_place
set_option maxHeartbeats 4000000 in
set_option maxRecDepth 100000 in
theorem c_TuneSetter_place (l : Launch) (D : va_G) (cA a : Nat → Nat) (sz : Nat) (I : Nat → Int32) (A : Nat → Nat → Int32) (post : Int32 → (Nat → Int32) → (Nat → Nat → Int32) → Prop) (h : wp_TuneSetter_place I A post) : Met l y_TuneSetter_place w_TuneSetter_place ({ frames := 0, cells := 0, slots := 0, locals := 0 }) (va_Pc [.ref (a 0)] (PreC D cA a I A sz)) (va_Qi (fun r (u : StW) => post r u.1 u.2) (EndC D cA a) (AC a sz)) 0 0 (AC a sz) := by
  refine Met.ofW (cc := b_TuneSetter_place) (maxL := 1) (ret := (some .int)) (by decide) rfl ?_
  intro p e s m args below meth c s₁ B hml hv
  obtain ⟨rfl, hsz, hP, hK, hD0⟩ := hv
  have hx := B.exec
  have hb := B.bytes
  have hr := B.returns
  have hts := atoms_spec (ws := w_TuneSetter_place) B.pre
  have hw := wall_of hts
  have hown : s.vm.findClass R_TuneSetter = some m.cls := findClass_of_methodNamed B.named
  have hlocks := B.notSynchronized
  subst hsz
  have hD := hDC (sz := s.heap.size) hD0
  have hA : ∀ q : Nat, s.heap.size ≤ q → AC a s.heap.size q := fun q h => Or.inr h
  have hS : va_S (AC a s.heap.size) s.heap s.heap [] := va_S.rf
  have hl := lv_entry ([.ref (a 0)]) (n := 1) (Nat.le_of_ble_eq_true rfl)
  rw [lg_entry_eq]
  generalize (lg_sl ([.ref (a 0)]) ++ List.replicate (1 - (lg_sl ([.ref (a 0)])).length) Slot.unset).toArray = ls at hl ⊢
  have hl : lv_has ls 1 [(0, .ref (a 0))] := hl
  unfold wp_TuneSetter_place at h
  refine lv_aload_n hx hb d_TuneSetter_place_0 rfl (lv_at hl 0 rfl) ?_
  refine gC_TuneSetter_wrongPlace hx hb hw hown hK hP (hw _ m_TuneSetter_48) d_TuneSetter_place_1 ?_
  exact W.iret hx hb hr (fun t ht hW => ⟨⟨_, (I, A), rfl, h, endC_of ht hP⟩, hS.F ht⟩) hS.2.2 d_TuneSetter_place_4
theorem k_TuneSetter_place {p : Program} {l : Launch} {e : Env} {R : Room} {s : State} {m : MethodId} {args : Array Value} {below : List Frame} {meth : Method} {c : Code} {H : Heap} {locs : List Loc} {cells slots : Nat} {Q : State → Prop} {cc : ByteArray} {pc nL idx : Nat} {own : String} {ls : Array Slot} {D : va_G} {cA a : Nat → Nat} {AA : Nat → Prop} {I : Nat → Int32} {A : Nat → Nat → Int32} {post : Int32 → (Nat → Int32) → (Nat → Nat → Int32) → Prop} {rest : List Value} (S : CallFix p m c cc nL s args WALL own) (hK : KC D cA a AA s) (hD : ∀ I A, va_D AA (wC cA a I A)) (hA : ∀ q : Nat, s.heap.size ≤ q → AA q) (hS : va_S AA s.heap H locs) (hP : va_P D cls (wC cA a I A) H) (hl1 : ls.size = nL) (hlink : (Cond.methodLink own idx y_TuneSetter_place).before args s = true) (hst : (rest.map fun v => v.category).sum ≤ 8) (hR : ({ frames := 0, cells := 0, slots := 0, locals := 0 } : Room).frames + 1 ≤ R.frames ∧ 8 + (1 + 11) + ({ frames := 0, cells := 0, slots := 0, locals := 0 } : Room).locals ≤ R.locals) (hcs : cells ≤ R.cells ∧ slots ≤ R.slots) (hdg : decode cc pc = .ok (.invokevirtual idx, 3)) (h : wp_TuneSetter_place I A post) (kk : ∀ (r : Int32) (I1 : Nat → Int32) (A1 : Nat → Nat → Int32) (H1 : Heap) (locs1 : List Loc), post r I1 A1 → va_P D cls (wC cA a I1 A1) H1 → va_S AA s.heap H1 locs1 → W p l e R s m args below meth c H1 locs1 cells slots Q (F0 m (pc + 3) ls (.int r :: rest))) : W p l e R s m args below meth c H locs cells slots Q (F0 m pc ls (.ref (a 0) :: rest)) :=
  va_calli (va_runV (As := []) (rest := rest) S (c_TuneSetter_place l D cA a H.size I A post h) ⟨callB_of 0 S.2.2.2.2 g_TuneSetter_place rfl rfl rfl (S.2.2.2.2 _ mi_TuneSetter) hlink ⟨by decide, by decide, by decide +kernel⟩ hR, S.2.2.2.2 _ mn_TuneSetter_place, S.2.2.2.2 _ ms_TuneSetter_place⟩ (preCV hK hD hA hS hP 0 rfl rfl) rfl rfl hl1 rfl (lv_room hst) hdg hcs) hS (fun q _ z => AC_le hD hA hS q z) (fun q z => AC_le hD hA hS q z) (fun r u t H1 locs1 ht _ hp hB _ _ hS1 => kk r u.1 u.2 H1 locs1 hp (of_endC ht hB) hS1)
def wp_TuneSetter_bars (I : Nat → Int32) (A : Nat → Nat → Int32) (post : Int32 → (Nat → Int32) → (Nat → Nat → Int32) → Prop) : Prop := (((I 34) = 0 → post 0 I A) ∧ (¬ (I 34) = 0 → post (I 0) I A))
theorem d_TuneSetter_bars_0 : decode b_TuneSetter_bars 0 = .ok (.aload_n 0, 1) := by decide +kernel
theorem d_TuneSetter_bars_1 : decode b_TuneSetter_bars 1 = .ok (.getfield 87, 3) := by decide +kernel
theorem d_TuneSetter_bars_4 : decode b_TuneSetter_bars 4 = .ok (.ifCond .eq 16, 3) := by decide +kernel
theorem d_TuneSetter_bars_7 : decode b_TuneSetter_bars 7 = .ok (.aload_n 0, 1) := by decide +kernel
theorem d_TuneSetter_bars_8 : decode b_TuneSetter_bars 8 = .ok (.getfield 16, 3) := by decide +kernel
theorem d_TuneSetter_bars_11 : decode b_TuneSetter_bars 11 = .ok (.getfield 75, 3) := by decide +kernel
theorem d_TuneSetter_bars_14 : decode b_TuneSetter_bars 14 = .ok (.getfield 93, 3) := by decide +kernel
theorem d_TuneSetter_bars_17 : decode b_TuneSetter_bars 17 = .ok (.goto 4, 3) := by decide +kernel
theorem d_TuneSetter_bars_20 : decode b_TuneSetter_bars 20 = .ok (.iconst 0, 1) := by decide +kernel
theorem d_TuneSetter_bars_21 : decode b_TuneSetter_bars 21 = .ok (.ireturn, 1) := by decide +kernel
def w_TuneSetter_bars : List Cond := .code y_TuneSetter_bars b_TuneSetter_bars 1 (some .int) :: WALL
theorem g_TuneSetter_bars : GoodIn WALL w_TuneSetter_bars := good_of mc_TuneSetter_bars
set_option maxHeartbeats 4000000 in
set_option maxRecDepth 100000 in
theorem c_TuneSetter_bars (l : Launch) (D : va_G) (cA a : Nat → Nat) (sz : Nat) (I : Nat → Int32) (A : Nat → Nat → Int32) (post : Int32 → (Nat → Int32) → (Nat → Nat → Int32) → Prop) (h : wp_TuneSetter_bars I A post) : Met l y_TuneSetter_bars w_TuneSetter_bars ({ frames := 0, cells := 0, slots := 0, locals := 0 }) (va_Pc [.ref (a 0)] (PreC D cA a I A sz)) (va_Qi (fun r (u : StW) => post r u.1 u.2) (EndC D cA a) (AC a sz)) 0 0 (AC a sz) := by
  refine Met.ofW (cc := b_TuneSetter_bars) (maxL := 1) (ret := (some .int)) (by decide) rfl ?_
  intro p e s m args below meth c s₁ B hml hv
  obtain ⟨rfl, hsz, hP, hK, hD0⟩ := hv
  have hx := B.exec
  have hb := B.bytes
  have hr := B.returns
  have hts := atoms_spec (ws := w_TuneSetter_bars) B.pre
  have hw := wall_of hts
  have hown : s.vm.findClass R_TuneSetter = some m.cls := findClass_of_methodNamed B.named
  have hlocks := B.notSynchronized
  subst hsz
  have hD := hDC (sz := s.heap.size) hD0
  have hA : ∀ q : Nat, s.heap.size ≤ q → AC a s.heap.size q := fun q h => Or.inr h
  have hS : va_S (AC a s.heap.size) s.heap s.heap [] := va_S.rf
  have hl := lv_entry ([.ref (a 0)]) (n := 1) (Nat.le_of_ble_eq_true rfl)
  rw [lg_entry_eq]
  generalize (lg_sl ([.ref (a 0)]) ++ List.replicate (1 - (lg_sl ([.ref (a 0)])).length) Slot.unset).toArray = ls at hl ⊢
  have hl : lv_has ls 1 [(0, .ref (a 0))] := hl
  unfold wp_TuneSetter_bars at h
  refine lv_aload_n hx hb d_TuneSetter_bars_0 rfl (lv_at hl 0 rfl) ?_
  refine gC_TuneSetter_hasTune hx hb hw hown hK hP (hw _ m_TuneSetter_87) d_TuneSetter_bars_1 ?_
  refine lv_if_eq (tgt := 20) hx hb d_TuneSetter_bars_4 rfl (fun q => ?_) (fun q => ?_)
  · have h := h.1 q
    refine lv_iconst (v := 0) hx hb d_TuneSetter_bars_20 ic_0 ?_
    exact W.iret hx hb hr (fun t ht hW => ⟨⟨_, (I, A), rfl, h, endC_of ht hP⟩, hS.F ht⟩) hS.2.2 d_TuneSetter_bars_21
  · have h := h.2 q
    refine lv_aload_n hx hb d_TuneSetter_bars_7 rfl (lv_at hl 0 rfl) ?_
    refine gC_TuneSetter_reader hx hb hw hown hK hP (hw _ m_TuneSetter_16) d_TuneSetter_bars_8 ?_
    refine gC_Reader_tune hx hb hw hown hK hP (hw _ m_TuneSetter_75) d_TuneSetter_bars_11 ?_
    refine gC_Tune_barCount hx hb hw hown hK hP (hw _ m_TuneSetter_93) d_TuneSetter_bars_14 ?_
    refine lv_goto (tgt := 21) hx hb d_TuneSetter_bars_17 rfl ?_
    exact W.iret hx hb hr (fun t ht hW => ⟨⟨_, (I, A), rfl, h, endC_of ht hP⟩, hS.F ht⟩) hS.2.2 d_TuneSetter_bars_21
theorem k_TuneSetter_bars {p : Program} {l : Launch} {e : Env} {R : Room} {s : State} {m : MethodId} {args : Array Value} {below : List Frame} {meth : Method} {c : Code} {H : Heap} {locs : List Loc} {cells slots : Nat} {Q : State → Prop} {cc : ByteArray} {pc nL idx : Nat} {own : String} {ls : Array Slot} {D : va_G} {cA a : Nat → Nat} {AA : Nat → Prop} {I : Nat → Int32} {A : Nat → Nat → Int32} {post : Int32 → (Nat → Int32) → (Nat → Nat → Int32) → Prop} {rest : List Value} (S : CallFix p m c cc nL s args WALL own) (hK : KC D cA a AA s) (hD : ∀ I A, va_D AA (wC cA a I A)) (hA : ∀ q : Nat, s.heap.size ≤ q → AA q) (hS : va_S AA s.heap H locs) (hP : va_P D cls (wC cA a I A) H) (hl1 : ls.size = nL) (hlink : (Cond.methodLink own idx y_TuneSetter_bars).before args s = true) (hst : (rest.map fun v => v.category).sum ≤ 8) (hR : ({ frames := 0, cells := 0, slots := 0, locals := 0 } : Room).frames + 1 ≤ R.frames ∧ 8 + (1 + 11) + ({ frames := 0, cells := 0, slots := 0, locals := 0 } : Room).locals ≤ R.locals) (hcs : cells ≤ R.cells ∧ slots ≤ R.slots) (hdg : decode cc pc = .ok (.invokevirtual idx, 3)) (h : wp_TuneSetter_bars I A post) (kk : ∀ (r : Int32) (I1 : Nat → Int32) (A1 : Nat → Nat → Int32) (H1 : Heap) (locs1 : List Loc), post r I1 A1 → va_P D cls (wC cA a I1 A1) H1 → va_S AA s.heap H1 locs1 → W p l e R s m args below meth c H1 locs1 cells slots Q (F0 m (pc + 3) ls (.int r :: rest))) : W p l e R s m args below meth c H locs cells slots Q (F0 m pc ls (.ref (a 0) :: rest)) :=
  va_calli (va_runV (As := []) (rest := rest) S (c_TuneSetter_bars l D cA a H.size I A post h) ⟨callB_of 0 S.2.2.2.2 g_TuneSetter_bars rfl rfl rfl (S.2.2.2.2 _ mi_TuneSetter) hlink ⟨by decide, by decide, by decide +kernel⟩ hR, S.2.2.2.2 _ mn_TuneSetter_bars, S.2.2.2.2 _ ms_TuneSetter_bars⟩ (preCV hK hD hA hS hP 0 rfl rfl) rfl rfl hl1 rfl (lv_room hst) hdg hcs) hS (fun q _ z => AC_le hD hA hS q z) (fun q z => AC_le hD hA hS q z) (fun r u t H1 locs1 ht _ hp hB _ _ hS1 => kk r u.1 u.2 H1 locs1 hp (of_endC ht hB) hS1)

def wp_NoteFile_make (I : Nat → Int32) (A : Nat → Nat → Int32) (post : (Nat → Int32) → (Nat → Nat → Int32) → Prop) : Prop := (wp_NoteFile_putAll_63 (upd I 28 0) A (fun I9 A9 => (wp_NoteFile_gatherEvents (upd I9 28 ((I9 28) + 4)) A9 (fun I24 A24 => (wp_NoteFile_putEvents I24 A24 (fun I28 A28 => (wp_NoteFile_putAll_64 I28 A28 (fun I35 A35 => (wp_NoteFile_putCount (((I35 28) - 18) - 4) I35 A35 (fun I50 A50 => post I50 A50))))))))))
theorem d_NoteFile_make_0 : decode b_NoteFile_make 0 = .ok (.aload_n 0, 1) := by decide +kernel
theorem d_NoteFile_make_1 : decode b_NoteFile_make 1 = .ok (.iconst 0, 1) := by decide +kernel
theorem d_NoteFile_make_2 : decode b_NoteFile_make 2 = .ok (.putfield 18, 3) := by decide +kernel
theorem d_NoteFile_make_5 : decode b_NoteFile_make 5 = .ok (.aload_n 0, 1) := by decide +kernel
theorem d_NoteFile_make_6 : decode b_NoteFile_make 6 = .ok (.getstatic 22, 3) := by decide +kernel
theorem d_NoteFile_make_9 : decode b_NoteFile_make 9 = .ok (.invokevirtual 25, 3) := by decide +kernel
theorem d_NoteFile_make_12 : decode b_NoteFile_make 12 = .ok (.aload_n 0, 1) := by decide +kernel
theorem d_NoteFile_make_13 : decode b_NoteFile_make 13 = .ok (.dup, 1) := by decide +kernel
theorem d_NoteFile_make_14 : decode b_NoteFile_make 14 = .ok (.getfield 18, 3) := by decide +kernel
theorem d_NoteFile_make_17 : decode b_NoteFile_make 17 = .ok (.iconst 4, 1) := by decide +kernel
theorem d_NoteFile_make_18 : decode b_NoteFile_make 18 = .ok (.iadd, 1) := by decide +kernel
theorem d_NoteFile_make_19 : decode b_NoteFile_make 19 = .ok (.putfield 18, 3) := by decide +kernel
theorem d_NoteFile_make_22 : decode b_NoteFile_make 22 = .ok (.aload_n 0, 1) := by decide +kernel
theorem d_NoteFile_make_23 : decode b_NoteFile_make 23 = .ok (.aload_n 1, 1) := by decide +kernel
theorem d_NoteFile_make_24 : decode b_NoteFile_make 24 = .ok (.invokevirtual 29, 3) := by decide +kernel
theorem d_NoteFile_make_27 : decode b_NoteFile_make 27 = .ok (.aload_n 0, 1) := by decide +kernel
theorem d_NoteFile_make_28 : decode b_NoteFile_make 28 = .ok (.invokevirtual 33, 3) := by decide +kernel
theorem d_NoteFile_make_31 : decode b_NoteFile_make 31 = .ok (.aload_n 0, 1) := by decide +kernel
theorem d_NoteFile_make_32 : decode b_NoteFile_make 32 = .ok (.getstatic 36, 3) := by decide +kernel
theorem d_NoteFile_make_35 : decode b_NoteFile_make 35 = .ok (.invokevirtual 25, 3) := by decide +kernel
theorem d_NoteFile_make_38 : decode b_NoteFile_make 38 = .ok (.aload_n 0, 1) := by decide +kernel
theorem d_NoteFile_make_39 : decode b_NoteFile_make 39 = .ok (.aload_n 0, 1) := by decide +kernel
theorem d_NoteFile_make_40 : decode b_NoteFile_make 40 = .ok (.getfield 18, 3) := by decide +kernel
theorem d_NoteFile_make_43 : decode b_NoteFile_make 43 = .ok (.getstatic 22, 3) := by decide +kernel
theorem d_NoteFile_make_46 : decode b_NoteFile_make 46 = .ok (.arraylength, 1) := by decide +kernel
theorem d_NoteFile_make_47 : decode b_NoteFile_make 47 = .ok (.isub, 1) := by decide +kernel
theorem d_NoteFile_make_48 : decode b_NoteFile_make 48 = .ok (.iconst 4, 1) := by decide +kernel
theorem d_NoteFile_make_49 : decode b_NoteFile_make 49 = .ok (.isub, 1) := by decide +kernel
theorem d_NoteFile_make_50 : decode b_NoteFile_make 50 = .ok (.invokevirtual 39, 3) := by decide +kernel
theorem d_NoteFile_make_53 : decode b_NoteFile_make 53 = .ok (.return_, 1) := by decide +kernel
def w_NoteFile_make : List Cond := .code y_NoteFile_make b_NoteFile_make 2 none :: WALL
theorem g_NoteFile_make : GoodIn WALL w_NoteFile_make := good_of mc_NoteFile_make
set_option maxHeartbeats 4000000 in
set_option maxRecDepth 100000 in
theorem c_NoteFile_make (l : Launch) (D : va_G) (cA a : Nat → Nat) (sz : Nat) (I : Nat → Int32) (A : Nat → Nat → Int32) (post : (Nat → Int32) → (Nat → Nat → Int32) → Prop) (h : wp_NoteFile_make I A post) : Met l y_NoteFile_make w_NoteFile_make ({ frames := 3, cells := 0, slots := 0, locals := 66 }) (va_Pc [.ref (a 22), .ref (a 16)] (PreC D cA a I A sz)) (va_Qv (fun (u : StW) => post u.1 u.2) (EndC D cA a) (AC a sz)) 0 0 (AC a sz) := by
  refine Met.ofW (cc := b_NoteFile_make) (maxL := 2) (ret := none) (by decide) rfl ?_
  intro p e s m args below meth c s₁ B hml hv
  obtain ⟨rfl, hsz, hP, hK, hD0⟩ := hv
  have hx := B.exec
  have hb := B.bytes
  have hr := B.returns
  have hts := atoms_spec (ws := w_NoteFile_make) B.pre
  have hw := wall_of hts
  have hown : s.vm.findClass R_NoteFile = some m.cls := findClass_of_methodNamed B.named
  have hlocks := B.notSynchronized
  subst hsz
  have hD := hDC (sz := s.heap.size) hD0
  have hA : ∀ q : Nat, s.heap.size ≤ q → AC a s.heap.size q := fun q h => Or.inr h
  have hS : va_S (AC a s.heap.size) s.heap s.heap [] := va_S.rf
  have hl := lv_entry ([.ref (a 22), .ref (a 16)]) (n := 2) (Nat.le_of_ble_eq_true rfl)
  rw [lg_entry_eq]
  generalize (lg_sl ([.ref (a 22), .ref (a 16)]) ++ List.replicate (2 - (lg_sl ([.ref (a 22), .ref (a 16)])).length) Slot.unset).toArray = ls at hl ⊢
  have hl : lv_has ls 2 [(0, .ref (a 22)), (1, .ref (a 16))] := hl
  unfold wp_NoteFile_make at h
  refine lv_aload_n hx hb d_NoteFile_make_0 rfl (lv_at hl 0 rfl) ?_
  refine lv_iconst (v := 0) hx hb d_NoteFile_make_1 ic_0 ?_
  refine pC_NoteFile_size hx hb hw hown hK hD hS hP (hw _ m_NoteFile_18) d_NoteFile_make_2 (fun H locs hP hS => ?_)
  refine lv_aload_n hx hb d_NoteFile_make_5 rfl (lv_at hl 0 rfl) ?_
  refine zC_HEAD hx hb hown hK hS (hw _ m_NoteFile_22) d_NoteFile_make_6 ?_
  refine k_NoteFile_putAll_63 (rest := []) ⟨hx, hb, hml, hown, hw⟩ hK hD hA hS hP hl.1 (hw _ m_NoteFile_25) (Nat.le_of_ble_eq_true rfl) ⟨Nat.le_of_ble_eq_true rfl, Nat.le_of_ble_eq_true rfl⟩ ⟨Nat.zero_le _, Nat.zero_le _⟩ d_NoteFile_make_9 h (fun I9 A9 H locs h hP hS => ?_)
  refine lv_aload_n hx hb d_NoteFile_make_12 rfl (lv_at hl 0 rfl) ?_
  refine lv_dup hx hb d_NoteFile_make_13 rfl ?_
  refine gC_NoteFile_size hx hb hw hown hK hP (hw _ m_NoteFile_18) d_NoteFile_make_14 ?_
  refine lv_iconst (v := 4) hx hb d_NoteFile_make_17 ic_4 ?_
  refine lv_iadd hx hb d_NoteFile_make_18 ?_
  refine pC_NoteFile_size hx hb hw hown hK hD hS hP (hw _ m_NoteFile_18) d_NoteFile_make_19 (fun H locs hP hS => ?_)
  refine lv_aload_n hx hb d_NoteFile_make_22 rfl (lv_at hl 0 rfl) ?_
  refine lv_aload_n hx hb d_NoteFile_make_23 rfl (lv_at hl 1 rfl) ?_
  refine k_NoteFile_gatherEvents (rest := []) ⟨hx, hb, hml, hown, hw⟩ hK hD hA hS hP hl.1 (hw _ m_NoteFile_29) (Nat.le_of_ble_eq_true rfl) ⟨Nat.le_of_ble_eq_true rfl, Nat.le_of_ble_eq_true rfl⟩ ⟨Nat.zero_le _, Nat.zero_le _⟩ d_NoteFile_make_24 h (fun I24 A24 H locs h hP hS => ?_)
  refine lv_aload_n hx hb d_NoteFile_make_27 rfl (lv_at hl 0 rfl) ?_
  refine k_NoteFile_putEvents (rest := []) ⟨hx, hb, hml, hown, hw⟩ hK hD hA hS hP hl.1 (hw _ m_NoteFile_33) (Nat.le_of_ble_eq_true rfl) ⟨Nat.le_of_ble_eq_true rfl, Nat.le_of_ble_eq_true rfl⟩ ⟨Nat.zero_le _, Nat.zero_le _⟩ d_NoteFile_make_28 h (fun I28 A28 H locs h hP hS => ?_)
  refine lv_aload_n hx hb d_NoteFile_make_31 rfl (lv_at hl 0 rfl) ?_
  refine zC_TAIL hx hb hown hK hS (hw _ m_NoteFile_36) d_NoteFile_make_32 ?_
  refine k_NoteFile_putAll_64 (rest := []) ⟨hx, hb, hml, hown, hw⟩ hK hD hA hS hP hl.1 (hw _ m_NoteFile_25) (Nat.le_of_ble_eq_true rfl) ⟨Nat.le_of_ble_eq_true rfl, Nat.le_of_ble_eq_true rfl⟩ ⟨Nat.zero_le _, Nat.zero_le _⟩ d_NoteFile_make_35 h (fun I35 A35 H locs h hP hS => ?_)
  refine lv_aload_n hx hb d_NoteFile_make_38 rfl (lv_at hl 0 rfl) ?_
  refine lv_aload_n hx hb d_NoteFile_make_39 rfl (lv_at hl 0 rfl) ?_
  refine gC_NoteFile_size hx hb hw hown hK hP (hw _ m_NoteFile_18) d_NoteFile_make_40 ?_
  refine zC_HEAD hx hb hown hK hS (hw _ m_NoteFile_22) d_NoteFile_make_43 ?_
  refine tlC_HEAD hx hb hK hS d_NoteFile_make_46 ?_
  refine lv_isub hx hb d_NoteFile_make_47 ?_
  refine lv_iconst (v := 4) hx hb d_NoteFile_make_48 ic_4 ?_
  refine lv_isub hx hb d_NoteFile_make_49 ?_
  refine k_NoteFile_putCount (((I35 28) - 18) - 4) (rest := []) ⟨hx, hb, hml, hown, hw⟩ hK hD hA hS hP hl.1 (hw _ m_NoteFile_39) (Nat.le_of_ble_eq_true rfl) ⟨Nat.le_of_ble_eq_true rfl, Nat.le_of_ble_eq_true rfl⟩ ⟨Nat.zero_le _, Nat.zero_le _⟩ d_NoteFile_make_50 h (fun I50 A50 H locs h hP hS => ?_)
  exact W.vret hx hb hr (fun t ht hW => ⟨⟨(I50, A50), rfl, h, endC_of ht hP⟩, hS.F ht⟩) hS.2.2 d_NoteFile_make_53
theorem k_NoteFile_make {p : Program} {l : Launch} {e : Env} {R : Room} {s : State} {m : MethodId} {args : Array Value} {below : List Frame} {meth : Method} {c : Code} {H : Heap} {locs : List Loc} {cells slots : Nat} {Q : State → Prop} {cc : ByteArray} {pc nL idx : Nat} {own : String} {ls : Array Slot} {D : va_G} {cA a : Nat → Nat} {AA : Nat → Prop} {I : Nat → Int32} {A : Nat → Nat → Int32} {post : (Nat → Int32) → (Nat → Nat → Int32) → Prop} {rest : List Value} (S : CallFix p m c cc nL s args WALL own) (hK : KC D cA a AA s) (hD : ∀ I A, va_D AA (wC cA a I A)) (hA : ∀ q : Nat, s.heap.size ≤ q → AA q) (hS : va_S AA s.heap H locs) (hP : va_P D cls (wC cA a I A) H) (hl1 : ls.size = nL) (hlink : (Cond.methodLink own idx y_NoteFile_make).before args s = true) (hst : (rest.map fun v => v.category).sum ≤ 8) (hR : ({ frames := 3, cells := 0, slots := 0, locals := 66 } : Room).frames + 1 ≤ R.frames ∧ 8 + (2 + 11) + ({ frames := 3, cells := 0, slots := 0, locals := 66 } : Room).locals ≤ R.locals) (hcs : cells ≤ R.cells ∧ slots ≤ R.slots) (hdg : decode cc pc = .ok (.invokevirtual idx, 3)) (h : wp_NoteFile_make I A post) (kk : ∀ (I1 : Nat → Int32) (A1 : Nat → Nat → Int32) (H1 : Heap) (locs1 : List Loc), post I1 A1 → va_P D cls (wC cA a I1 A1) H1 → va_S AA s.heap H1 locs1 → W p l e R s m args below meth c H1 locs1 cells slots Q (F0 m (pc + 3) ls rest)) : W p l e R s m args below meth c H locs cells slots Q (F0 m pc ls (.ref (a 16) :: .ref (a 22) :: rest)) :=
  va_callv (va_runV (As := [.ref (a 16)]) (rest := rest) S (c_NoteFile_make l D cA a H.size I A post h) ⟨callB_of 1 S.2.2.2.2 g_NoteFile_make rfl rfl rfl (S.2.2.2.2 _ mi_NoteFile) hlink ⟨by decide, by decide, by decide +kernel⟩ hR, S.2.2.2.2 _ mn_NoteFile_make, S.2.2.2.2 _ ms_NoteFile_make⟩ (preCV hK hD hA hS hP 22 rfl rfl) rfl rfl hl1 rfl (lv_room hst) hdg hcs) hS (fun q _ z => AC_le hD hA hS q z) (fun q z => AC_le hD hA hS q z) (fun u t H1 locs1 ht _ hp hB _ _ hS1 => kk u.1 u.2 H1 locs1 hp (of_endC ht hB) hS1)
def wp_TuneSetter_write (I : Nat → Int32) (A : Nat → Nat → Int32) (post : Int32 → (Nat → Int32) → (Nat → Nat → Int32) → Prop) : Prop := (((I 34) = 0 → post (-1) I A) ∧ (¬ (I 34) = 0 → (wp_NoteFile_make I A (fun I17 A17 => post (I17 28) I17 A17))))
theorem d_TuneSetter_write_0 : decode b_TuneSetter_write 0 = .ok (.aload_n 0, 1) := by decide +kernel
theorem d_TuneSetter_write_1 : decode b_TuneSetter_write 1 = .ok (.getfield 87, 3) := by decide +kernel
theorem d_TuneSetter_write_4 : decode b_TuneSetter_write 4 = .ok (.ifCond .ne 5, 3) := by decide +kernel
theorem d_TuneSetter_write_7 : decode b_TuneSetter_write 7 = .ok (.iconst (-1), 1) := by decide +kernel
theorem d_TuneSetter_write_8 : decode b_TuneSetter_write 8 = .ok (.ireturn, 1) := by decide +kernel
theorem d_TuneSetter_write_9 : decode b_TuneSetter_write 9 = .ok (.aload_n 0, 1) := by decide +kernel
theorem d_TuneSetter_write_10 : decode b_TuneSetter_write 10 = .ok (.getfield 30, 3) := by decide +kernel
theorem d_TuneSetter_write_13 : decode b_TuneSetter_write 13 = .ok (.aload_n 0, 1) := by decide +kernel
theorem d_TuneSetter_write_14 : decode b_TuneSetter_write 14 = .ok (.getfield 23, 3) := by decide +kernel
theorem d_TuneSetter_write_17 : decode b_TuneSetter_write 17 = .ok (.invokevirtual 118, 3) := by decide +kernel
theorem d_TuneSetter_write_20 : decode b_TuneSetter_write 20 = .ok (.aload_n 0, 1) := by decide +kernel
theorem d_TuneSetter_write_21 : decode b_TuneSetter_write 21 = .ok (.getfield 30, 3) := by decide +kernel
theorem d_TuneSetter_write_24 : decode b_TuneSetter_write 24 = .ok (.getfield 122, 3) := by decide +kernel
theorem d_TuneSetter_write_27 : decode b_TuneSetter_write 27 = .ok (.ireturn, 1) := by decide +kernel
def w_TuneSetter_write : List Cond := .code y_TuneSetter_write b_TuneSetter_write 1 (some .int) :: WALL
theorem g_TuneSetter_write : GoodIn WALL w_TuneSetter_write := good_of mc_TuneSetter_write
set_option maxHeartbeats 4000000 in
set_option maxRecDepth 100000 in
theorem c_TuneSetter_write (l : Launch) (D : va_G) (cA a : Nat → Nat) (sz : Nat) (I : Nat → Int32) (A : Nat → Nat → Int32) (post : Int32 → (Nat → Int32) → (Nat → Nat → Int32) → Prop) (h : wp_TuneSetter_write I A post) : Met l y_TuneSetter_write w_TuneSetter_write ({ frames := 4, cells := 0, slots := 0, locals := 87 }) (va_Pc [.ref (a 0)] (PreC D cA a I A sz)) (va_Qi (fun r (u : StW) => post r u.1 u.2) (EndC D cA a) (AC a sz)) 0 0 (AC a sz) := by
  refine Met.ofW (cc := b_TuneSetter_write) (maxL := 1) (ret := (some .int)) (by decide) rfl ?_
  intro p e s m args below meth c s₁ B hml hv
  obtain ⟨rfl, hsz, hP, hK, hD0⟩ := hv
  have hx := B.exec
  have hb := B.bytes
  have hr := B.returns
  have hts := atoms_spec (ws := w_TuneSetter_write) B.pre
  have hw := wall_of hts
  have hown : s.vm.findClass R_TuneSetter = some m.cls := findClass_of_methodNamed B.named
  have hlocks := B.notSynchronized
  subst hsz
  have hD := hDC (sz := s.heap.size) hD0
  have hA : ∀ q : Nat, s.heap.size ≤ q → AC a s.heap.size q := fun q h => Or.inr h
  have hS : va_S (AC a s.heap.size) s.heap s.heap [] := va_S.rf
  have hl := lv_entry ([.ref (a 0)]) (n := 1) (Nat.le_of_ble_eq_true rfl)
  rw [lg_entry_eq]
  generalize (lg_sl ([.ref (a 0)]) ++ List.replicate (1 - (lg_sl ([.ref (a 0)])).length) Slot.unset).toArray = ls at hl ⊢
  have hl : lv_has ls 1 [(0, .ref (a 0))] := hl
  unfold wp_TuneSetter_write at h
  refine lv_aload_n hx hb d_TuneSetter_write_0 rfl (lv_at hl 0 rfl) ?_
  refine gC_TuneSetter_hasTune hx hb hw hown hK hP (hw _ m_TuneSetter_87) d_TuneSetter_write_1 ?_
  refine lv_if_ne (tgt := 9) hx hb d_TuneSetter_write_4 rfl (fun q => ?_) (fun q => ?_)
  · have h := h.2 q
    refine lv_aload_n hx hb d_TuneSetter_write_9 rfl (lv_at hl 0 rfl) ?_
    refine gC_TuneSetter_file hx hb hw hown hK hP (hw _ m_TuneSetter_30) d_TuneSetter_write_10 ?_
    refine lv_aload_n hx hb d_TuneSetter_write_13 rfl (lv_at hl 0 rfl) ?_
    refine gC_TuneSetter_playing hx hb hw hown hK hP (hw _ m_TuneSetter_23) d_TuneSetter_write_14 ?_
    refine k_NoteFile_make (rest := []) ⟨hx, hb, hml, hown, hw⟩ hK hD hA hS hP hl.1 (hw _ m_TuneSetter_118) (Nat.le_of_ble_eq_true rfl) ⟨Nat.le_of_ble_eq_true rfl, Nat.le_of_ble_eq_true rfl⟩ ⟨Nat.zero_le _, Nat.zero_le _⟩ d_TuneSetter_write_17 h (fun I17 A17 H locs h hP hS => ?_)
    refine lv_aload_n hx hb d_TuneSetter_write_20 rfl (lv_at hl 0 rfl) ?_
    refine gC_TuneSetter_file hx hb hw hown hK hP (hw _ m_TuneSetter_30) d_TuneSetter_write_21 ?_
    refine gC_NoteFile_size hx hb hw hown hK hP (hw _ m_TuneSetter_122) d_TuneSetter_write_24 ?_
    exact W.iret hx hb hr (fun t ht hW => ⟨⟨_, (I17, A17), rfl, h, endC_of ht hP⟩, hS.F ht⟩) hS.2.2 d_TuneSetter_write_27
  · have h := h.1 q
    refine lv_iconst (v := (-1)) hx hb d_TuneSetter_write_7 ic_m1 ?_
    exact W.iret hx hb hr (fun t ht hW => ⟨⟨_, (I, A), rfl, h, endC_of ht hP⟩, hS.F ht⟩) hS.2.2 d_TuneSetter_write_8
theorem k_TuneSetter_write {p : Program} {l : Launch} {e : Env} {R : Room} {s : State} {m : MethodId} {args : Array Value} {below : List Frame} {meth : Method} {c : Code} {H : Heap} {locs : List Loc} {cells slots : Nat} {Q : State → Prop} {cc : ByteArray} {pc nL idx : Nat} {own : String} {ls : Array Slot} {D : va_G} {cA a : Nat → Nat} {AA : Nat → Prop} {I : Nat → Int32} {A : Nat → Nat → Int32} {post : Int32 → (Nat → Int32) → (Nat → Nat → Int32) → Prop} {rest : List Value} (S : CallFix p m c cc nL s args WALL own) (hK : KC D cA a AA s) (hD : ∀ I A, va_D AA (wC cA a I A)) (hA : ∀ q : Nat, s.heap.size ≤ q → AA q) (hS : va_S AA s.heap H locs) (hP : va_P D cls (wC cA a I A) H) (hl1 : ls.size = nL) (hlink : (Cond.methodLink own idx y_TuneSetter_write).before args s = true) (hst : (rest.map fun v => v.category).sum ≤ 8) (hR : ({ frames := 4, cells := 0, slots := 0, locals := 87 } : Room).frames + 1 ≤ R.frames ∧ 8 + (1 + 11) + ({ frames := 4, cells := 0, slots := 0, locals := 87 } : Room).locals ≤ R.locals) (hcs : cells ≤ R.cells ∧ slots ≤ R.slots) (hdg : decode cc pc = .ok (.invokevirtual idx, 3)) (h : wp_TuneSetter_write I A post) (kk : ∀ (r : Int32) (I1 : Nat → Int32) (A1 : Nat → Nat → Int32) (H1 : Heap) (locs1 : List Loc), post r I1 A1 → va_P D cls (wC cA a I1 A1) H1 → va_S AA s.heap H1 locs1 → W p l e R s m args below meth c H1 locs1 cells slots Q (F0 m (pc + 3) ls (.int r :: rest))) : W p l e R s m args below meth c H locs cells slots Q (F0 m pc ls (.ref (a 0) :: rest)) :=
  va_calli (va_runV (As := []) (rest := rest) S (c_TuneSetter_write l D cA a H.size I A post h) ⟨callB_of 0 S.2.2.2.2 g_TuneSetter_write rfl rfl rfl (S.2.2.2.2 _ mi_TuneSetter) hlink ⟨by decide, by decide, by decide +kernel⟩ hR, S.2.2.2.2 _ mn_TuneSetter_write, S.2.2.2.2 _ ms_TuneSetter_write⟩ (preCV hK hD hA hS hP 0 rfl rfl) rfl rfl hl1 rfl (lv_room hst) hdg hcs) hS (fun q _ z => AC_le hD hA hS q z) (fun q z => AC_le hD hA hS q z) (fun r u t H1 locs1 ht _ hp hB _ _ hS1 => kk r u.1 u.2 H1 locs1 hp (of_endC ht hB) hS1)
def wp_TuneSetter_byteAt (x1 : Int32) (I : Nat → Int32) (A : Nat → Nat → Int32) (post : Int32 → (Nat → Int32) → (Nat → Nat → Int32) → Prop) : Prop := ((x1 < 0 → post (-1) I A) ∧ (¬ x1 < 0 → ((x1 < (I 28) → (vp_in x1 794 ∧ post (A 23 (x1.toNatClampNeg)) I A)) ∧ (¬ x1 < (I 28) → post (-1) I A))))
theorem d_TuneSetter_byteAt_0 : decode b_TuneSetter_byteAt 0 = .ok (.iload_n 1, 1) := by decide +kernel
theorem d_TuneSetter_byteAt_1 : decode b_TuneSetter_byteAt 1 = .ok (.ifCond .lt 14, 3) := by decide +kernel
theorem d_TuneSetter_byteAt_4 : decode b_TuneSetter_byteAt 4 = .ok (.iload_n 1, 1) := by decide +kernel
theorem d_TuneSetter_byteAt_5 : decode b_TuneSetter_byteAt 5 = .ok (.aload_n 0, 1) := by decide +kernel
theorem d_TuneSetter_byteAt_6 : decode b_TuneSetter_byteAt 6 = .ok (.getfield 30, 3) := by decide +kernel
theorem d_TuneSetter_byteAt_9 : decode b_TuneSetter_byteAt 9 = .ok (.getfield 122, 3) := by decide +kernel
theorem d_TuneSetter_byteAt_12 : decode b_TuneSetter_byteAt 12 = .ok (.if_icmp .lt 7, 3) := by decide +kernel
theorem d_TuneSetter_byteAt_15 : decode b_TuneSetter_byteAt 15 = .ok (.iconst (-1), 1) := by decide +kernel
theorem d_TuneSetter_byteAt_16 : decode b_TuneSetter_byteAt 16 = .ok (.goto 12, 3) := by decide +kernel
theorem d_TuneSetter_byteAt_19 : decode b_TuneSetter_byteAt 19 = .ok (.aload_n 0, 1) := by decide +kernel
theorem d_TuneSetter_byteAt_20 : decode b_TuneSetter_byteAt 20 = .ok (.getfield 30, 3) := by decide +kernel
theorem d_TuneSetter_byteAt_23 : decode b_TuneSetter_byteAt 23 = .ok (.getfield 125, 3) := by decide +kernel
theorem d_TuneSetter_byteAt_26 : decode b_TuneSetter_byteAt 26 = .ok (.iload_n 1, 1) := by decide +kernel
theorem d_TuneSetter_byteAt_27 : decode b_TuneSetter_byteAt 27 = .ok (.iaload, 1) := by decide +kernel
theorem d_TuneSetter_byteAt_28 : decode b_TuneSetter_byteAt 28 = .ok (.ireturn, 1) := by decide +kernel
def w_TuneSetter_byteAt : List Cond := .code y_TuneSetter_byteAt b_TuneSetter_byteAt 2 (some .int) :: WALL
theorem g_TuneSetter_byteAt : GoodIn WALL w_TuneSetter_byteAt := good_of mc_TuneSetter_byteAt
set_option maxHeartbeats 4000000 in
set_option maxRecDepth 100000 in
theorem c_TuneSetter_byteAt (l : Launch) (D : va_G) (cA a : Nat → Nat) (sz : Nat) (x1 : Int32) (I : Nat → Int32) (A : Nat → Nat → Int32) (post : Int32 → (Nat → Int32) → (Nat → Nat → Int32) → Prop) (h : wp_TuneSetter_byteAt x1 I A post) : Met l y_TuneSetter_byteAt w_TuneSetter_byteAt ({ frames := 0, cells := 0, slots := 0, locals := 0 }) (va_Pc [.ref (a 0), .int x1] (PreC D cA a I A sz)) (va_Qi (fun r (u : StW) => post r u.1 u.2) (EndC D cA a) (AC a sz)) 0 0 (AC a sz) := by
  refine Met.ofW (cc := b_TuneSetter_byteAt) (maxL := 2) (ret := (some .int)) (by decide) rfl ?_
  intro p e s m args below meth c s₁ B hml hv
  obtain ⟨rfl, hsz, hP, hK, hD0⟩ := hv
  have hx := B.exec
  have hb := B.bytes
  have hr := B.returns
  have hts := atoms_spec (ws := w_TuneSetter_byteAt) B.pre
  have hw := wall_of hts
  have hown : s.vm.findClass R_TuneSetter = some m.cls := findClass_of_methodNamed B.named
  have hlocks := B.notSynchronized
  subst hsz
  have hD := hDC (sz := s.heap.size) hD0
  have hA : ∀ q : Nat, s.heap.size ≤ q → AC a s.heap.size q := fun q h => Or.inr h
  have hS : va_S (AC a s.heap.size) s.heap s.heap [] := va_S.rf
  have hl := lv_entry ([.ref (a 0), .int x1]) (n := 2) (Nat.le_of_ble_eq_true rfl)
  rw [lg_entry_eq]
  generalize (lg_sl ([.ref (a 0), .int x1]) ++ List.replicate (2 - (lg_sl ([.ref (a 0), .int x1])).length) Slot.unset).toArray = ls at hl ⊢
  have hl : lv_has ls 2 [(0, .ref (a 0)), (1, .int x1)] := hl
  unfold wp_TuneSetter_byteAt at h
  refine lv_iload_n hx hb d_TuneSetter_byteAt_0 rfl (lv_at hl 1 rfl) ?_
  refine lv_if_lt (tgt := 15) hx hb d_TuneSetter_byteAt_1 rfl (fun q => ?_) (fun q => ?_)
  · have h := h.1 q
    refine lv_iconst (v := (-1)) hx hb d_TuneSetter_byteAt_15 ic_m1 ?_
    refine lv_goto (tgt := 28) hx hb d_TuneSetter_byteAt_16 rfl ?_
    exact W.iret hx hb hr (fun t ht hW => ⟨⟨_, (I, A), rfl, h, endC_of ht hP⟩, hS.F ht⟩) hS.2.2 d_TuneSetter_byteAt_28
  · have h := h.2 q
    refine lv_iload_n hx hb d_TuneSetter_byteAt_4 rfl (lv_at hl 1 rfl) ?_
    refine lv_aload_n hx hb d_TuneSetter_byteAt_5 rfl (lv_at hl 0 rfl) ?_
    refine gC_TuneSetter_file hx hb hw hown hK hP (hw _ m_TuneSetter_30) d_TuneSetter_byteAt_6 ?_
    refine gC_NoteFile_size hx hb hw hown hK hP (hw _ m_TuneSetter_122) d_TuneSetter_byteAt_9 ?_
    refine lv_icmp_lt (tgt := 19) hx hb d_TuneSetter_byteAt_12 rfl (fun q => ?_) (fun q => ?_)
    · have h := h.1 q
      refine lv_aload_n hx hb d_TuneSetter_byteAt_19 rfl (lv_at hl 0 rfl) ?_
      refine gC_TuneSetter_file hx hb hw hown hK hP (hw _ m_TuneSetter_30) d_TuneSetter_byteAt_20 ?_
      refine gC_NoteFile_bytes hx hb hw hown hK hP (hw _ m_TuneSetter_125) d_TuneSetter_byteAt_23 ?_
      refine lv_iload_n hx hb d_TuneSetter_byteAt_26 rfl (lv_at hl 1 rfl) ?_
      obtain ⟨hin, h⟩ := h
      refine lC23 hx hb hK hP hin d_TuneSetter_byteAt_27 ?_
      exact W.iret hx hb hr (fun t ht hW => ⟨⟨_, (I, A), rfl, h, endC_of ht hP⟩, hS.F ht⟩) hS.2.2 d_TuneSetter_byteAt_28
    · have h := h.2 q
      refine lv_iconst (v := (-1)) hx hb d_TuneSetter_byteAt_15 ic_m1 ?_
      refine lv_goto (tgt := 28) hx hb d_TuneSetter_byteAt_16 rfl ?_
      exact W.iret hx hb hr (fun t ht hW => ⟨⟨_, (I, A), rfl, h, endC_of ht hP⟩, hS.F ht⟩) hS.2.2 d_TuneSetter_byteAt_28
theorem k_TuneSetter_byteAt {p : Program} {l : Launch} {e : Env} {R : Room} {s : State} {m : MethodId} {args : Array Value} {below : List Frame} {meth : Method} {c : Code} {H : Heap} {locs : List Loc} {cells slots : Nat} {Q : State → Prop} {cc : ByteArray} {pc nL idx : Nat} {own : String} {ls : Array Slot} {D : va_G} {cA a : Nat → Nat} {AA : Nat → Prop} {I : Nat → Int32} {A : Nat → Nat → Int32} {post : Int32 → (Nat → Int32) → (Nat → Nat → Int32) → Prop} (x1 : Int32) {rest : List Value} (S : CallFix p m c cc nL s args WALL own) (hK : KC D cA a AA s) (hD : ∀ I A, va_D AA (wC cA a I A)) (hA : ∀ q : Nat, s.heap.size ≤ q → AA q) (hS : va_S AA s.heap H locs) (hP : va_P D cls (wC cA a I A) H) (hl1 : ls.size = nL) (hlink : (Cond.methodLink own idx y_TuneSetter_byteAt).before args s = true) (hst : (rest.map fun v => v.category).sum ≤ 8) (hR : ({ frames := 0, cells := 0, slots := 0, locals := 0 } : Room).frames + 1 ≤ R.frames ∧ 8 + (2 + 11) + ({ frames := 0, cells := 0, slots := 0, locals := 0 } : Room).locals ≤ R.locals) (hcs : cells ≤ R.cells ∧ slots ≤ R.slots) (hdg : decode cc pc = .ok (.invokevirtual idx, 3)) (h : wp_TuneSetter_byteAt x1 I A post) (kk : ∀ (r : Int32) (I1 : Nat → Int32) (A1 : Nat → Nat → Int32) (H1 : Heap) (locs1 : List Loc), post r I1 A1 → va_P D cls (wC cA a I1 A1) H1 → va_S AA s.heap H1 locs1 → W p l e R s m args below meth c H1 locs1 cells slots Q (F0 m (pc + 3) ls (.int r :: rest))) : W p l e R s m args below meth c H locs cells slots Q (F0 m pc ls (.int x1 :: .ref (a 0) :: rest)) :=
  va_calli (va_runV (As := [.int x1]) (rest := rest) S (c_TuneSetter_byteAt l D cA a H.size x1 I A post h) ⟨callB_of 1 S.2.2.2.2 g_TuneSetter_byteAt rfl rfl rfl (S.2.2.2.2 _ mi_TuneSetter) hlink ⟨by decide, by decide, by decide +kernel⟩ hR, S.2.2.2.2 _ mn_TuneSetter_byteAt, S.2.2.2.2 _ ms_TuneSetter_byteAt⟩ (preCV hK hD hA hS hP 0 rfl rfl) rfl rfl hl1 rfl (lv_room hst) hdg hcs) hS (fun q _ z => AC_le hD hA hS q z) (fun q z => AC_le hD hA hS q z) (fun r u t H1 locs1 ht _ hp hB _ _ hS1 => kk r u.1 u.2 H1 locs1 hp (of_endC ht hB) hS1)
def wp_LineBreaker_solveFrom_129 (k8 : Int32 → Int32 → Int32 → (Nat → Int32) → (Nat → Nat → Int32) → Prop) (post : (Nat → Int32) → (Nat → Nat → Int32) → Prop) (y2 : Int32) (y4 : Int32) (y5 : Int32) (y6 : Int32) (y7 : Int32) (I : Nat → Int32) (A : Nat → Nat → Int32) : Prop := (vp_in y2 9 ∧ (vp_in y2 9 ∧ (∀ v145 : Int32, v145 = y5 + 1 → k8 y2 y4 v145 I (upd2 (upd2 A 26 (y2.toNatClampNeg) y6) 27 (y2.toNatClampNeg) y7))))
def wp_LineBreaker_solveFrom_89 (k8 : Int32 → Int32 → Int32 → (Nat → Int32) → (Nat → Nat → Int32) → Prop) (post : (Nat → Int32) → (Nat → Nat → Int32) → Prop) (y2 : Int32) (y4 : Int32) (y5 : Int32) (y6 : Int32) (y7 : Int32) (s0 : Int32) (I : Nat → Int32) (A : Nat → Nat → Int32) : Prop := ((s0 = 0 → (vp_in y2 9 ∧ ((y6 < (A 26 (y2.toNatClampNeg)) → wp_LineBreaker_solveFrom_129 k8 post y2 y4 y5 y6 y7 I A) ∧ (¬ y6 < (A 26 (y2.toNatClampNeg)) → (vp_in y2 9 ∧ ((y6 = (A 26 (y2.toNatClampNeg)) → (vp_in y2 9 ∧ (((A 27 (y2.toNatClampNeg)) ≤ y7 → (∀ v145 : Int32, v145 = y5 + 1 → k8 y2 y4 v145 I A)) ∧ (¬ (A 27 (y2.toNatClampNeg)) ≤ y7 → wp_LineBreaker_solveFrom_129 k8 post y2 y4 y5 y6 y7 I A)))) ∧ (¬ y6 = (A 26 (y2.toNatClampNeg)) → (∀ v145 : Int32, v145 = y5 + 1 → k8 y2 y4 v145 I A)))))))) ∧ (¬ s0 = 0 → wp_LineBreaker_solveFrom_129 k8 post y2 y4 y5 y6 y7 I A))
def wp_LineBreaker_solveFrom_62 (k8 : Int32 → Int32 → Int32 → (Nat → Int32) → (Nat → Nat → Int32) → Prop) (post : (Nat → Int32) → (Nat → Nat → Int32) → Prop) (y2 : Int32) (y4 : Int32) (y5 : Int32) (s0 : Int32) (s1 : Int32) (I : Nat → Int32) (A : Nat → Nat → Int32) : Prop := (∀ v63 : Int32, v63 = s1 + s0 → (vp_in y5 9 ∧ (∀ v74 : Int32, v74 = (1 : Int32) + (A 27 (y5.toNatClampNeg)) → ((y5 = (y2 + 1) → wp_LineBreaker_solveFrom_89 k8 post y2 y4 y5 v63 v74 1 I A) ∧ (¬ y5 = (y2 + 1) → wp_LineBreaker_solveFrom_89 k8 post y2 y4 y5 v63 v74 0 I A)))))
def wp_LineBreaker_solveFrom_8 (post : (Nat → Int32) → (Nat → Nat → Int32) → Prop) : Nat → Int32 → Int32 → Int32 → (Nat → Int32) → (Nat → Nat → Int32) → Prop
  | 0, _, _, _, _, _ => False
  | n + 1, y2, y4, y5, I, A => (((I 0) < y5 → post I A) ∧ (¬ (I 0) < y5 → (vp_in (y5 - 1) 8 ∧ (∀ v29 : Int32, v29 = y4 - (A 7 ((y5 - 1).toNatClampNeg)) → ((0 ≤ v29 → (vp_in y5 9 ∧ ((y5 = (I 0) → wp_LineBreaker_solveFrom_62 (fun y2 y4 y5 I A => wp_LineBreaker_solveFrom_8 post n y2 y4 y5 I A) post y2 v29 y5 0 (A 26 (y5.toNatClampNeg)) I A) ∧ (¬ y5 = (I 0) → wp_LineBreaker_solveFrom_62 (fun y2 y4 y5 I A => wp_LineBreaker_solveFrom_8 post n y2 y4 y5 I A) post y2 v29 y5 (v29 * v29) (A 26 (y5.toNatClampNeg)) I A)))) ∧ (¬ 0 ≤ v29 → post I A))))))
def wp_LineBreaker_solveFrom (x1 : Int32) (x2 : Int32) (I : Nat → Int32) (A : Nat → Nat → Int32) (post : (Nat → Int32) → (Nat → Nat → Int32) → Prop) : Prop := (∀ v6 : Int32, v6 = x1 + 1 → (∃ n8, wp_LineBreaker_solveFrom_8 post n8 x1 x2 v6 I A))
theorem d_LineBreaker_solveFrom_0 : decode b_LineBreaker_solveFrom 0 = .ok (.iload_n 3, 1) := by decide +kernel
theorem d_LineBreaker_solveFrom_1 : decode b_LineBreaker_solveFrom 1 = .ok (.istore 4, 2) := by decide +kernel
theorem d_LineBreaker_solveFrom_3 : decode b_LineBreaker_solveFrom 3 = .ok (.iload_n 2, 1) := by decide +kernel
theorem d_LineBreaker_solveFrom_4 : decode b_LineBreaker_solveFrom 4 = .ok (.iconst 1, 1) := by decide +kernel
theorem d_LineBreaker_solveFrom_5 : decode b_LineBreaker_solveFrom 5 = .ok (.iadd, 1) := by decide +kernel
theorem d_LineBreaker_solveFrom_6 : decode b_LineBreaker_solveFrom 6 = .ok (.istore 5, 2) := by decide +kernel
theorem d_LineBreaker_solveFrom_8 : decode b_LineBreaker_solveFrom 8 = .ok (.iload 5, 2) := by decide +kernel
theorem d_LineBreaker_solveFrom_10 : decode b_LineBreaker_solveFrom 10 = .ok (.aload_n 1, 1) := by decide +kernel
theorem d_LineBreaker_solveFrom_11 : decode b_LineBreaker_solveFrom 11 = .ok (.getfield 18, 3) := by decide +kernel
theorem d_LineBreaker_solveFrom_14 : decode b_LineBreaker_solveFrom 14 = .ok (.if_icmp .gt 137, 3) := by decide +kernel
theorem d_LineBreaker_solveFrom_17 : decode b_LineBreaker_solveFrom 17 = .ok (.iload 4, 2) := by decide +kernel
theorem d_LineBreaker_solveFrom_19 : decode b_LineBreaker_solveFrom 19 = .ok (.aload_n 1, 1) := by decide +kernel
theorem d_LineBreaker_solveFrom_20 : decode b_LineBreaker_solveFrom 20 = .ok (.getfield 24, 3) := by decide +kernel
theorem d_LineBreaker_solveFrom_23 : decode b_LineBreaker_solveFrom 23 = .ok (.iload 5, 2) := by decide +kernel
theorem d_LineBreaker_solveFrom_25 : decode b_LineBreaker_solveFrom 25 = .ok (.iconst 1, 1) := by decide +kernel
theorem d_LineBreaker_solveFrom_26 : decode b_LineBreaker_solveFrom 26 = .ok (.isub, 1) := by decide +kernel
theorem d_LineBreaker_solveFrom_27 : decode b_LineBreaker_solveFrom 27 = .ok (.iaload, 1) := by decide +kernel
theorem d_LineBreaker_solveFrom_28 : decode b_LineBreaker_solveFrom 28 = .ok (.isub, 1) := by decide +kernel
theorem d_LineBreaker_solveFrom_29 : decode b_LineBreaker_solveFrom 29 = .ok (.istore 4, 2) := by decide +kernel
theorem d_LineBreaker_solveFrom_31 : decode b_LineBreaker_solveFrom 31 = .ok (.iload 4, 2) := by decide +kernel
theorem d_LineBreaker_solveFrom_33 : decode b_LineBreaker_solveFrom 33 = .ok (.ifCond .ge 4, 3) := by decide +kernel
theorem d_LineBreaker_solveFrom_36 : decode b_LineBreaker_solveFrom 36 = .ok (.return_, 1) := by decide +kernel
theorem d_LineBreaker_solveFrom_37 : decode b_LineBreaker_solveFrom 37 = .ok (.aload_n 0, 1) := by decide +kernel
theorem d_LineBreaker_solveFrom_38 : decode b_LineBreaker_solveFrom 38 = .ok (.getfield 9, 3) := by decide +kernel
theorem d_LineBreaker_solveFrom_41 : decode b_LineBreaker_solveFrom 41 = .ok (.iload 5, 2) := by decide +kernel
theorem d_LineBreaker_solveFrom_43 : decode b_LineBreaker_solveFrom 43 = .ok (.iaload, 1) := by decide +kernel
theorem d_LineBreaker_solveFrom_44 : decode b_LineBreaker_solveFrom 44 = .ok (.iload 5, 2) := by decide +kernel
theorem d_LineBreaker_solveFrom_46 : decode b_LineBreaker_solveFrom 46 = .ok (.aload_n 1, 1) := by decide +kernel
theorem d_LineBreaker_solveFrom_47 : decode b_LineBreaker_solveFrom 47 = .ok (.getfield 18, 3) := by decide +kernel
theorem d_LineBreaker_solveFrom_50 : decode b_LineBreaker_solveFrom 50 = .ok (.if_icmp .ne 7, 3) := by decide +kernel
theorem d_LineBreaker_solveFrom_53 : decode b_LineBreaker_solveFrom 53 = .ok (.iconst 0, 1) := by decide +kernel
theorem d_LineBreaker_solveFrom_54 : decode b_LineBreaker_solveFrom 54 = .ok (.goto 8, 3) := by decide +kernel
theorem d_LineBreaker_solveFrom_57 : decode b_LineBreaker_solveFrom 57 = .ok (.iload 4, 2) := by decide +kernel
theorem d_LineBreaker_solveFrom_59 : decode b_LineBreaker_solveFrom 59 = .ok (.iload 4, 2) := by decide +kernel
theorem d_LineBreaker_solveFrom_61 : decode b_LineBreaker_solveFrom 61 = .ok (.imul, 1) := by decide +kernel
theorem d_LineBreaker_solveFrom_62 : decode b_LineBreaker_solveFrom 62 = .ok (.iadd, 1) := by decide +kernel
theorem d_LineBreaker_solveFrom_63 : decode b_LineBreaker_solveFrom 63 = .ok (.istore 6, 2) := by decide +kernel
theorem d_LineBreaker_solveFrom_65 : decode b_LineBreaker_solveFrom 65 = .ok (.iconst 1, 1) := by decide +kernel
theorem d_LineBreaker_solveFrom_66 : decode b_LineBreaker_solveFrom 66 = .ok (.aload_n 0, 1) := by decide +kernel
theorem d_LineBreaker_solveFrom_67 : decode b_LineBreaker_solveFrom 67 = .ok (.getfield 15, 3) := by decide +kernel
theorem d_LineBreaker_solveFrom_70 : decode b_LineBreaker_solveFrom 70 = .ok (.iload 5, 2) := by decide +kernel
theorem d_LineBreaker_solveFrom_72 : decode b_LineBreaker_solveFrom 72 = .ok (.iaload, 1) := by decide +kernel
theorem d_LineBreaker_solveFrom_73 : decode b_LineBreaker_solveFrom 73 = .ok (.iadd, 1) := by decide +kernel
theorem d_LineBreaker_solveFrom_74 : decode b_LineBreaker_solveFrom 74 = .ok (.istore 7, 2) := by decide +kernel
theorem d_LineBreaker_solveFrom_76 : decode b_LineBreaker_solveFrom 76 = .ok (.iload 5, 2) := by decide +kernel
theorem d_LineBreaker_solveFrom_78 : decode b_LineBreaker_solveFrom 78 = .ok (.iload_n 2, 1) := by decide +kernel
theorem d_LineBreaker_solveFrom_79 : decode b_LineBreaker_solveFrom 79 = .ok (.iconst 1, 1) := by decide +kernel
theorem d_LineBreaker_solveFrom_80 : decode b_LineBreaker_solveFrom 80 = .ok (.iadd, 1) := by decide +kernel
theorem d_LineBreaker_solveFrom_81 : decode b_LineBreaker_solveFrom 81 = .ok (.if_icmp .ne 7, 3) := by decide +kernel
theorem d_LineBreaker_solveFrom_84 : decode b_LineBreaker_solveFrom 84 = .ok (.iconst 1, 1) := by decide +kernel
theorem d_LineBreaker_solveFrom_85 : decode b_LineBreaker_solveFrom 85 = .ok (.goto 4, 3) := by decide +kernel
theorem d_LineBreaker_solveFrom_88 : decode b_LineBreaker_solveFrom 88 = .ok (.iconst 0, 1) := by decide +kernel
theorem d_LineBreaker_solveFrom_89 : decode b_LineBreaker_solveFrom 89 = .ok (.istore 8, 2) := by decide +kernel
theorem d_LineBreaker_solveFrom_91 : decode b_LineBreaker_solveFrom 91 = .ok (.iload 8, 2) := by decide +kernel
theorem d_LineBreaker_solveFrom_93 : decode b_LineBreaker_solveFrom 93 = .ok (.ifCond .ne 36, 3) := by decide +kernel
theorem d_LineBreaker_solveFrom_96 : decode b_LineBreaker_solveFrom 96 = .ok (.iload 6, 2) := by decide +kernel
theorem d_LineBreaker_solveFrom_98 : decode b_LineBreaker_solveFrom 98 = .ok (.aload_n 0, 1) := by decide +kernel
theorem d_LineBreaker_solveFrom_99 : decode b_LineBreaker_solveFrom 99 = .ok (.getfield 9, 3) := by decide +kernel
theorem d_LineBreaker_solveFrom_102 : decode b_LineBreaker_solveFrom 102 = .ok (.iload_n 2, 1) := by decide +kernel
theorem d_LineBreaker_solveFrom_103 : decode b_LineBreaker_solveFrom 103 = .ok (.iaload, 1) := by decide +kernel
theorem d_LineBreaker_solveFrom_104 : decode b_LineBreaker_solveFrom 104 = .ok (.if_icmp .lt 25, 3) := by decide +kernel
theorem d_LineBreaker_solveFrom_107 : decode b_LineBreaker_solveFrom 107 = .ok (.iload 6, 2) := by decide +kernel
theorem d_LineBreaker_solveFrom_109 : decode b_LineBreaker_solveFrom 109 = .ok (.aload_n 0, 1) := by decide +kernel
theorem d_LineBreaker_solveFrom_110 : decode b_LineBreaker_solveFrom 110 = .ok (.getfield 9, 3) := by decide +kernel
theorem d_LineBreaker_solveFrom_113 : decode b_LineBreaker_solveFrom 113 = .ok (.iload_n 2, 1) := by decide +kernel
theorem d_LineBreaker_solveFrom_114 : decode b_LineBreaker_solveFrom 114 = .ok (.iaload, 1) := by decide +kernel
theorem d_LineBreaker_solveFrom_115 : decode b_LineBreaker_solveFrom 115 = .ok (.if_icmp .ne 30, 3) := by decide +kernel
theorem d_LineBreaker_solveFrom_118 : decode b_LineBreaker_solveFrom 118 = .ok (.iload 7, 2) := by decide +kernel
theorem d_LineBreaker_solveFrom_120 : decode b_LineBreaker_solveFrom 120 = .ok (.aload_n 0, 1) := by decide +kernel
theorem d_LineBreaker_solveFrom_121 : decode b_LineBreaker_solveFrom 121 = .ok (.getfield 15, 3) := by decide +kernel
theorem d_LineBreaker_solveFrom_124 : decode b_LineBreaker_solveFrom 124 = .ok (.iload_n 2, 1) := by decide +kernel
theorem d_LineBreaker_solveFrom_125 : decode b_LineBreaker_solveFrom 125 = .ok (.iaload, 1) := by decide +kernel
theorem d_LineBreaker_solveFrom_126 : decode b_LineBreaker_solveFrom 126 = .ok (.if_icmp .ge 19, 3) := by decide +kernel
theorem d_LineBreaker_solveFrom_129 : decode b_LineBreaker_solveFrom 129 = .ok (.aload_n 0, 1) := by decide +kernel
theorem d_LineBreaker_solveFrom_130 : decode b_LineBreaker_solveFrom 130 = .ok (.getfield 9, 3) := by decide +kernel
theorem d_LineBreaker_solveFrom_133 : decode b_LineBreaker_solveFrom 133 = .ok (.iload_n 2, 1) := by decide +kernel
theorem d_LineBreaker_solveFrom_134 : decode b_LineBreaker_solveFrom 134 = .ok (.iload 6, 2) := by decide +kernel
theorem d_LineBreaker_solveFrom_136 : decode b_LineBreaker_solveFrom 136 = .ok (.iastore, 1) := by decide +kernel
theorem d_LineBreaker_solveFrom_137 : decode b_LineBreaker_solveFrom 137 = .ok (.aload_n 0, 1) := by decide +kernel
theorem d_LineBreaker_solveFrom_138 : decode b_LineBreaker_solveFrom 138 = .ok (.getfield 15, 3) := by decide +kernel
theorem d_LineBreaker_solveFrom_141 : decode b_LineBreaker_solveFrom 141 = .ok (.iload_n 2, 1) := by decide +kernel
theorem d_LineBreaker_solveFrom_142 : decode b_LineBreaker_solveFrom 142 = .ok (.iload 7, 2) := by decide +kernel
theorem d_LineBreaker_solveFrom_144 : decode b_LineBreaker_solveFrom 144 = .ok (.iastore, 1) := by decide +kernel
theorem d_LineBreaker_solveFrom_145 : decode b_LineBreaker_solveFrom 145 = .ok (.iinc 5 1, 3) := by decide +kernel
theorem d_LineBreaker_solveFrom_148 : decode b_LineBreaker_solveFrom 148 = .ok (.goto (-140), 3) := by decide +kernel
theorem d_LineBreaker_solveFrom_151 : decode b_LineBreaker_solveFrom 151 = .ok (.return_, 1) := by decide +kernel
def w_LineBreaker_solveFrom : List Cond := .code y_LineBreaker_solveFrom b_LineBreaker_solveFrom 9 none :: WALL
theorem g_LineBreaker_solveFrom : GoodIn WALL w_LineBreaker_solveFrom := good_of mc_LineBreaker_solveFrom
set_option maxHeartbeats 4000000 in
set_option maxRecDepth 100000 in
theorem c_LineBreaker_solveFrom (l : Launch) (D : va_G) (cA a : Nat → Nat) (sz : Nat) (x1 : Int32) (x2 : Int32) (I : Nat → Int32) (A : Nat → Nat → Int32) (post : (Nat → Int32) → (Nat → Nat → Int32) → Prop) (h : wp_LineBreaker_solveFrom x1 x2 I A post) : Met l y_LineBreaker_solveFrom w_LineBreaker_solveFrom ({ frames := 0, cells := 0, slots := 0, locals := 0 }) (va_Pc [.ref (a 25), .ref (a 3), .int x1, .int x2] (PreC D cA a I A sz)) (va_Qv (fun (u : StW) => post u.1 u.2) (EndC D cA a) (AC a sz)) 0 0 (AC a sz) := by
  refine Met.ofW (cc := b_LineBreaker_solveFrom) (maxL := 9) (ret := none) (by decide) rfl ?_
  intro p e s m args below meth c s₁ B hml hv
  obtain ⟨rfl, hsz, hP, hK, hD0⟩ := hv
  have hx := B.exec
  have hb := B.bytes
  have hr := B.returns
  have hts := atoms_spec (ws := w_LineBreaker_solveFrom) B.pre
  have hw := wall_of hts
  have hown : s.vm.findClass R_LineBreaker = some m.cls := findClass_of_methodNamed B.named
  have hlocks := B.notSynchronized
  subst hsz
  have hD := hDC (sz := s.heap.size) hD0
  have hA : ∀ q : Nat, s.heap.size ≤ q → AC a s.heap.size q := fun q h => Or.inr h
  have hS : va_S (AC a s.heap.size) s.heap s.heap [] := va_S.rf
  have j129 : ∀ (k8 : Int32 → Int32 → Int32 → (Nat → Int32) → (Nat → Nat → Int32) → Prop) (hk8 : ∀ (y2 : Int32) (y4 : Int32) (y5 : Int32) (I : Nat → Int32) (A : Nat → Nat → Int32) (H : Heap) (locs : List Loc) (ls : Array Slot), k8 y2 y4 y5 I A → va_P D cls (wC cA a I A) H → va_S (AC a s.heap.size) s.heap H locs → lv_has ls 9 [(0, .ref (a 25)), (1, .ref (a 3)), (2, .int y2), (4, .int y4), (5, .int y5)] → W p l e (headSpec w_LineBreaker_solveFrom ({ frames := 0, cells := 0, slots := 0, locals := 0 })).room s m [.ref (a 25), .ref (a 3), .int x1, .int x2].toArray below meth c H locs 0 0 (MQ below (va_Qv (fun (u : StW) => post u.1 u.2) (EndC D cA a) (AC a s.heap.size)) [.ref (a 25), .ref (a 3), .int x1, .int x2].toArray s 0 0 (AC a s.heap.size)) (F0 m 8 ls [])), ∀ (y2 : Int32) (y4 : Int32) (y5 : Int32) (y6 : Int32) (y7 : Int32) (I : Nat → Int32) (A : Nat → Nat → Int32) (H : Heap) (locs : List Loc) (ls : Array Slot), wp_LineBreaker_solveFrom_129 k8 post y2 y4 y5 y6 y7 I A → va_P D cls (wC cA a I A) H → va_S (AC a s.heap.size) s.heap H locs → lv_has ls 9 [(0, .ref (a 25)), (1, .ref (a 3)), (2, .int y2), (4, .int y4), (5, .int y5), (6, .int y6), (7, .int y7)] → W p l e (headSpec w_LineBreaker_solveFrom ({ frames := 0, cells := 0, slots := 0, locals := 0 })).room s m [.ref (a 25), .ref (a 3), .int x1, .int x2].toArray below meth c H locs 0 0 (MQ below (va_Qv (fun (u : StW) => post u.1 u.2) (EndC D cA a) (AC a s.heap.size)) [.ref (a 25), .ref (a 3), .int x1, .int x2].toArray s 0 0 (AC a s.heap.size)) (F0 m 129 ls []) := by
    intro k8 hk8
    intro y2 y4 y5 y6 y7 I A H locs ls h hP hS hl
    unfold wp_LineBreaker_solveFrom_129 at h
    refine lv_aload_n hx hb d_LineBreaker_solveFrom_129 rfl (lv_at hl 0 rfl) ?_
    refine gC_LineBreaker_leastBadness hx hb hw hown hK hP (hw _ m_LineBreaker_9) d_LineBreaker_solveFrom_130 ?_
    refine lv_iload_n hx hb d_LineBreaker_solveFrom_133 rfl (lv_at hl 2 rfl) ?_
    refine lv_iload hx hb d_LineBreaker_solveFrom_134 (lv_at hl 5 rfl) ?_
    obtain ⟨hin, h⟩ := h
    refine sC26 hx hb hK hD hS hP hin d_LineBreaker_solveFrom_136 (fun H locs hP hS => ?_)
    refine lv_aload_n hx hb d_LineBreaker_solveFrom_137 rfl (lv_at hl 0 rfl) ?_
    refine gC_LineBreaker_fewestLines hx hb hw hown hK hP (hw _ m_LineBreaker_15) d_LineBreaker_solveFrom_138 ?_
    refine lv_iload_n hx hb d_LineBreaker_solveFrom_141 rfl (lv_at hl 2 rfl) ?_
    refine lv_iload hx hb d_LineBreaker_solveFrom_142 (lv_at hl 6 rfl) ?_
    obtain ⟨hin, h⟩ := h
    refine sC27 hx hb hK hD hS hP hin d_LineBreaker_solveFrom_144 (fun H locs hP hS => ?_)
    obtain ⟨v145, ev145⟩ : ∃ z : Int32, z = y5 + 1 := ⟨_, rfl⟩
    have h := h v145 ev145
    refine lv_iinc (k := 4) (v := v145) (lv' := [(5, .int v145), (0, .ref (a 25)), (1, .ref (a 3)), (2, .int y2), (4, .int y4), (6, .int y6), (7, .int y7)]) hx hb d_LineBreaker_solveFrom_145 hl rfl (by rw [ev145, ic_1]) (by decide) rfl (fun ls hl => ?_)
    refine lv_goto (tgt := 8) hx hb d_LineBreaker_solveFrom_148 rfl ?_
    exact hk8 y2 y4 v145 I (upd2 (upd2 A 26 (y2.toNatClampNeg) y6) 27 (y2.toNatClampNeg) y7) _ _ _ h hP hS (lv_sub hl [1, 2, 3, 4, 0] rfl)
  have j89 : ∀ (k8 : Int32 → Int32 → Int32 → (Nat → Int32) → (Nat → Nat → Int32) → Prop) (hk8 : ∀ (y2 : Int32) (y4 : Int32) (y5 : Int32) (I : Nat → Int32) (A : Nat → Nat → Int32) (H : Heap) (locs : List Loc) (ls : Array Slot), k8 y2 y4 y5 I A → va_P D cls (wC cA a I A) H → va_S (AC a s.heap.size) s.heap H locs → lv_has ls 9 [(0, .ref (a 25)), (1, .ref (a 3)), (2, .int y2), (4, .int y4), (5, .int y5)] → W p l e (headSpec w_LineBreaker_solveFrom ({ frames := 0, cells := 0, slots := 0, locals := 0 })).room s m [.ref (a 25), .ref (a 3), .int x1, .int x2].toArray below meth c H locs 0 0 (MQ below (va_Qv (fun (u : StW) => post u.1 u.2) (EndC D cA a) (AC a s.heap.size)) [.ref (a 25), .ref (a 3), .int x1, .int x2].toArray s 0 0 (AC a s.heap.size)) (F0 m 8 ls [])), ∀ (y2 : Int32) (y4 : Int32) (y5 : Int32) (y6 : Int32) (y7 : Int32) (s0 : Int32) (I : Nat → Int32) (A : Nat → Nat → Int32) (H : Heap) (locs : List Loc) (ls : Array Slot), wp_LineBreaker_solveFrom_89 k8 post y2 y4 y5 y6 y7 s0 I A → va_P D cls (wC cA a I A) H → va_S (AC a s.heap.size) s.heap H locs → lv_has ls 9 [(0, .ref (a 25)), (1, .ref (a 3)), (2, .int y2), (4, .int y4), (5, .int y5), (6, .int y6), (7, .int y7)] → W p l e (headSpec w_LineBreaker_solveFrom ({ frames := 0, cells := 0, slots := 0, locals := 0 })).room s m [.ref (a 25), .ref (a 3), .int x1, .int x2].toArray below meth c H locs 0 0 (MQ below (va_Qv (fun (u : StW) => post u.1 u.2) (EndC D cA a) (AC a s.heap.size)) [.ref (a 25), .ref (a 3), .int x1, .int x2].toArray s 0 0 (AC a s.heap.size)) (F0 m 89 ls [.int s0]) := by
    intro k8 hk8
    intro y2 y4 y5 y6 y7 s0 I A H locs ls h hP hS hl
    unfold wp_LineBreaker_solveFrom_89 at h
    refine lv_istore (lv' := [(8, .int s0), (0, .ref (a 25)), (1, .ref (a 3)), (2, .int y2), (4, .int y4), (5, .int y5), (6, .int y6), (7, .int y7)]) hx hb d_LineBreaker_solveFrom_89 hl (by decide) rfl (fun ls hl => ?_)
    refine lv_iload hx hb d_LineBreaker_solveFrom_91 (lv_at hl 0 rfl) ?_
    refine lv_if_ne (tgt := 129) hx hb d_LineBreaker_solveFrom_93 rfl (fun q => ?_) (fun q => ?_)
    · have h := h.2 q
      exact (j129 _ hk8) y2 y4 y5 y6 y7 I A _ _ _ h hP hS (lv_sub hl [1, 2, 3, 4, 5, 6, 7] rfl)
    · have h := h.1 q
      refine lv_iload hx hb d_LineBreaker_solveFrom_96 (lv_at hl 6 rfl) ?_
      refine lv_aload_n hx hb d_LineBreaker_solveFrom_98 rfl (lv_at hl 1 rfl) ?_
      refine gC_LineBreaker_leastBadness hx hb hw hown hK hP (hw _ m_LineBreaker_9) d_LineBreaker_solveFrom_99 ?_
      refine lv_iload_n hx hb d_LineBreaker_solveFrom_102 rfl (lv_at hl 3 rfl) ?_
      obtain ⟨hin, h⟩ := h
      refine lC26 hx hb hK hP hin d_LineBreaker_solveFrom_103 ?_
      refine lv_icmp_lt (tgt := 129) hx hb d_LineBreaker_solveFrom_104 rfl (fun q => ?_) (fun q => ?_)
      · have h := h.1 q
        exact (j129 _ hk8) y2 y4 y5 y6 y7 I A _ _ _ h hP hS (lv_sub hl [1, 2, 3, 4, 5, 6, 7] rfl)
      · have h := h.2 q
        refine lv_iload hx hb d_LineBreaker_solveFrom_107 (lv_at hl 6 rfl) ?_
        refine lv_aload_n hx hb d_LineBreaker_solveFrom_109 rfl (lv_at hl 1 rfl) ?_
        refine gC_LineBreaker_leastBadness hx hb hw hown hK hP (hw _ m_LineBreaker_9) d_LineBreaker_solveFrom_110 ?_
        refine lv_iload_n hx hb d_LineBreaker_solveFrom_113 rfl (lv_at hl 3 rfl) ?_
        obtain ⟨hin, h⟩ := h
        refine lC26 hx hb hK hP hin d_LineBreaker_solveFrom_114 ?_
        refine lv_icmp_ne (tgt := 145) hx hb d_LineBreaker_solveFrom_115 rfl (fun q => ?_) (fun q => ?_)
        · have h := h.2 q
          obtain ⟨v145, ev145⟩ : ∃ z : Int32, z = y5 + 1 := ⟨_, rfl⟩
          have h := h v145 ev145
          refine lv_iinc (k := 5) (v := v145) (lv' := [(5, .int v145), (8, .int s0), (0, .ref (a 25)), (1, .ref (a 3)), (2, .int y2), (4, .int y4), (6, .int y6), (7, .int y7)]) hx hb d_LineBreaker_solveFrom_145 hl rfl (by rw [ev145, ic_1]) (by decide) rfl (fun ls hl => ?_)
          refine lv_goto (tgt := 8) hx hb d_LineBreaker_solveFrom_148 rfl ?_
          exact hk8 y2 y4 v145 I A _ _ _ h hP hS (lv_sub hl [2, 3, 4, 5, 0] rfl)
        · have h := h.1 q
          refine lv_iload hx hb d_LineBreaker_solveFrom_118 (lv_at hl 7 rfl) ?_
          refine lv_aload_n hx hb d_LineBreaker_solveFrom_120 rfl (lv_at hl 1 rfl) ?_
          refine gC_LineBreaker_fewestLines hx hb hw hown hK hP (hw _ m_LineBreaker_15) d_LineBreaker_solveFrom_121 ?_
          refine lv_iload_n hx hb d_LineBreaker_solveFrom_124 rfl (lv_at hl 3 rfl) ?_
          obtain ⟨hin, h⟩ := h
          refine lC27 hx hb hK hP hin d_LineBreaker_solveFrom_125 ?_
          refine lv_icmp_ge (tgt := 145) hx hb d_LineBreaker_solveFrom_126 rfl (fun q => ?_) (fun q => ?_)
          · have h := h.1 q
            obtain ⟨v145, ev145⟩ : ∃ z : Int32, z = y5 + 1 := ⟨_, rfl⟩
            have h := h v145 ev145
            refine lv_iinc (k := 5) (v := v145) (lv' := [(5, .int v145), (8, .int s0), (0, .ref (a 25)), (1, .ref (a 3)), (2, .int y2), (4, .int y4), (6, .int y6), (7, .int y7)]) hx hb d_LineBreaker_solveFrom_145 hl rfl (by rw [ev145, ic_1]) (by decide) rfl (fun ls hl => ?_)
            refine lv_goto (tgt := 8) hx hb d_LineBreaker_solveFrom_148 rfl ?_
            exact hk8 y2 y4 v145 I A _ _ _ h hP hS (lv_sub hl [2, 3, 4, 5, 0] rfl)
          · have h := h.2 q
            exact (j129 _ hk8) y2 y4 y5 y6 y7 I A _ _ _ h hP hS (lv_sub hl [1, 2, 3, 4, 5, 6, 7] rfl)
  have j62 : ∀ (k8 : Int32 → Int32 → Int32 → (Nat → Int32) → (Nat → Nat → Int32) → Prop) (hk8 : ∀ (y2 : Int32) (y4 : Int32) (y5 : Int32) (I : Nat → Int32) (A : Nat → Nat → Int32) (H : Heap) (locs : List Loc) (ls : Array Slot), k8 y2 y4 y5 I A → va_P D cls (wC cA a I A) H → va_S (AC a s.heap.size) s.heap H locs → lv_has ls 9 [(0, .ref (a 25)), (1, .ref (a 3)), (2, .int y2), (4, .int y4), (5, .int y5)] → W p l e (headSpec w_LineBreaker_solveFrom ({ frames := 0, cells := 0, slots := 0, locals := 0 })).room s m [.ref (a 25), .ref (a 3), .int x1, .int x2].toArray below meth c H locs 0 0 (MQ below (va_Qv (fun (u : StW) => post u.1 u.2) (EndC D cA a) (AC a s.heap.size)) [.ref (a 25), .ref (a 3), .int x1, .int x2].toArray s 0 0 (AC a s.heap.size)) (F0 m 8 ls [])), ∀ (y2 : Int32) (y4 : Int32) (y5 : Int32) (s0 : Int32) (s1 : Int32) (I : Nat → Int32) (A : Nat → Nat → Int32) (H : Heap) (locs : List Loc) (ls : Array Slot), wp_LineBreaker_solveFrom_62 k8 post y2 y4 y5 s0 s1 I A → va_P D cls (wC cA a I A) H → va_S (AC a s.heap.size) s.heap H locs → lv_has ls 9 [(0, .ref (a 25)), (1, .ref (a 3)), (2, .int y2), (4, .int y4), (5, .int y5)] → W p l e (headSpec w_LineBreaker_solveFrom ({ frames := 0, cells := 0, slots := 0, locals := 0 })).room s m [.ref (a 25), .ref (a 3), .int x1, .int x2].toArray below meth c H locs 0 0 (MQ below (va_Qv (fun (u : StW) => post u.1 u.2) (EndC D cA a) (AC a s.heap.size)) [.ref (a 25), .ref (a 3), .int x1, .int x2].toArray s 0 0 (AC a s.heap.size)) (F0 m 62 ls [.int s0, .int s1]) := by
    intro k8 hk8
    intro y2 y4 y5 s0 s1 I A H locs ls h hP hS hl
    unfold wp_LineBreaker_solveFrom_62 at h
    refine lv_iadd hx hb d_LineBreaker_solveFrom_62 ?_
    refine lv_topi (fun v63 ev63 => ?_)
    have h := h v63 ev63
    refine lv_istore (lv' := [(6, .int v63), (0, .ref (a 25)), (1, .ref (a 3)), (2, .int y2), (4, .int y4), (5, .int y5)]) hx hb d_LineBreaker_solveFrom_63 hl (by decide) rfl (fun ls hl => ?_)
    refine lv_iconst (v := 1) hx hb d_LineBreaker_solveFrom_65 ic_1 ?_
    refine lv_aload_n hx hb d_LineBreaker_solveFrom_66 rfl (lv_at hl 1 rfl) ?_
    refine gC_LineBreaker_fewestLines hx hb hw hown hK hP (hw _ m_LineBreaker_15) d_LineBreaker_solveFrom_67 ?_
    refine lv_iload hx hb d_LineBreaker_solveFrom_70 (lv_at hl 5 rfl) ?_
    obtain ⟨hin, h⟩ := h
    refine lC27 hx hb hK hP hin d_LineBreaker_solveFrom_72 ?_
    refine lv_iadd hx hb d_LineBreaker_solveFrom_73 ?_
    refine lv_topi (fun v74 ev74 => ?_)
    have h := h v74 ev74
    refine lv_istore (lv' := [(7, .int v74), (6, .int v63), (0, .ref (a 25)), (1, .ref (a 3)), (2, .int y2), (4, .int y4), (5, .int y5)]) hx hb d_LineBreaker_solveFrom_74 hl (by decide) rfl (fun ls hl => ?_)
    refine lv_iload hx hb d_LineBreaker_solveFrom_76 (lv_at hl 6 rfl) ?_
    refine lv_iload_n hx hb d_LineBreaker_solveFrom_78 rfl (lv_at hl 4 rfl) ?_
    refine lv_iconst (v := 1) hx hb d_LineBreaker_solveFrom_79 ic_1 ?_
    refine lv_iadd hx hb d_LineBreaker_solveFrom_80 ?_
    refine lv_icmp_ne (tgt := 88) hx hb d_LineBreaker_solveFrom_81 rfl (fun q => ?_) (fun q => ?_)
    · have h := h.2 q
      refine lv_iconst (v := 0) hx hb d_LineBreaker_solveFrom_88 ic_0 ?_
      exact (j89 _ hk8) y2 y4 y5 v63 v74 0 I A _ _ _ h hP hS (lv_sub hl [2, 3, 4, 5, 6, 1, 0] rfl)
    · have h := h.1 q
      refine lv_iconst (v := 1) hx hb d_LineBreaker_solveFrom_84 ic_1 ?_
      refine lv_goto (tgt := 89) hx hb d_LineBreaker_solveFrom_85 rfl ?_
      exact (j89 _ hk8) y2 y4 y5 v63 v74 1 I A _ _ _ h hP hS (lv_sub hl [2, 3, 4, 5, 6, 1, 0] rfl)
  have j8 : ∀ n : Nat, ∀ (y2 : Int32) (y4 : Int32) (y5 : Int32) (I : Nat → Int32) (A : Nat → Nat → Int32) (H : Heap) (locs : List Loc) (ls : Array Slot), wp_LineBreaker_solveFrom_8 post n y2 y4 y5 I A → va_P D cls (wC cA a I A) H → va_S (AC a s.heap.size) s.heap H locs → lv_has ls 9 [(0, .ref (a 25)), (1, .ref (a 3)), (2, .int y2), (4, .int y4), (5, .int y5)] → W p l e (headSpec w_LineBreaker_solveFrom ({ frames := 0, cells := 0, slots := 0, locals := 0 })).room s m [.ref (a 25), .ref (a 3), .int x1, .int x2].toArray below meth c H locs 0 0 (MQ below (va_Qv (fun (u : StW) => post u.1 u.2) (EndC D cA a) (AC a s.heap.size)) [.ref (a 25), .ref (a 3), .int x1, .int x2].toArray s 0 0 (AC a s.heap.size)) (F0 m 8 ls []) := by
    intro n
    induction n with
    | zero =>
      intro y2 y4 y5 I A H locs ls h hP hS hl
      exact False.elim h
    | succ n ih =>
      intro y2 y4 y5 I A H locs ls h hP hS hl
      unfold wp_LineBreaker_solveFrom_8 at h
      refine lv_iload hx hb d_LineBreaker_solveFrom_8 (lv_at hl 4 rfl) ?_
      refine lv_aload_n hx hb d_LineBreaker_solveFrom_10 rfl (lv_at hl 1 rfl) ?_
      refine gC_Tune_barCount hx hb hw hown hK hP (hw _ m_LineBreaker_18) d_LineBreaker_solveFrom_11 ?_
      refine lv_icmp_gt (tgt := 151) hx hb d_LineBreaker_solveFrom_14 rfl (fun q => ?_) (fun q => ?_)
      · have h := h.1 q
        exact W.vret hx hb hr (fun t ht hW => ⟨⟨(I, A), rfl, h, endC_of ht hP⟩, hS.F ht⟩) hS.2.2 d_LineBreaker_solveFrom_151
      · have h := h.2 q
        refine lv_iload hx hb d_LineBreaker_solveFrom_17 (lv_at hl 3 rfl) ?_
        refine lv_aload_n hx hb d_LineBreaker_solveFrom_19 rfl (lv_at hl 1 rfl) ?_
        refine gC_Tune_barWidth hx hb hw hown hK hP (hw _ m_LineBreaker_24) d_LineBreaker_solveFrom_20 ?_
        refine lv_iload hx hb d_LineBreaker_solveFrom_23 (lv_at hl 4 rfl) ?_
        refine lv_iconst (v := 1) hx hb d_LineBreaker_solveFrom_25 ic_1 ?_
        refine lv_isub hx hb d_LineBreaker_solveFrom_26 ?_
        obtain ⟨hin, h⟩ := h
        refine lC7 hx hb hK hP hin d_LineBreaker_solveFrom_27 ?_
        refine lv_isub hx hb d_LineBreaker_solveFrom_28 ?_
        refine lv_topi (fun v29 ev29 => ?_)
        have h := h v29 ev29
        refine lv_istore (lv' := [(4, .int v29), (0, .ref (a 25)), (1, .ref (a 3)), (2, .int y2), (5, .int y5)]) hx hb d_LineBreaker_solveFrom_29 hl (by decide) rfl (fun ls hl => ?_)
        refine lv_iload hx hb d_LineBreaker_solveFrom_31 (lv_at hl 0 rfl) ?_
        refine lv_if_ge (tgt := 37) hx hb d_LineBreaker_solveFrom_33 rfl (fun q => ?_) (fun q => ?_)
        · have h := h.1 q
          refine lv_aload_n hx hb d_LineBreaker_solveFrom_37 rfl (lv_at hl 1 rfl) ?_
          refine gC_LineBreaker_leastBadness hx hb hw hown hK hP (hw _ m_LineBreaker_9) d_LineBreaker_solveFrom_38 ?_
          refine lv_iload hx hb d_LineBreaker_solveFrom_41 (lv_at hl 4 rfl) ?_
          obtain ⟨hin, h⟩ := h
          refine lC26 hx hb hK hP hin d_LineBreaker_solveFrom_43 ?_
          refine lv_iload hx hb d_LineBreaker_solveFrom_44 (lv_at hl 4 rfl) ?_
          refine lv_aload_n hx hb d_LineBreaker_solveFrom_46 rfl (lv_at hl 2 rfl) ?_
          refine gC_Tune_barCount hx hb hw hown hK hP (hw _ m_LineBreaker_18) d_LineBreaker_solveFrom_47 ?_
          refine lv_icmp_ne (tgt := 57) hx hb d_LineBreaker_solveFrom_50 rfl (fun q => ?_) (fun q => ?_)
          · have h := h.2 q
            refine lv_iload hx hb d_LineBreaker_solveFrom_57 (lv_at hl 0 rfl) ?_
            refine lv_iload hx hb d_LineBreaker_solveFrom_59 (lv_at hl 0 rfl) ?_
            refine lv_imul hx hb d_LineBreaker_solveFrom_61 ?_
            exact (j62 _ ih) y2 v29 y5 (v29 * v29) (A 26 (y5.toNatClampNeg)) I A _ _ _ h hP hS (lv_sub hl [1, 2, 3, 0, 4] rfl)
          · have h := h.1 q
            refine lv_iconst (v := 0) hx hb d_LineBreaker_solveFrom_53 ic_0 ?_
            refine lv_goto (tgt := 62) hx hb d_LineBreaker_solveFrom_54 rfl ?_
            exact (j62 _ ih) y2 v29 y5 0 (A 26 (y5.toNatClampNeg)) I A _ _ _ h hP hS (lv_sub hl [1, 2, 3, 0, 4] rfl)
        · have h := h.2 q
          exact W.vret hx hb hr (fun t ht hW => ⟨⟨(I, A), rfl, h, endC_of ht hP⟩, hS.F ht⟩) hS.2.2 d_LineBreaker_solveFrom_36
  have hl := lv_entry ([.ref (a 25), .ref (a 3), .int x1, .int x2]) (n := 9) (Nat.le_of_ble_eq_true rfl)
  rw [lg_entry_eq]
  generalize (lg_sl ([.ref (a 25), .ref (a 3), .int x1, .int x2]) ++ List.replicate (9 - (lg_sl ([.ref (a 25), .ref (a 3), .int x1, .int x2])).length) Slot.unset).toArray = ls at hl ⊢
  have hl : lv_has ls 9 [(0, .ref (a 25)), (1, .ref (a 3)), (2, .int x1), (3, .int x2)] := hl
  unfold wp_LineBreaker_solveFrom at h
  refine lv_iload_n hx hb d_LineBreaker_solveFrom_0 rfl (lv_at hl 3 rfl) ?_
  refine lv_istore (lv' := [(4, .int x2), (0, .ref (a 25)), (1, .ref (a 3)), (2, .int x1), (3, .int x2)]) hx hb d_LineBreaker_solveFrom_1 hl (by decide) rfl (fun ls hl => ?_)
  refine lv_iload_n hx hb d_LineBreaker_solveFrom_3 rfl (lv_at hl 3 rfl) ?_
  refine lv_iconst (v := 1) hx hb d_LineBreaker_solveFrom_4 ic_1 ?_
  refine lv_iadd hx hb d_LineBreaker_solveFrom_5 ?_
  refine lv_topi (fun v6 ev6 => ?_)
  have h := h v6 ev6
  refine lv_istore (lv' := [(5, .int v6), (4, .int x2), (0, .ref (a 25)), (1, .ref (a 3)), (2, .int x1), (3, .int x2)]) hx hb d_LineBreaker_solveFrom_6 hl (by decide) rfl (fun ls hl => ?_)
  obtain ⟨n8, h⟩ := h
  exact j8 n8 x1 x2 v6 I A _ _ _ h hP hS (lv_sub hl [2, 3, 4, 1, 0] rfl)
theorem k_LineBreaker_solveFrom {p : Program} {l : Launch} {e : Env} {R : Room} {s : State} {m : MethodId} {args : Array Value} {below : List Frame} {meth : Method} {c : Code} {H : Heap} {locs : List Loc} {cells slots : Nat} {Q : State → Prop} {cc : ByteArray} {pc nL idx : Nat} {own : String} {ls : Array Slot} {D : va_G} {cA a : Nat → Nat} {AA : Nat → Prop} {I : Nat → Int32} {A : Nat → Nat → Int32} {post : (Nat → Int32) → (Nat → Nat → Int32) → Prop} (x1 : Int32) (x2 : Int32) {rest : List Value} (S : CallFix p m c cc nL s args WALL own) (hK : KC D cA a AA s) (hD : ∀ I A, va_D AA (wC cA a I A)) (hA : ∀ q : Nat, s.heap.size ≤ q → AA q) (hS : va_S AA s.heap H locs) (hP : va_P D cls (wC cA a I A) H) (hl1 : ls.size = nL) (hlink : (Cond.methodLink own idx y_LineBreaker_solveFrom).before args s = true) (hst : (rest.map fun v => v.category).sum ≤ 8) (hR : ({ frames := 0, cells := 0, slots := 0, locals := 0 } : Room).frames + 1 ≤ R.frames ∧ 8 + (9 + 11) + ({ frames := 0, cells := 0, slots := 0, locals := 0 } : Room).locals ≤ R.locals) (hcs : cells ≤ R.cells ∧ slots ≤ R.slots) (hdg : decode cc pc = .ok (.invokevirtual idx, 3)) (h : wp_LineBreaker_solveFrom x1 x2 I A post) (kk : ∀ (I1 : Nat → Int32) (A1 : Nat → Nat → Int32) (H1 : Heap) (locs1 : List Loc), post I1 A1 → va_P D cls (wC cA a I1 A1) H1 → va_S AA s.heap H1 locs1 → W p l e R s m args below meth c H1 locs1 cells slots Q (F0 m (pc + 3) ls rest)) : W p l e R s m args below meth c H locs cells slots Q (F0 m pc ls (.int x2 :: .int x1 :: .ref (a 3) :: .ref (a 25) :: rest)) :=
  va_callv (va_runV (As := [.ref (a 3), .int x1, .int x2]) (rest := rest) S (c_LineBreaker_solveFrom l D cA a H.size x1 x2 I A post h) ⟨callB_of 3 S.2.2.2.2 g_LineBreaker_solveFrom rfl rfl rfl (S.2.2.2.2 _ mi_LineBreaker) hlink ⟨by decide, by decide, by decide +kernel⟩ hR, S.2.2.2.2 _ mn_LineBreaker_solveFrom, S.2.2.2.2 _ ms_LineBreaker_solveFrom⟩ (preCV hK hD hA hS hP 25 rfl rfl) rfl rfl hl1 rfl (lv_room hst) hdg hcs) hS (fun q _ z => AC_le hD hA hS q z) (fun q z => AC_le hD hA hS q z) (fun u t H1 locs1 ht _ hp hB _ _ hS1 => kk u.1 u.2 H1 locs1 hp (of_endC ht hB) hS1)
def wp_LineBreaker_solve_27 (post : Int32 → (Nat → Int32) → (Nat → Nat → Int32) → Prop) : Nat → Int32 → Int32 → (Nat → Int32) → (Nat → Nat → Int32) → Prop
  | 0, _, _, _, _ => False
  | n + 1, y2, y3, I, A => ((y3 < 0 → post 1 I A) ∧ (¬ y3 < 0 → (vp_in y3 8 ∧ (((A 7 (y3.toNatClampNeg)) ≤ y2 → (wp_LineBreaker_solveFrom y3 y2 I A (fun I47 A47 => (∀ v50 : Int32, v50 = y3 + (-1) → wp_LineBreaker_solve_27 post n y2 v50 I47 A47)))) ∧ (¬ (A 7 (y3.toNatClampNeg)) ≤ y2 → post 0 I A)))))
def wp_LineBreaker_solve (x1 : Int32) (I : Nat → Int32) (A : Nat → Nat → Int32) (post : Int32 → (Nat → Int32) → (Nat → Nat → Int32) → Prop) : Prop := (vp_in (I 0) 9 ∧ (vp_in (I 0) 9 ∧ (∀ v26 : Int32, v26 = (I 0) - 1 → (∃ n27, wp_LineBreaker_solve_27 post n27 x1 v26 I (upd2 (upd2 A 26 ((I 0).toNatClampNeg) 0) 27 ((I 0).toNatClampNeg) 0)))))
theorem d_LineBreaker_solve_0 : decode b_LineBreaker_solve 0 = .ok (.aload_n 0, 1) := by decide +kernel
theorem d_LineBreaker_solve_1 : decode b_LineBreaker_solve 1 = .ok (.getfield 9, 3) := by decide +kernel
theorem d_LineBreaker_solve_4 : decode b_LineBreaker_solve 4 = .ok (.aload_n 1, 1) := by decide +kernel
theorem d_LineBreaker_solve_5 : decode b_LineBreaker_solve 5 = .ok (.getfield 18, 3) := by decide +kernel
theorem d_LineBreaker_solve_8 : decode b_LineBreaker_solve 8 = .ok (.iconst 0, 1) := by decide +kernel
theorem d_LineBreaker_solve_9 : decode b_LineBreaker_solve 9 = .ok (.iastore, 1) := by decide +kernel
theorem d_LineBreaker_solve_10 : decode b_LineBreaker_solve 10 = .ok (.aload_n 0, 1) := by decide +kernel
theorem d_LineBreaker_solve_11 : decode b_LineBreaker_solve 11 = .ok (.getfield 15, 3) := by decide +kernel
theorem d_LineBreaker_solve_14 : decode b_LineBreaker_solve 14 = .ok (.aload_n 1, 1) := by decide +kernel
theorem d_LineBreaker_solve_15 : decode b_LineBreaker_solve 15 = .ok (.getfield 18, 3) := by decide +kernel
theorem d_LineBreaker_solve_18 : decode b_LineBreaker_solve 18 = .ok (.iconst 0, 1) := by decide +kernel
theorem d_LineBreaker_solve_19 : decode b_LineBreaker_solve 19 = .ok (.iastore, 1) := by decide +kernel
theorem d_LineBreaker_solve_20 : decode b_LineBreaker_solve 20 = .ok (.aload_n 1, 1) := by decide +kernel
theorem d_LineBreaker_solve_21 : decode b_LineBreaker_solve 21 = .ok (.getfield 18, 3) := by decide +kernel
theorem d_LineBreaker_solve_24 : decode b_LineBreaker_solve 24 = .ok (.iconst 1, 1) := by decide +kernel
theorem d_LineBreaker_solve_25 : decode b_LineBreaker_solve 25 = .ok (.isub, 1) := by decide +kernel
theorem d_LineBreaker_solve_26 : decode b_LineBreaker_solve 26 = .ok (.istore_n 3, 1) := by decide +kernel
theorem d_LineBreaker_solve_27 : decode b_LineBreaker_solve 27 = .ok (.iload_n 3, 1) := by decide +kernel
theorem d_LineBreaker_solve_28 : decode b_LineBreaker_solve 28 = .ok (.ifCond .lt 28, 3) := by decide +kernel
theorem d_LineBreaker_solve_31 : decode b_LineBreaker_solve 31 = .ok (.aload_n 1, 1) := by decide +kernel
theorem d_LineBreaker_solve_32 : decode b_LineBreaker_solve 32 = .ok (.getfield 24, 3) := by decide +kernel
theorem d_LineBreaker_solve_35 : decode b_LineBreaker_solve 35 = .ok (.iload_n 3, 1) := by decide +kernel
theorem d_LineBreaker_solve_36 : decode b_LineBreaker_solve 36 = .ok (.iaload, 1) := by decide +kernel
theorem d_LineBreaker_solve_37 : decode b_LineBreaker_solve 37 = .ok (.iload_n 2, 1) := by decide +kernel
theorem d_LineBreaker_solve_38 : decode b_LineBreaker_solve 38 = .ok (.if_icmp .le 5, 3) := by decide +kernel
theorem d_LineBreaker_solve_41 : decode b_LineBreaker_solve 41 = .ok (.iconst 0, 1) := by decide +kernel
theorem d_LineBreaker_solve_42 : decode b_LineBreaker_solve 42 = .ok (.ireturn, 1) := by decide +kernel
theorem d_LineBreaker_solve_43 : decode b_LineBreaker_solve 43 = .ok (.aload_n 0, 1) := by decide +kernel
theorem d_LineBreaker_solve_44 : decode b_LineBreaker_solve 44 = .ok (.aload_n 1, 1) := by decide +kernel
theorem d_LineBreaker_solve_45 : decode b_LineBreaker_solve 45 = .ok (.iload_n 3, 1) := by decide +kernel
theorem d_LineBreaker_solve_46 : decode b_LineBreaker_solve 46 = .ok (.iload_n 2, 1) := by decide +kernel
theorem d_LineBreaker_solve_47 : decode b_LineBreaker_solve 47 = .ok (.invokevirtual 27, 3) := by decide +kernel
theorem d_LineBreaker_solve_50 : decode b_LineBreaker_solve 50 = .ok (.iinc 3 (-1), 3) := by decide +kernel
theorem d_LineBreaker_solve_53 : decode b_LineBreaker_solve 53 = .ok (.goto (-26), 3) := by decide +kernel
theorem d_LineBreaker_solve_56 : decode b_LineBreaker_solve 56 = .ok (.iconst 1, 1) := by decide +kernel
theorem d_LineBreaker_solve_57 : decode b_LineBreaker_solve 57 = .ok (.ireturn, 1) := by decide +kernel
def w_LineBreaker_solve : List Cond := .code y_LineBreaker_solve b_LineBreaker_solve 4 (some .boolean) :: WALL
theorem g_LineBreaker_solve : GoodIn WALL w_LineBreaker_solve := good_of mc_LineBreaker_solve
set_option maxHeartbeats 4000000 in
set_option maxRecDepth 100000 in
theorem c_LineBreaker_solve (l : Launch) (D : va_G) (cA a : Nat → Nat) (sz : Nat) (x1 : Int32) (I : Nat → Int32) (A : Nat → Nat → Int32) (post : Int32 → (Nat → Int32) → (Nat → Nat → Int32) → Prop) (h : wp_LineBreaker_solve x1 I A post) : Met l y_LineBreaker_solve w_LineBreaker_solve ({ frames := 1, cells := 0, slots := 0, locals := 28 }) (va_Pc [.ref (a 25), .ref (a 3), .int x1] (PreC D cA a I A sz)) (va_Qi (fun r (u : StW) => post r u.1 u.2) (EndC D cA a) (AC a sz)) 0 0 (AC a sz) := by
  refine Met.ofW (cc := b_LineBreaker_solve) (maxL := 4) (ret := (some .boolean)) (by decide) rfl ?_
  intro p e s m args below meth c s₁ B hml hv
  obtain ⟨rfl, hsz, hP, hK, hD0⟩ := hv
  have hx := B.exec
  have hb := B.bytes
  have hr := B.returns
  have hts := atoms_spec (ws := w_LineBreaker_solve) B.pre
  have hw := wall_of hts
  have hown : s.vm.findClass R_LineBreaker = some m.cls := findClass_of_methodNamed B.named
  have hlocks := B.notSynchronized
  subst hsz
  have hD := hDC (sz := s.heap.size) hD0
  have hA : ∀ q : Nat, s.heap.size ≤ q → AC a s.heap.size q := fun q h => Or.inr h
  have hS : va_S (AC a s.heap.size) s.heap s.heap [] := va_S.rf
  have j27 : ∀ n : Nat, ∀ (y2 : Int32) (y3 : Int32) (I : Nat → Int32) (A : Nat → Nat → Int32) (H : Heap) (locs : List Loc) (ls : Array Slot), wp_LineBreaker_solve_27 post n y2 y3 I A → va_P D cls (wC cA a I A) H → va_S (AC a s.heap.size) s.heap H locs → lv_has ls 4 [(0, .ref (a 25)), (1, .ref (a 3)), (2, .int y2), (3, .int y3)] → W p l e (headSpec w_LineBreaker_solve ({ frames := 1, cells := 0, slots := 0, locals := 28 })).room s m [.ref (a 25), .ref (a 3), .int x1].toArray below meth c H locs 0 0 (MQ below (va_Qi (fun r (u : StW) => post r u.1 u.2) (EndC D cA a) (AC a s.heap.size)) [.ref (a 25), .ref (a 3), .int x1].toArray s 0 0 (AC a s.heap.size)) (F0 m 27 ls []) := by
    intro n
    induction n with
    | zero =>
      intro y2 y3 I A H locs ls h hP hS hl
      exact False.elim h
    | succ n ih =>
      intro y2 y3 I A H locs ls h hP hS hl
      unfold wp_LineBreaker_solve_27 at h
      refine lv_iload_n hx hb d_LineBreaker_solve_27 rfl (lv_at hl 3 rfl) ?_
      refine lv_if_lt (tgt := 56) hx hb d_LineBreaker_solve_28 rfl (fun q => ?_) (fun q => ?_)
      · have h := h.1 q
        refine lv_iconst (v := 1) hx hb d_LineBreaker_solve_56 ic_1 ?_
        exact W.zret hx hb hr (vz_n vz1) (fun t ht hW => ⟨⟨_, (I, A), rfl, h, endC_of ht hP⟩, hS.F ht⟩) hS.2.2 d_LineBreaker_solve_57
      · have h := h.2 q
        refine lv_aload_n hx hb d_LineBreaker_solve_31 rfl (lv_at hl 1 rfl) ?_
        refine gC_Tune_barWidth hx hb hw hown hK hP (hw _ m_LineBreaker_24) d_LineBreaker_solve_32 ?_
        refine lv_iload_n hx hb d_LineBreaker_solve_35 rfl (lv_at hl 3 rfl) ?_
        obtain ⟨hin, h⟩ := h
        refine lC7 hx hb hK hP hin d_LineBreaker_solve_36 ?_
        refine lv_iload_n hx hb d_LineBreaker_solve_37 rfl (lv_at hl 2 rfl) ?_
        refine lv_icmp_le (tgt := 43) hx hb d_LineBreaker_solve_38 rfl (fun q => ?_) (fun q => ?_)
        · have h := h.1 q
          refine lv_aload_n hx hb d_LineBreaker_solve_43 rfl (lv_at hl 0 rfl) ?_
          refine lv_aload_n hx hb d_LineBreaker_solve_44 rfl (lv_at hl 1 rfl) ?_
          refine lv_iload_n hx hb d_LineBreaker_solve_45 rfl (lv_at hl 3 rfl) ?_
          refine lv_iload_n hx hb d_LineBreaker_solve_46 rfl (lv_at hl 2 rfl) ?_
          refine k_LineBreaker_solveFrom y3 y2 (rest := []) ⟨hx, hb, hml, hown, hw⟩ hK hD hA hS hP hl.1 (hw _ m_LineBreaker_27) (Nat.le_of_ble_eq_true rfl) ⟨Nat.le_of_ble_eq_true rfl, Nat.le_of_ble_eq_true rfl⟩ ⟨Nat.zero_le _, Nat.zero_le _⟩ d_LineBreaker_solve_47 h (fun I47 A47 H locs h hP hS => ?_)
          obtain ⟨v50, ev50⟩ : ∃ z : Int32, z = y3 + (-1) := ⟨_, rfl⟩
          have h := h v50 ev50
          refine lv_iinc (k := 3) (v := v50) (lv' := [(3, .int v50), (0, .ref (a 25)), (1, .ref (a 3)), (2, .int y2)]) hx hb d_LineBreaker_solve_50 hl rfl (by rw [ev50, ic_m1]) (by decide) rfl (fun ls hl => ?_)
          refine lv_goto (tgt := 27) hx hb d_LineBreaker_solve_53 rfl ?_
          exact ih y2 v50 I47 A47 _ _ _ h hP hS (lv_sub hl [1, 2, 3, 0] rfl)
        · have h := h.2 q
          refine lv_iconst (v := 0) hx hb d_LineBreaker_solve_41 ic_0 ?_
          exact W.zret hx hb hr (vz_n vz0) (fun t ht hW => ⟨⟨_, (I, A), rfl, h, endC_of ht hP⟩, hS.F ht⟩) hS.2.2 d_LineBreaker_solve_42
  have hl := lv_entry ([.ref (a 25), .ref (a 3), .int x1]) (n := 4) (Nat.le_of_ble_eq_true rfl)
  rw [lg_entry_eq]
  generalize (lg_sl ([.ref (a 25), .ref (a 3), .int x1]) ++ List.replicate (4 - (lg_sl ([.ref (a 25), .ref (a 3), .int x1])).length) Slot.unset).toArray = ls at hl ⊢
  have hl : lv_has ls 4 [(0, .ref (a 25)), (1, .ref (a 3)), (2, .int x1)] := hl
  unfold wp_LineBreaker_solve at h
  refine lv_aload_n hx hb d_LineBreaker_solve_0 rfl (lv_at hl 0 rfl) ?_
  refine gC_LineBreaker_leastBadness hx hb hw hown hK hP (hw _ m_LineBreaker_9) d_LineBreaker_solve_1 ?_
  refine lv_aload_n hx hb d_LineBreaker_solve_4 rfl (lv_at hl 1 rfl) ?_
  refine gC_Tune_barCount hx hb hw hown hK hP (hw _ m_LineBreaker_18) d_LineBreaker_solve_5 ?_
  refine lv_iconst (v := 0) hx hb d_LineBreaker_solve_8 ic_0 ?_
  obtain ⟨hin, h⟩ := h
  refine sC26 hx hb hK hD hS hP hin d_LineBreaker_solve_9 (fun H locs hP hS => ?_)
  refine lv_aload_n hx hb d_LineBreaker_solve_10 rfl (lv_at hl 0 rfl) ?_
  refine gC_LineBreaker_fewestLines hx hb hw hown hK hP (hw _ m_LineBreaker_15) d_LineBreaker_solve_11 ?_
  refine lv_aload_n hx hb d_LineBreaker_solve_14 rfl (lv_at hl 1 rfl) ?_
  refine gC_Tune_barCount hx hb hw hown hK hP (hw _ m_LineBreaker_18) d_LineBreaker_solve_15 ?_
  refine lv_iconst (v := 0) hx hb d_LineBreaker_solve_18 ic_0 ?_
  obtain ⟨hin, h⟩ := h
  refine sC27 hx hb hK hD hS hP hin d_LineBreaker_solve_19 (fun H locs hP hS => ?_)
  refine lv_aload_n hx hb d_LineBreaker_solve_20 rfl (lv_at hl 1 rfl) ?_
  refine gC_Tune_barCount hx hb hw hown hK hP (hw _ m_LineBreaker_18) d_LineBreaker_solve_21 ?_
  refine lv_iconst (v := 1) hx hb d_LineBreaker_solve_24 ic_1 ?_
  refine lv_isub hx hb d_LineBreaker_solve_25 ?_
  refine lv_topi (fun v26 ev26 => ?_)
  have h := h v26 ev26
  refine lv_istore_n (lv' := [(3, .int v26), (0, .ref (a 25)), (1, .ref (a 3)), (2, .int x1)]) hx hb d_LineBreaker_solve_26 rfl hl (by decide) rfl (fun ls hl => ?_)
  obtain ⟨n27, h⟩ := h
  exact j27 n27 x1 v26 I (upd2 (upd2 A 26 ((I 0).toNatClampNeg) 0) 27 ((I 0).toNatClampNeg) 0) _ _ _ h hP hS (lv_sub hl [1, 2, 3, 0] rfl)
theorem k_LineBreaker_solve {p : Program} {l : Launch} {e : Env} {R : Room} {s : State} {m : MethodId} {args : Array Value} {below : List Frame} {meth : Method} {c : Code} {H : Heap} {locs : List Loc} {cells slots : Nat} {Q : State → Prop} {cc : ByteArray} {pc nL idx : Nat} {own : String} {ls : Array Slot} {D : va_G} {cA a : Nat → Nat} {AA : Nat → Prop} {I : Nat → Int32} {A : Nat → Nat → Int32} {post : Int32 → (Nat → Int32) → (Nat → Nat → Int32) → Prop} (x1 : Int32) {rest : List Value} (S : CallFix p m c cc nL s args WALL own) (hK : KC D cA a AA s) (hD : ∀ I A, va_D AA (wC cA a I A)) (hA : ∀ q : Nat, s.heap.size ≤ q → AA q) (hS : va_S AA s.heap H locs) (hP : va_P D cls (wC cA a I A) H) (hl1 : ls.size = nL) (hlink : (Cond.methodLink own idx y_LineBreaker_solve).before args s = true) (hst : (rest.map fun v => v.category).sum ≤ 8) (hR : ({ frames := 1, cells := 0, slots := 0, locals := 28 } : Room).frames + 1 ≤ R.frames ∧ 8 + (4 + 11) + ({ frames := 1, cells := 0, slots := 0, locals := 28 } : Room).locals ≤ R.locals) (hcs : cells ≤ R.cells ∧ slots ≤ R.slots) (hdg : decode cc pc = .ok (.invokevirtual idx, 3)) (h : wp_LineBreaker_solve x1 I A post) (kk : ∀ (r : Int32) (I1 : Nat → Int32) (A1 : Nat → Nat → Int32) (H1 : Heap) (locs1 : List Loc), post r I1 A1 → va_P D cls (wC cA a I1 A1) H1 → va_S AA s.heap H1 locs1 → W p l e R s m args below meth c H1 locs1 cells slots Q (F0 m (pc + 3) ls (.int r :: rest))) : W p l e R s m args below meth c H locs cells slots Q (F0 m pc ls (.int x1 :: .ref (a 3) :: .ref (a 25) :: rest)) :=
  va_calli (va_runV (As := [.ref (a 3), .int x1]) (rest := rest) S (c_LineBreaker_solve l D cA a H.size x1 I A post h) ⟨callB_of 2 S.2.2.2.2 g_LineBreaker_solve rfl rfl rfl (S.2.2.2.2 _ mi_LineBreaker) hlink ⟨by decide, by decide, by decide +kernel⟩ hR, S.2.2.2.2 _ mn_LineBreaker_solve, S.2.2.2.2 _ ms_LineBreaker_solve⟩ (preCV hK hD hA hS hP 25 rfl rfl) rfl rfl hl1 rfl (lv_room hst) hdg hcs) hS (fun q _ z => AC_le hD hA hS q z) (fun q z => AC_le hD hA hS q z) (fun r u t H1 locs1 ht _ hp hB _ _ hS1 => kk r u.1 u.2 H1 locs1 hp (of_endC ht hB) hS1)
def wp_TuneSetter_canBreak (x1 : Int32) (I : Nat → Int32) (A : Nat → Nat → Int32) (post : Int32 → (Nat → Int32) → (Nat → Nat → Int32) → Prop) : Prop := (((I 34) = 0 → post 0 I A) ∧ (¬ (I 34) = 0 → ((x1 < 1 → post 0 I A) ∧ (¬ x1 < 1 → ((1000 < x1 → post 0 I A) ∧ (¬ 1000 < x1 → (wp_LineBreaker_solve x1 I A (fun r31 I31 A31 => ((r31 = 0 → post 0 I31 A31) ∧ (¬ r31 = 0 → post 1 I31 A31))))))))))
theorem d_TuneSetter_canBreak_0 : decode b_TuneSetter_canBreak 0 = .ok (.aload_n 0, 1) := by decide +kernel
theorem d_TuneSetter_canBreak_1 : decode b_TuneSetter_canBreak 1 = .ok (.getfield 87, 3) := by decide +kernel
theorem d_TuneSetter_canBreak_4 : decode b_TuneSetter_canBreak 4 = .ok (.ifCond .eq 37, 3) := by decide +kernel
theorem d_TuneSetter_canBreak_7 : decode b_TuneSetter_canBreak 7 = .ok (.iload_n 1, 1) := by decide +kernel
theorem d_TuneSetter_canBreak_8 : decode b_TuneSetter_canBreak 8 = .ok (.iconst 1, 1) := by decide +kernel
theorem d_TuneSetter_canBreak_9 : decode b_TuneSetter_canBreak 9 = .ok (.if_icmp .lt 32, 3) := by decide +kernel
theorem d_TuneSetter_canBreak_12 : decode b_TuneSetter_canBreak 12 = .ok (.iload_n 1, 1) := by decide +kernel
theorem d_TuneSetter_canBreak_13 : decode b_TuneSetter_canBreak 13 = .ok (.sipush 1000, 3) := by decide +kernel
theorem d_TuneSetter_canBreak_16 : decode b_TuneSetter_canBreak 16 = .ok (.if_icmp .gt 25, 3) := by decide +kernel
theorem d_TuneSetter_canBreak_19 : decode b_TuneSetter_canBreak 19 = .ok (.aload_n 0, 1) := by decide +kernel
theorem d_TuneSetter_canBreak_20 : decode b_TuneSetter_canBreak 20 = .ok (.getfield 37, 3) := by decide +kernel
theorem d_TuneSetter_canBreak_23 : decode b_TuneSetter_canBreak 23 = .ok (.aload_n 0, 1) := by decide +kernel
theorem d_TuneSetter_canBreak_24 : decode b_TuneSetter_canBreak 24 = .ok (.getfield 16, 3) := by decide +kernel
theorem d_TuneSetter_canBreak_27 : decode b_TuneSetter_canBreak 27 = .ok (.getfield 75, 3) := by decide +kernel
theorem d_TuneSetter_canBreak_30 : decode b_TuneSetter_canBreak 30 = .ok (.iload_n 1, 1) := by decide +kernel
theorem d_TuneSetter_canBreak_31 : decode b_TuneSetter_canBreak 31 = .ok (.invokevirtual 138, 3) := by decide +kernel
theorem d_TuneSetter_canBreak_34 : decode b_TuneSetter_canBreak 34 = .ok (.ifCond .eq 7, 3) := by decide +kernel
theorem d_TuneSetter_canBreak_37 : decode b_TuneSetter_canBreak 37 = .ok (.iconst 1, 1) := by decide +kernel
theorem d_TuneSetter_canBreak_38 : decode b_TuneSetter_canBreak 38 = .ok (.goto 4, 3) := by decide +kernel
theorem d_TuneSetter_canBreak_41 : decode b_TuneSetter_canBreak 41 = .ok (.iconst 0, 1) := by decide +kernel
theorem d_TuneSetter_canBreak_42 : decode b_TuneSetter_canBreak 42 = .ok (.ireturn, 1) := by decide +kernel
def w_TuneSetter_canBreak : List Cond := .code y_TuneSetter_canBreak b_TuneSetter_canBreak 2 (some .boolean) :: WALL
theorem g_TuneSetter_canBreak : GoodIn WALL w_TuneSetter_canBreak := good_of mc_TuneSetter_canBreak
set_option maxHeartbeats 4000000 in
set_option maxRecDepth 100000 in
theorem c_TuneSetter_canBreak (l : Launch) (D : va_G) (cA a : Nat → Nat) (sz : Nat) (x1 : Int32) (I : Nat → Int32) (A : Nat → Nat → Int32) (post : Int32 → (Nat → Int32) → (Nat → Nat → Int32) → Prop) (h : wp_TuneSetter_canBreak x1 I A post) : Met l y_TuneSetter_canBreak w_TuneSetter_canBreak ({ frames := 2, cells := 0, slots := 0, locals := 51 }) (va_Pc [.ref (a 0), .int x1] (PreC D cA a I A sz)) (va_Qi (fun r (u : StW) => post r u.1 u.2) (EndC D cA a) (AC a sz)) 0 0 (AC a sz) := by
  refine Met.ofW (cc := b_TuneSetter_canBreak) (maxL := 2) (ret := (some .boolean)) (by decide) rfl ?_
  intro p e s m args below meth c s₁ B hml hv
  obtain ⟨rfl, hsz, hP, hK, hD0⟩ := hv
  have hx := B.exec
  have hb := B.bytes
  have hr := B.returns
  have hts := atoms_spec (ws := w_TuneSetter_canBreak) B.pre
  have hw := wall_of hts
  have hown : s.vm.findClass R_TuneSetter = some m.cls := findClass_of_methodNamed B.named
  have hlocks := B.notSynchronized
  subst hsz
  have hD := hDC (sz := s.heap.size) hD0
  have hA : ∀ q : Nat, s.heap.size ≤ q → AC a s.heap.size q := fun q h => Or.inr h
  have hS : va_S (AC a s.heap.size) s.heap s.heap [] := va_S.rf
  have hl := lv_entry ([.ref (a 0), .int x1]) (n := 2) (Nat.le_of_ble_eq_true rfl)
  rw [lg_entry_eq]
  generalize (lg_sl ([.ref (a 0), .int x1]) ++ List.replicate (2 - (lg_sl ([.ref (a 0), .int x1])).length) Slot.unset).toArray = ls at hl ⊢
  have hl : lv_has ls 2 [(0, .ref (a 0)), (1, .int x1)] := hl
  unfold wp_TuneSetter_canBreak at h
  refine lv_aload_n hx hb d_TuneSetter_canBreak_0 rfl (lv_at hl 0 rfl) ?_
  refine gC_TuneSetter_hasTune hx hb hw hown hK hP (hw _ m_TuneSetter_87) d_TuneSetter_canBreak_1 ?_
  refine lv_if_eq (tgt := 41) hx hb d_TuneSetter_canBreak_4 rfl (fun q => ?_) (fun q => ?_)
  · have h := h.1 q
    refine lv_iconst (v := 0) hx hb d_TuneSetter_canBreak_41 ic_0 ?_
    exact W.zret hx hb hr (vz_n vz0) (fun t ht hW => ⟨⟨_, (I, A), rfl, h, endC_of ht hP⟩, hS.F ht⟩) hS.2.2 d_TuneSetter_canBreak_42
  · have h := h.2 q
    refine lv_iload_n hx hb d_TuneSetter_canBreak_7 rfl (lv_at hl 1 rfl) ?_
    refine lv_iconst (v := 1) hx hb d_TuneSetter_canBreak_8 ic_1 ?_
    refine lv_icmp_lt (tgt := 41) hx hb d_TuneSetter_canBreak_9 rfl (fun q => ?_) (fun q => ?_)
    · have h := h.1 q
      refine lv_iconst (v := 0) hx hb d_TuneSetter_canBreak_41 ic_0 ?_
      exact W.zret hx hb hr (vz_n vz0) (fun t ht hW => ⟨⟨_, (I, A), rfl, h, endC_of ht hP⟩, hS.F ht⟩) hS.2.2 d_TuneSetter_canBreak_42
    · have h := h.2 q
      refine lv_iload_n hx hb d_TuneSetter_canBreak_12 rfl (lv_at hl 1 rfl) ?_
      refine lv_sipush (v := 1000) hx hb d_TuneSetter_canBreak_13 sp_1000 ?_
      refine lv_icmp_gt (tgt := 41) hx hb d_TuneSetter_canBreak_16 rfl (fun q => ?_) (fun q => ?_)
      · have h := h.1 q
        refine lv_iconst (v := 0) hx hb d_TuneSetter_canBreak_41 ic_0 ?_
        exact W.zret hx hb hr (vz_n vz0) (fun t ht hW => ⟨⟨_, (I, A), rfl, h, endC_of ht hP⟩, hS.F ht⟩) hS.2.2 d_TuneSetter_canBreak_42
      · have h := h.2 q
        refine lv_aload_n hx hb d_TuneSetter_canBreak_19 rfl (lv_at hl 0 rfl) ?_
        refine gC_TuneSetter_breaker hx hb hw hown hK hP (hw _ m_TuneSetter_37) d_TuneSetter_canBreak_20 ?_
        refine lv_aload_n hx hb d_TuneSetter_canBreak_23 rfl (lv_at hl 0 rfl) ?_
        refine gC_TuneSetter_reader hx hb hw hown hK hP (hw _ m_TuneSetter_16) d_TuneSetter_canBreak_24 ?_
        refine gC_Reader_tune hx hb hw hown hK hP (hw _ m_TuneSetter_75) d_TuneSetter_canBreak_27 ?_
        refine lv_iload_n hx hb d_TuneSetter_canBreak_30 rfl (lv_at hl 1 rfl) ?_
        refine k_LineBreaker_solve x1 (rest := []) ⟨hx, hb, hml, hown, hw⟩ hK hD hA hS hP hl.1 (hw _ m_TuneSetter_138) (Nat.le_of_ble_eq_true rfl) ⟨Nat.le_of_ble_eq_true rfl, Nat.le_of_ble_eq_true rfl⟩ ⟨Nat.zero_le _, Nat.zero_le _⟩ d_TuneSetter_canBreak_31 h (fun r31 I31 A31 H locs h hP hS => ?_)
        refine lv_if_eq (tgt := 41) hx hb d_TuneSetter_canBreak_34 rfl (fun q => ?_) (fun q => ?_)
        · have h := h.1 q
          refine lv_iconst (v := 0) hx hb d_TuneSetter_canBreak_41 ic_0 ?_
          exact W.zret hx hb hr (vz_n vz0) (fun t ht hW => ⟨⟨_, (I31, A31), rfl, h, endC_of ht hP⟩, hS.F ht⟩) hS.2.2 d_TuneSetter_canBreak_42
        · have h := h.2 q
          refine lv_iconst (v := 1) hx hb d_TuneSetter_canBreak_37 ic_1 ?_
          refine lv_goto (tgt := 42) hx hb d_TuneSetter_canBreak_38 rfl ?_
          exact W.zret hx hb hr (vz_n vz1) (fun t ht hW => ⟨⟨_, (I31, A31), rfl, h, endC_of ht hP⟩, hS.F ht⟩) hS.2.2 d_TuneSetter_canBreak_42
theorem k_TuneSetter_canBreak {p : Program} {l : Launch} {e : Env} {R : Room} {s : State} {m : MethodId} {args : Array Value} {below : List Frame} {meth : Method} {c : Code} {H : Heap} {locs : List Loc} {cells slots : Nat} {Q : State → Prop} {cc : ByteArray} {pc nL idx : Nat} {own : String} {ls : Array Slot} {D : va_G} {cA a : Nat → Nat} {AA : Nat → Prop} {I : Nat → Int32} {A : Nat → Nat → Int32} {post : Int32 → (Nat → Int32) → (Nat → Nat → Int32) → Prop} (x1 : Int32) {rest : List Value} (S : CallFix p m c cc nL s args WALL own) (hK : KC D cA a AA s) (hD : ∀ I A, va_D AA (wC cA a I A)) (hA : ∀ q : Nat, s.heap.size ≤ q → AA q) (hS : va_S AA s.heap H locs) (hP : va_P D cls (wC cA a I A) H) (hl1 : ls.size = nL) (hlink : (Cond.methodLink own idx y_TuneSetter_canBreak).before args s = true) (hst : (rest.map fun v => v.category).sum ≤ 8) (hR : ({ frames := 2, cells := 0, slots := 0, locals := 51 } : Room).frames + 1 ≤ R.frames ∧ 8 + (2 + 11) + ({ frames := 2, cells := 0, slots := 0, locals := 51 } : Room).locals ≤ R.locals) (hcs : cells ≤ R.cells ∧ slots ≤ R.slots) (hdg : decode cc pc = .ok (.invokevirtual idx, 3)) (h : wp_TuneSetter_canBreak x1 I A post) (kk : ∀ (r : Int32) (I1 : Nat → Int32) (A1 : Nat → Nat → Int32) (H1 : Heap) (locs1 : List Loc), post r I1 A1 → va_P D cls (wC cA a I1 A1) H1 → va_S AA s.heap H1 locs1 → W p l e R s m args below meth c H1 locs1 cells slots Q (F0 m (pc + 3) ls (.int r :: rest))) : W p l e R s m args below meth c H locs cells slots Q (F0 m pc ls (.int x1 :: .ref (a 0) :: rest)) :=
  va_calli (va_runV (As := [.int x1]) (rest := rest) S (c_TuneSetter_canBreak l D cA a H.size x1 I A post h) ⟨callB_of 1 S.2.2.2.2 g_TuneSetter_canBreak rfl rfl rfl (S.2.2.2.2 _ mi_TuneSetter) hlink ⟨by decide, by decide, by decide +kernel⟩ hR, S.2.2.2.2 _ mn_TuneSetter_canBreak, S.2.2.2.2 _ ms_TuneSetter_canBreak⟩ (preCV hK hD hA hS hP 0 rfl rfl) rfl rfl hl1 rfl (lv_room hst) hdg hcs) hS (fun q _ z => AC_le hD hA hS q z) (fun q z => AC_le hD hA hS q z) (fun r u t H1 locs1 ht _ hp hB _ _ hS1 => kk r u.1 u.2 H1 locs1 hp (of_endC ht hB) hS1)
def wp_TuneSetter_breaking (x1 : Int32) (I : Nat → Int32) (A : Nat → Nat → Int32) (post : Int32 → (Nat → Int32) → (Nat → Nat → Int32) → Prop) : Prop := (wp_TuneSetter_canBreak x1 I A (fun r2 I2 A2 => ((r2 = 0 → post (-1) I2 A2) ∧ (¬ r2 = 0 → (vp_in 0 9 ∧ post (A2 26 ((0 : Int32).toNatClampNeg)) I2 A2)))))
theorem d_TuneSetter_breaking_0 : decode b_TuneSetter_breaking 0 = .ok (.aload_n 0, 1) := by decide +kernel
theorem d_TuneSetter_breaking_1 : decode b_TuneSetter_breaking 1 = .ok (.iload_n 1, 1) := by decide +kernel
theorem d_TuneSetter_breaking_2 : decode b_TuneSetter_breaking 2 = .ok (.invokevirtual 128, 3) := by decide +kernel
theorem d_TuneSetter_breaking_5 : decode b_TuneSetter_breaking 5 = .ok (.ifCond .eq 15, 3) := by decide +kernel
theorem d_TuneSetter_breaking_8 : decode b_TuneSetter_breaking 8 = .ok (.aload_n 0, 1) := by decide +kernel
theorem d_TuneSetter_breaking_9 : decode b_TuneSetter_breaking 9 = .ok (.getfield 37, 3) := by decide +kernel
theorem d_TuneSetter_breaking_12 : decode b_TuneSetter_breaking 12 = .ok (.getfield 132, 3) := by decide +kernel
theorem d_TuneSetter_breaking_15 : decode b_TuneSetter_breaking 15 = .ok (.iconst 0, 1) := by decide +kernel
theorem d_TuneSetter_breaking_16 : decode b_TuneSetter_breaking 16 = .ok (.iaload, 1) := by decide +kernel
theorem d_TuneSetter_breaking_17 : decode b_TuneSetter_breaking 17 = .ok (.goto 4, 3) := by decide +kernel
theorem d_TuneSetter_breaking_20 : decode b_TuneSetter_breaking 20 = .ok (.iconst (-1), 1) := by decide +kernel
theorem d_TuneSetter_breaking_21 : decode b_TuneSetter_breaking 21 = .ok (.ireturn, 1) := by decide +kernel
def w_TuneSetter_breaking : List Cond := .code y_TuneSetter_breaking b_TuneSetter_breaking 2 (some .int) :: WALL
theorem g_TuneSetter_breaking : GoodIn WALL w_TuneSetter_breaking := good_of mc_TuneSetter_breaking
set_option maxHeartbeats 4000000 in
set_option maxRecDepth 100000 in
theorem c_TuneSetter_breaking (l : Launch) (D : va_G) (cA a : Nat → Nat) (sz : Nat) (x1 : Int32) (I : Nat → Int32) (A : Nat → Nat → Int32) (post : Int32 → (Nat → Int32) → (Nat → Nat → Int32) → Prop) (h : wp_TuneSetter_breaking x1 I A post) : Met l y_TuneSetter_breaking w_TuneSetter_breaking ({ frames := 3, cells := 0, slots := 0, locals := 72 }) (va_Pc [.ref (a 0), .int x1] (PreC D cA a I A sz)) (va_Qi (fun r (u : StW) => post r u.1 u.2) (EndC D cA a) (AC a sz)) 0 0 (AC a sz) := by
  refine Met.ofW (cc := b_TuneSetter_breaking) (maxL := 2) (ret := (some .int)) (by decide) rfl ?_
  intro p e s m args below meth c s₁ B hml hv
  obtain ⟨rfl, hsz, hP, hK, hD0⟩ := hv
  have hx := B.exec
  have hb := B.bytes
  have hr := B.returns
  have hts := atoms_spec (ws := w_TuneSetter_breaking) B.pre
  have hw := wall_of hts
  have hown : s.vm.findClass R_TuneSetter = some m.cls := findClass_of_methodNamed B.named
  have hlocks := B.notSynchronized
  subst hsz
  have hD := hDC (sz := s.heap.size) hD0
  have hA : ∀ q : Nat, s.heap.size ≤ q → AC a s.heap.size q := fun q h => Or.inr h
  have hS : va_S (AC a s.heap.size) s.heap s.heap [] := va_S.rf
  have hl := lv_entry ([.ref (a 0), .int x1]) (n := 2) (Nat.le_of_ble_eq_true rfl)
  rw [lg_entry_eq]
  generalize (lg_sl ([.ref (a 0), .int x1]) ++ List.replicate (2 - (lg_sl ([.ref (a 0), .int x1])).length) Slot.unset).toArray = ls at hl ⊢
  have hl : lv_has ls 2 [(0, .ref (a 0)), (1, .int x1)] := hl
  unfold wp_TuneSetter_breaking at h
  refine lv_aload_n hx hb d_TuneSetter_breaking_0 rfl (lv_at hl 0 rfl) ?_
  refine lv_iload_n hx hb d_TuneSetter_breaking_1 rfl (lv_at hl 1 rfl) ?_
  refine k_TuneSetter_canBreak x1 (rest := []) ⟨hx, hb, hml, hown, hw⟩ hK hD hA hS hP hl.1 (hw _ m_TuneSetter_128) (Nat.le_of_ble_eq_true rfl) ⟨Nat.le_of_ble_eq_true rfl, Nat.le_of_ble_eq_true rfl⟩ ⟨Nat.zero_le _, Nat.zero_le _⟩ d_TuneSetter_breaking_2 h (fun r2 I2 A2 H locs h hP hS => ?_)
  refine lv_if_eq (tgt := 20) hx hb d_TuneSetter_breaking_5 rfl (fun q => ?_) (fun q => ?_)
  · have h := h.1 q
    refine lv_iconst (v := (-1)) hx hb d_TuneSetter_breaking_20 ic_m1 ?_
    exact W.iret hx hb hr (fun t ht hW => ⟨⟨_, (I2, A2), rfl, h, endC_of ht hP⟩, hS.F ht⟩) hS.2.2 d_TuneSetter_breaking_21
  · have h := h.2 q
    refine lv_aload_n hx hb d_TuneSetter_breaking_8 rfl (lv_at hl 0 rfl) ?_
    refine gC_TuneSetter_breaker hx hb hw hown hK hP (hw _ m_TuneSetter_37) d_TuneSetter_breaking_9 ?_
    refine gC_LineBreaker_leastBadness hx hb hw hown hK hP (hw _ m_TuneSetter_132) d_TuneSetter_breaking_12 ?_
    refine lv_iconst (v := 0) hx hb d_TuneSetter_breaking_15 ic_0 ?_
    obtain ⟨hin, h⟩ := h
    refine lC26 hx hb hK hP hin d_TuneSetter_breaking_16 ?_
    refine lv_goto (tgt := 21) hx hb d_TuneSetter_breaking_17 rfl ?_
    exact W.iret hx hb hr (fun t ht hW => ⟨⟨_, (I2, A2), rfl, h, endC_of ht hP⟩, hS.F ht⟩) hS.2.2 d_TuneSetter_breaking_21
theorem k_TuneSetter_breaking {p : Program} {l : Launch} {e : Env} {R : Room} {s : State} {m : MethodId} {args : Array Value} {below : List Frame} {meth : Method} {c : Code} {H : Heap} {locs : List Loc} {cells slots : Nat} {Q : State → Prop} {cc : ByteArray} {pc nL idx : Nat} {own : String} {ls : Array Slot} {D : va_G} {cA a : Nat → Nat} {AA : Nat → Prop} {I : Nat → Int32} {A : Nat → Nat → Int32} {post : Int32 → (Nat → Int32) → (Nat → Nat → Int32) → Prop} (x1 : Int32) {rest : List Value} (S : CallFix p m c cc nL s args WALL own) (hK : KC D cA a AA s) (hD : ∀ I A, va_D AA (wC cA a I A)) (hA : ∀ q : Nat, s.heap.size ≤ q → AA q) (hS : va_S AA s.heap H locs) (hP : va_P D cls (wC cA a I A) H) (hl1 : ls.size = nL) (hlink : (Cond.methodLink own idx y_TuneSetter_breaking).before args s = true) (hst : (rest.map fun v => v.category).sum ≤ 8) (hR : ({ frames := 3, cells := 0, slots := 0, locals := 72 } : Room).frames + 1 ≤ R.frames ∧ 8 + (2 + 11) + ({ frames := 3, cells := 0, slots := 0, locals := 72 } : Room).locals ≤ R.locals) (hcs : cells ≤ R.cells ∧ slots ≤ R.slots) (hdg : decode cc pc = .ok (.invokevirtual idx, 3)) (h : wp_TuneSetter_breaking x1 I A post) (kk : ∀ (r : Int32) (I1 : Nat → Int32) (A1 : Nat → Nat → Int32) (H1 : Heap) (locs1 : List Loc), post r I1 A1 → va_P D cls (wC cA a I1 A1) H1 → va_S AA s.heap H1 locs1 → W p l e R s m args below meth c H1 locs1 cells slots Q (F0 m (pc + 3) ls (.int r :: rest))) : W p l e R s m args below meth c H locs cells slots Q (F0 m pc ls (.int x1 :: .ref (a 0) :: rest)) :=
  va_calli (va_runV (As := [.int x1]) (rest := rest) S (c_TuneSetter_breaking l D cA a H.size x1 I A post h) ⟨callB_of 1 S.2.2.2.2 g_TuneSetter_breaking rfl rfl rfl (S.2.2.2.2 _ mi_TuneSetter) hlink ⟨by decide, by decide, by decide +kernel⟩ hR, S.2.2.2.2 _ mn_TuneSetter_breaking, S.2.2.2.2 _ ms_TuneSetter_breaking⟩ (preCV hK hD hA hS hP 0 rfl rfl) rfl rfl hl1 rfl (lv_room hst) hdg hcs) hS (fun q _ z => AC_le hD hA hS q z) (fun q z => AC_le hD hA hS q z) (fun r u t H1 locs1 ht _ hp hB _ _ hS1 => kk r u.1 u.2 H1 locs1 hp (of_endC ht hB) hS1)
def wp_TuneSetter_lines (x1 : Int32) (I : Nat → Int32) (A : Nat → Nat → Int32) (post : Int32 → (Nat → Int32) → (Nat → Nat → Int32) → Prop) : Prop := (wp_TuneSetter_canBreak x1 I A (fun r2 I2 A2 => ((r2 = 0 → post (-1) I2 A2) ∧ (¬ r2 = 0 → (vp_in 0 9 ∧ post (A2 27 ((0 : Int32).toNatClampNeg)) I2 A2)))))
theorem d_TuneSetter_lines_0 : decode b_TuneSetter_lines 0 = .ok (.aload_n 0, 1) := by decide +kernel
theorem d_TuneSetter_lines_1 : decode b_TuneSetter_lines 1 = .ok (.iload_n 1, 1) := by decide +kernel
theorem d_TuneSetter_lines_2 : decode b_TuneSetter_lines 2 = .ok (.invokevirtual 128, 3) := by decide +kernel
theorem d_TuneSetter_lines_5 : decode b_TuneSetter_lines 5 = .ok (.ifCond .eq 15, 3) := by decide +kernel
theorem d_TuneSetter_lines_8 : decode b_TuneSetter_lines 8 = .ok (.aload_n 0, 1) := by decide +kernel
theorem d_TuneSetter_lines_9 : decode b_TuneSetter_lines 9 = .ok (.getfield 37, 3) := by decide +kernel
theorem d_TuneSetter_lines_12 : decode b_TuneSetter_lines 12 = .ok (.getfield 135, 3) := by decide +kernel
theorem d_TuneSetter_lines_15 : decode b_TuneSetter_lines 15 = .ok (.iconst 0, 1) := by decide +kernel
theorem d_TuneSetter_lines_16 : decode b_TuneSetter_lines 16 = .ok (.iaload, 1) := by decide +kernel
theorem d_TuneSetter_lines_17 : decode b_TuneSetter_lines 17 = .ok (.goto 4, 3) := by decide +kernel
theorem d_TuneSetter_lines_20 : decode b_TuneSetter_lines 20 = .ok (.iconst (-1), 1) := by decide +kernel
theorem d_TuneSetter_lines_21 : decode b_TuneSetter_lines 21 = .ok (.ireturn, 1) := by decide +kernel
def w_TuneSetter_lines : List Cond := .code y_TuneSetter_lines b_TuneSetter_lines 2 (some .int) :: WALL
theorem g_TuneSetter_lines : GoodIn WALL w_TuneSetter_lines := good_of mc_TuneSetter_lines
set_option maxHeartbeats 4000000 in
set_option maxRecDepth 100000 in
theorem c_TuneSetter_lines (l : Launch) (D : va_G) (cA a : Nat → Nat) (sz : Nat) (x1 : Int32) (I : Nat → Int32) (A : Nat → Nat → Int32) (post : Int32 → (Nat → Int32) → (Nat → Nat → Int32) → Prop) (h : wp_TuneSetter_lines x1 I A post) : Met l y_TuneSetter_lines w_TuneSetter_lines ({ frames := 3, cells := 0, slots := 0, locals := 72 }) (va_Pc [.ref (a 0), .int x1] (PreC D cA a I A sz)) (va_Qi (fun r (u : StW) => post r u.1 u.2) (EndC D cA a) (AC a sz)) 0 0 (AC a sz) := by
  refine Met.ofW (cc := b_TuneSetter_lines) (maxL := 2) (ret := (some .int)) (by decide) rfl ?_
  intro p e s m args below meth c s₁ B hml hv
  obtain ⟨rfl, hsz, hP, hK, hD0⟩ := hv
  have hx := B.exec
  have hb := B.bytes
  have hr := B.returns
  have hts := atoms_spec (ws := w_TuneSetter_lines) B.pre
  have hw := wall_of hts
  have hown : s.vm.findClass R_TuneSetter = some m.cls := findClass_of_methodNamed B.named
  have hlocks := B.notSynchronized
  subst hsz
  have hD := hDC (sz := s.heap.size) hD0
  have hA : ∀ q : Nat, s.heap.size ≤ q → AC a s.heap.size q := fun q h => Or.inr h
  have hS : va_S (AC a s.heap.size) s.heap s.heap [] := va_S.rf
  have hl := lv_entry ([.ref (a 0), .int x1]) (n := 2) (Nat.le_of_ble_eq_true rfl)
  rw [lg_entry_eq]
  generalize (lg_sl ([.ref (a 0), .int x1]) ++ List.replicate (2 - (lg_sl ([.ref (a 0), .int x1])).length) Slot.unset).toArray = ls at hl ⊢
  have hl : lv_has ls 2 [(0, .ref (a 0)), (1, .int x1)] := hl
  unfold wp_TuneSetter_lines at h
  refine lv_aload_n hx hb d_TuneSetter_lines_0 rfl (lv_at hl 0 rfl) ?_
  refine lv_iload_n hx hb d_TuneSetter_lines_1 rfl (lv_at hl 1 rfl) ?_
  refine k_TuneSetter_canBreak x1 (rest := []) ⟨hx, hb, hml, hown, hw⟩ hK hD hA hS hP hl.1 (hw _ m_TuneSetter_128) (Nat.le_of_ble_eq_true rfl) ⟨Nat.le_of_ble_eq_true rfl, Nat.le_of_ble_eq_true rfl⟩ ⟨Nat.zero_le _, Nat.zero_le _⟩ d_TuneSetter_lines_2 h (fun r2 I2 A2 H locs h hP hS => ?_)
  refine lv_if_eq (tgt := 20) hx hb d_TuneSetter_lines_5 rfl (fun q => ?_) (fun q => ?_)
  · have h := h.1 q
    refine lv_iconst (v := (-1)) hx hb d_TuneSetter_lines_20 ic_m1 ?_
    exact W.iret hx hb hr (fun t ht hW => ⟨⟨_, (I2, A2), rfl, h, endC_of ht hP⟩, hS.F ht⟩) hS.2.2 d_TuneSetter_lines_21
  · have h := h.2 q
    refine lv_aload_n hx hb d_TuneSetter_lines_8 rfl (lv_at hl 0 rfl) ?_
    refine gC_TuneSetter_breaker hx hb hw hown hK hP (hw _ m_TuneSetter_37) d_TuneSetter_lines_9 ?_
    refine gC_LineBreaker_fewestLines hx hb hw hown hK hP (hw _ m_TuneSetter_135) d_TuneSetter_lines_12 ?_
    refine lv_iconst (v := 0) hx hb d_TuneSetter_lines_15 ic_0 ?_
    obtain ⟨hin, h⟩ := h
    refine lC27 hx hb hK hP hin d_TuneSetter_lines_16 ?_
    refine lv_goto (tgt := 21) hx hb d_TuneSetter_lines_17 rfl ?_
    exact W.iret hx hb hr (fun t ht hW => ⟨⟨_, (I2, A2), rfl, h, endC_of ht hP⟩, hS.F ht⟩) hS.2.2 d_TuneSetter_lines_21
theorem k_TuneSetter_lines {p : Program} {l : Launch} {e : Env} {R : Room} {s : State} {m : MethodId} {args : Array Value} {below : List Frame} {meth : Method} {c : Code} {H : Heap} {locs : List Loc} {cells slots : Nat} {Q : State → Prop} {cc : ByteArray} {pc nL idx : Nat} {own : String} {ls : Array Slot} {D : va_G} {cA a : Nat → Nat} {AA : Nat → Prop} {I : Nat → Int32} {A : Nat → Nat → Int32} {post : Int32 → (Nat → Int32) → (Nat → Nat → Int32) → Prop} (x1 : Int32) {rest : List Value} (S : CallFix p m c cc nL s args WALL own) (hK : KC D cA a AA s) (hD : ∀ I A, va_D AA (wC cA a I A)) (hA : ∀ q : Nat, s.heap.size ≤ q → AA q) (hS : va_S AA s.heap H locs) (hP : va_P D cls (wC cA a I A) H) (hl1 : ls.size = nL) (hlink : (Cond.methodLink own idx y_TuneSetter_lines).before args s = true) (hst : (rest.map fun v => v.category).sum ≤ 8) (hR : ({ frames := 3, cells := 0, slots := 0, locals := 72 } : Room).frames + 1 ≤ R.frames ∧ 8 + (2 + 11) + ({ frames := 3, cells := 0, slots := 0, locals := 72 } : Room).locals ≤ R.locals) (hcs : cells ≤ R.cells ∧ slots ≤ R.slots) (hdg : decode cc pc = .ok (.invokevirtual idx, 3)) (h : wp_TuneSetter_lines x1 I A post) (kk : ∀ (r : Int32) (I1 : Nat → Int32) (A1 : Nat → Nat → Int32) (H1 : Heap) (locs1 : List Loc), post r I1 A1 → va_P D cls (wC cA a I1 A1) H1 → va_S AA s.heap H1 locs1 → W p l e R s m args below meth c H1 locs1 cells slots Q (F0 m (pc + 3) ls (.int r :: rest))) : W p l e R s m args below meth c H locs cells slots Q (F0 m pc ls (.int x1 :: .ref (a 0) :: rest)) :=
  va_calli (va_runV (As := [.int x1]) (rest := rest) S (c_TuneSetter_lines l D cA a H.size x1 I A post h) ⟨callB_of 1 S.2.2.2.2 g_TuneSetter_lines rfl rfl rfl (S.2.2.2.2 _ mi_TuneSetter) hlink ⟨by decide, by decide, by decide +kernel⟩ hR, S.2.2.2.2 _ mn_TuneSetter_lines, S.2.2.2.2 _ ms_TuneSetter_lines⟩ (preCV hK hD hA hS hP 0 rfl rfl) rfl rfl hl1 rfl (lv_room hst) hdg hcs) hS (fun q _ z => AC_le hD hA hS q z) (fun q z => AC_le hD hA hS q z) (fun r u t H1 locs1 ht _ hp hB _ _ hS1 => kk r u.1 u.2 H1 locs1 hp (of_endC ht hB) hS1)

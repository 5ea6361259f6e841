def wp_Reader_takeSign (x1 : Int32) (I : Nat → Int32) (A : Nat → Nat → Int32) (post : (Nat → Int32) → (Nat → Nat → Int32) → Prop) : Prop := (wp_PitchFinder_setSign x1 (upd I 19 x1) A (fun I10 A10 => (wp_Tune_widen 1 I10 A10 (fun I18 A18 => post I18 A18))))
theorem d_Reader_takeSign_0 : decode b_Reader_takeSign 0 = .ok (.aload_n 0, 1) := by decide +kernel
theorem d_Reader_takeSign_1 : decode b_Reader_takeSign 1 = .ok (.iload_n 1, 1) := by decide +kernel
theorem d_Reader_takeSign_2 : decode b_Reader_takeSign 2 = .ok (.putfield 67, 3) := by decide +kernel
theorem d_Reader_takeSign_5 : decode b_Reader_takeSign 5 = .ok (.aload_n 0, 1) := by decide +kernel
theorem d_Reader_takeSign_6 : decode b_Reader_takeSign 6 = .ok (.getfield 21, 3) := by decide +kernel
theorem d_Reader_takeSign_9 : decode b_Reader_takeSign 9 = .ok (.iload_n 1, 1) := by decide +kernel
theorem d_Reader_takeSign_10 : decode b_Reader_takeSign 10 = .ok (.invokevirtual 237, 3) := by decide +kernel
theorem d_Reader_takeSign_13 : decode b_Reader_takeSign 13 = .ok (.aload_n 0, 1) := by decide +kernel
theorem d_Reader_takeSign_14 : decode b_Reader_takeSign 14 = .ok (.getfield 14, 3) := by decide +kernel
theorem d_Reader_takeSign_17 : decode b_Reader_takeSign 17 = .ok (.iconst 1, 1) := by decide +kernel
theorem d_Reader_takeSign_18 : decode b_Reader_takeSign 18 = .ok (.invokevirtual 240, 3) := by decide +kernel
theorem d_Reader_takeSign_21 : decode b_Reader_takeSign 21 = .ok (.return_, 1) := by decide +kernel
def w_Reader_takeSign : List Cond := .code y_Reader_takeSign b_Reader_takeSign 2 none :: WALL
theorem g_Reader_takeSign : GoodIn WALL w_Reader_takeSign := good_of mc_Reader_takeSign
set_option maxHeartbeats 4000000 in
set_option maxRecDepth 100000 in
theorem c_Reader_takeSign (l : Launch) (D : va_G) (cA a : Nat → Nat) (sz : Nat) (x1 : Int32) (I : Nat → Int32) (A : Nat → Nat → Int32) (post : (Nat → Int32) → (Nat → Nat → Int32) → Prop) (h : wp_Reader_takeSign x1 I A post) : Met l y_Reader_takeSign w_Reader_takeSign ({ frames := 1, cells := 0, slots := 0, locals := 21 }) (va_Pc [.ref (a 2), .int x1] (PreC D cA a I A sz)) (va_Qv (fun (u : StW) => post u.1 u.2) (EndC D cA a) (AC a sz)) 0 0 (AC a sz) := by
  refine Met.ofW (cc := b_Reader_takeSign) (maxL := 2) (ret := none) (by decide) rfl ?_
  intro p e s m args below meth c s₁ B hml hv
  obtain ⟨rfl, hsz, hP, hK, hD0⟩ := hv
  have hx := B.exec
  have hb := B.bytes
  have hr := B.returns
  have hts := atoms_spec (ws := w_Reader_takeSign) B.pre
  have hw := wall_of hts
  have hown : s.vm.findClass R_Reader = some m.cls := findClass_of_methodNamed B.named
  have hlocks := B.notSynchronized
  subst hsz
  have hD := hDC (sz := s.heap.size) hD0
  have hA : ∀ q : Nat, s.heap.size ≤ q → AC a s.heap.size q := fun q h => Or.inr h
  have hS : va_S (AC a s.heap.size) s.heap s.heap [] := va_S.rf
  have hl := lv_entry ([.ref (a 2), .int x1]) (n := 2) (Nat.le_of_ble_eq_true rfl)
  rw [lg_entry_eq]
  generalize (lg_sl ([.ref (a 2), .int x1]) ++ List.replicate (2 - (lg_sl ([.ref (a 2), .int x1])).length) Slot.unset).toArray = ls at hl ⊢
  have hl : lv_has ls 2 [(0, .ref (a 2)), (1, .int x1)] := hl
  unfold wp_Reader_takeSign at h
  refine lv_aload_n hx hb d_Reader_takeSign_0 rfl (lv_at hl 0 rfl) ?_
  refine lv_iload_n hx hb d_Reader_takeSign_1 rfl (lv_at hl 1 rfl) ?_
  refine pC_Reader_latestSign hx hb hw hown hK hD hS hP (hw _ m_Reader_67) d_Reader_takeSign_2 (fun H locs hP hS => ?_)
  refine lv_aload_n hx hb d_Reader_takeSign_5 rfl (lv_at hl 0 rfl) ?_
  refine gC_Reader_pitches hx hb hw hown hK hP (hw _ m_Reader_21) d_Reader_takeSign_6 ?_
  refine lv_iload_n hx hb d_Reader_takeSign_9 rfl (lv_at hl 1 rfl) ?_
  refine k_PitchFinder_setSign x1 (rest := []) ⟨hx, hb, hml, hown, hw⟩ hK hD hA hS hP hl.1 (hw _ m_Reader_237) (Nat.le_of_ble_eq_true rfl) ⟨Nat.le_of_ble_eq_true rfl, Nat.le_of_ble_eq_true rfl⟩ ⟨Nat.zero_le _, Nat.zero_le _⟩ d_Reader_takeSign_10 h (fun I10 A10 H locs h hP hS => ?_)
  refine lv_aload_n hx hb d_Reader_takeSign_13 rfl (lv_at hl 0 rfl) ?_
  refine gC_Reader_tune hx hb hw hown hK hP (hw _ m_Reader_14) d_Reader_takeSign_14 ?_
  refine lv_iconst (v := 1) hx hb d_Reader_takeSign_17 ic_1 ?_
  refine k_Tune_widen 1 (rest := []) ⟨hx, hb, hml, hown, hw⟩ hK hD hA hS hP hl.1 (hw _ m_Reader_240) (Nat.le_of_ble_eq_true rfl) ⟨Nat.le_of_ble_eq_true rfl, Nat.le_of_ble_eq_true rfl⟩ ⟨Nat.zero_le _, Nat.zero_le _⟩ d_Reader_takeSign_18 h (fun I18 A18 H locs h hP hS => ?_)
  exact W.vret hx hb hr (fun t ht hW => ⟨⟨(I18, A18), rfl, h, endC_of ht hP⟩, hS.F ht⟩) hS.2.2 d_Reader_takeSign_21
theorem k_Reader_takeSign {p : Program} {l : Launch} {e : Env} {R : Room} {s : State} {m : MethodId} {args : Array Value} {below : List Frame} {meth : Method} {c : Code} {H : Heap} {locs : List Loc} {cells slots : Nat} {Q : State → Prop} {cc : ByteArray} {pc nL idx : Nat} {own : String} {ls : Array Slot} {D : va_G} {cA a : Nat → Nat} {AA : Nat → Prop} {I : Nat → Int32} {A : Nat → Nat → Int32} {post : (Nat → Int32) → (Nat → Nat → Int32) → Prop} (x1 : Int32) {rest : List Value} (S : CallFix p m c cc nL s args WALL own) (hK : KC D cA a AA s) (hD : ∀ I A, va_D AA (wC cA a I A)) (hA : ∀ q : Nat, s.heap.size ≤ q → AA q) (hS : va_S AA s.heap H locs) (hP : va_P D cls (wC cA a I A) H) (hl1 : ls.size = nL) (hlink : (Cond.methodLink own idx y_Reader_takeSign).before args s = true) (hst : (rest.map fun v => v.category).sum ≤ 8) (hR : ({ frames := 1, cells := 0, slots := 0, locals := 21 } : Room).frames + 1 ≤ R.frames ∧ 8 + (2 + 11) + ({ frames := 1, cells := 0, slots := 0, locals := 21 } : Room).locals ≤ R.locals) (hcs : cells ≤ R.cells ∧ slots ≤ R.slots) (hdg : decode cc pc = .ok (.invokevirtual idx, 3)) (h : wp_Reader_takeSign x1 I A post) (kk : ∀ (I1 : Nat → Int32) (A1 : Nat → Nat → Int32) (H1 : Heap) (locs1 : List Loc), post I1 A1 → va_P D cls (wC cA a I1 A1) H1 → va_S AA s.heap H1 locs1 → W p l e R s m args below meth c H1 locs1 cells slots Q (F0 m (pc + 3) ls rest)) : W p l e R s m args below meth c H locs cells slots Q (F0 m pc ls (.int x1 :: .ref (a 2) :: rest)) :=
  va_callv (va_runV (As := [.int x1]) (rest := rest) S (c_Reader_takeSign l D cA a H.size x1 I A post h) ⟨callB_of 1 S.2.2.2.2 g_Reader_takeSign rfl rfl rfl (S.2.2.2.2 _ mi_Reader) hlink ⟨by decide, by decide, by decide +kernel⟩ hR, S.2.2.2.2 _ mn_Reader_takeSign, S.2.2.2.2 _ ms_Reader_takeSign⟩ (preCV hK hD hA hS hP 2 rfl rfl) rfl rfl hl1 rfl (lv_room hst) hdg hcs) hS (fun q _ z => AC_le hD hA hS q z) (fun q z => AC_le hD hA hS q z) (fun u t H1 locs1 ht _ hp hB _ _ hS1 => kk u.1 u.2 H1 locs1 hp (of_endC ht hB) hS1)
def wp_PitchFinder_doubleSign (I : Nat → Int32) (A : Nat → Nat → Int32) (post : (Nat → Int32) → (Nat → Nat → Int32) → Prop) : Prop := post (upd I 6 ((2 : Int32) * (I 6))) A
theorem d_PitchFinder_doubleSign_0 : decode b_PitchFinder_doubleSign 0 = .ok (.aload_n 0, 1) := by decide +kernel
theorem d_PitchFinder_doubleSign_1 : decode b_PitchFinder_doubleSign 1 = .ok (.iconst 2, 1) := by decide +kernel
theorem d_PitchFinder_doubleSign_2 : decode b_PitchFinder_doubleSign 2 = .ok (.aload_n 0, 1) := by decide +kernel
theorem d_PitchFinder_doubleSign_3 : decode b_PitchFinder_doubleSign 3 = .ok (.getfield 13, 3) := by decide +kernel
theorem d_PitchFinder_doubleSign_6 : decode b_PitchFinder_doubleSign 6 = .ok (.imul, 1) := by decide +kernel
theorem d_PitchFinder_doubleSign_7 : decode b_PitchFinder_doubleSign 7 = .ok (.putfield 13, 3) := by decide +kernel
theorem d_PitchFinder_doubleSign_10 : decode b_PitchFinder_doubleSign 10 = .ok (.return_, 1) := by decide +kernel
def w_PitchFinder_doubleSign : List Cond := .code y_PitchFinder_doubleSign b_PitchFinder_doubleSign 1 none :: WALL
theorem g_PitchFinder_doubleSign : GoodIn WALL w_PitchFinder_doubleSign := good_of mc_PitchFinder_doubleSign
set_option maxHeartbeats 4000000 in
set_option maxRecDepth 100000 in
theorem c_PitchFinder_doubleSign (l : Launch) (D : va_G) (cA a : Nat → Nat) (sz : Nat) (I : Nat → Int32) (A : Nat → Nat → Int32) (post : (Nat → Int32) → (Nat → Nat → Int32) → Prop) (h : wp_PitchFinder_doubleSign I A post) : Met l y_PitchFinder_doubleSign w_PitchFinder_doubleSign ({ frames := 0, cells := 0, slots := 0, locals := 0 }) (va_Pc [.ref (a 13)] (PreC D cA a I A sz)) (va_Qv (fun (u : StW) => post u.1 u.2) (EndC D cA a) (AC a sz)) 0 0 (AC a sz) := by
  refine Met.ofW (cc := b_PitchFinder_doubleSign) (maxL := 1) (ret := none) (by decide) rfl ?_
  intro p e s m args below meth c s₁ B hml hv
  obtain ⟨rfl, hsz, hP, hK, hD0⟩ := hv
  have hx := B.exec
  have hb := B.bytes
  have hr := B.returns
  have hts := atoms_spec (ws := w_PitchFinder_doubleSign) B.pre
  have hw := wall_of hts
  have hown : s.vm.findClass R_PitchFinder = some m.cls := findClass_of_methodNamed B.named
  have hlocks := B.notSynchronized
  subst hsz
  have hD := hDC (sz := s.heap.size) hD0
  have hA : ∀ q : Nat, s.heap.size ≤ q → AC a s.heap.size q := fun q h => Or.inr h
  have hS : va_S (AC a s.heap.size) s.heap s.heap [] := va_S.rf
  have hl := lv_entry ([.ref (a 13)]) (n := 1) (Nat.le_of_ble_eq_true rfl)
  rw [lg_entry_eq]
  generalize (lg_sl ([.ref (a 13)]) ++ List.replicate (1 - (lg_sl ([.ref (a 13)])).length) Slot.unset).toArray = ls at hl ⊢
  have hl : lv_has ls 1 [(0, .ref (a 13))] := hl
  unfold wp_PitchFinder_doubleSign at h
  refine lv_aload_n hx hb d_PitchFinder_doubleSign_0 rfl (lv_at hl 0 rfl) ?_
  refine lv_iconst (v := 2) hx hb d_PitchFinder_doubleSign_1 ic_2 ?_
  refine lv_aload_n hx hb d_PitchFinder_doubleSign_2 rfl (lv_at hl 0 rfl) ?_
  refine gC_PitchFinder_sign hx hb hw hown hK hP (hw _ m_PitchFinder_13) d_PitchFinder_doubleSign_3 ?_
  refine lv_imul hx hb d_PitchFinder_doubleSign_6 ?_
  refine pC_PitchFinder_sign hx hb hw hown hK hD hS hP (hw _ m_PitchFinder_13) d_PitchFinder_doubleSign_7 (fun H locs hP hS => ?_)
  exact W.vret hx hb hr (fun t ht hW => ⟨⟨((upd I 6 ((2 : Int32) * (I 6))), A), rfl, h, endC_of ht hP⟩, hS.F ht⟩) hS.2.2 d_PitchFinder_doubleSign_10
theorem k_PitchFinder_doubleSign {p : Program} {l : Launch} {e : Env} {R : Room} {s : State} {m : MethodId} {args : Array Value} {below : List Frame} {meth : Method} {c : Code} {H : Heap} {locs : List Loc} {cells slots : Nat} {Q : State → Prop} {cc : ByteArray} {pc nL idx : Nat} {own : String} {ls : Array Slot} {D : va_G} {cA a : Nat → Nat} {AA : Nat → Prop} {I : Nat → Int32} {A : Nat → Nat → Int32} {post : (Nat → Int32) → (Nat → Nat → Int32) → Prop} {rest : List Value} (S : CallFix p m c cc nL s args WALL own) (hK : KC D cA a AA s) (hD : ∀ I A, va_D AA (wC cA a I A)) (hA : ∀ q : Nat, s.heap.size ≤ q → AA q) (hS : va_S AA s.heap H locs) (hP : va_P D cls (wC cA a I A) H) (hl1 : ls.size = nL) (hlink : (Cond.methodLink own idx y_PitchFinder_doubleSign).before args s = true) (hst : (rest.map fun v => v.category).sum ≤ 8) (hR : ({ frames := 0, cells := 0, slots := 0, locals := 0 } : Room).frames + 1 ≤ R.frames ∧ 8 + (1 + 11) + ({ frames := 0, cells := 0, slots := 0, locals := 0 } : Room).locals ≤ R.locals) (hcs : cells ≤ R.cells ∧ slots ≤ R.slots) (hdg : decode cc pc = .ok (.invokevirtual idx, 3)) (h : wp_PitchFinder_doubleSign I A post) (kk : ∀ (I1 : Nat → Int32) (A1 : Nat → Nat → Int32) (H1 : Heap) (locs1 : List Loc), post I1 A1 → va_P D cls (wC cA a I1 A1) H1 → va_S AA s.heap H1 locs1 → W p l e R s m args below meth c H1 locs1 cells slots Q (F0 m (pc + 3) ls rest)) : W p l e R s m args below meth c H locs cells slots Q (F0 m pc ls (.ref (a 13) :: rest)) :=
  va_callv (va_runV (As := []) (rest := rest) S (c_PitchFinder_doubleSign l D cA a H.size I A post h) ⟨callB_of 0 S.2.2.2.2 g_PitchFinder_doubleSign rfl rfl rfl (S.2.2.2.2 _ mi_PitchFinder) hlink ⟨by decide, by decide, by decide +kernel⟩ hR, S.2.2.2.2 _ mn_PitchFinder_doubleSign, S.2.2.2.2 _ ms_PitchFinder_doubleSign⟩ (preCV hK hD hA hS hP 13 rfl rfl) rfl rfl hl1 rfl (lv_room hst) hdg hcs) hS (fun q _ z => AC_le hD hA hS q z) (fun q z => AC_le hD hA hS q z) (fun u t H1 locs1 ht _ hp hB _ _ hS1 => kk u.1 u.2 H1 locs1 hp (of_endC ht hB) hS1)
def wp_PitchFinder_setLetter_28 (post : (Nat → Int32) → (Nat → Nat → Int32) → Prop) (y2 : Int32) (s0 : Int32) (I : Nat → Int32) (A : Nat → Nat → Int32) : Prop := ((s0 < 0 → ((y2 = 0 → post (upd (upd I 7 s0) 8 0) A) ∧ (¬ y2 = 0 → post (upd (upd (upd I 7 s0) 8 0) 8 ((0 : Int32) + 12)) A))) ∧ (¬ s0 < 0 → ((7 ≤ s0 → ((y2 = 0 → post (upd (upd I 7 s0) 8 0) A) ∧ (¬ y2 = 0 → post (upd (upd (upd I 7 s0) 8 0) 8 ((0 : Int32) + 12)) A))) ∧ (¬ 7 ≤ s0 → (vp_in s0 7 ∧ ((y2 = 0 → post (upd (upd I 7 s0) 8 (tb_NATURAL s0.toNatClampNeg)) A) ∧ (¬ y2 = 0 → post (upd (upd (upd I 7 s0) 8 (tb_NATURAL s0.toNatClampNeg)) 8 ((tb_NATURAL s0.toNatClampNeg) + 12)) A)))))))
def wp_PitchFinder_setLetter (x1 : Int32) (I : Nat → Int32) (A : Nat → Nat → Int32) (post : (Nat → Int32) → (Nat → Nat → Int32) → Prop) : Prop := ((x1 < 97 → (((0 : Int32) = 0 → wp_PitchFinder_setLetter_28 post 0 (x1 - 65) I A) ∧ (¬ (0 : Int32) = 0 → wp_PitchFinder_setLetter_28 post 0 (x1 - 97) I A))) ∧ (¬ x1 < 97 → (((1 : Int32) = 0 → wp_PitchFinder_setLetter_28 post 1 (x1 - 65) I A) ∧ (¬ (1 : Int32) = 0 → wp_PitchFinder_setLetter_28 post 1 (x1 - 97) I A))))
theorem d_PitchFinder_setLetter_0 : decode b_PitchFinder_setLetter 0 = .ok (.iload_n 1, 1) := by decide +kernel
theorem d_PitchFinder_setLetter_1 : decode b_PitchFinder_setLetter 1 = .ok (.bipush 97, 2) := by decide +kernel
theorem d_PitchFinder_setLetter_3 : decode b_PitchFinder_setLetter 3 = .ok (.if_icmp .lt 7, 3) := by decide +kernel
theorem d_PitchFinder_setLetter_6 : decode b_PitchFinder_setLetter 6 = .ok (.iconst 1, 1) := by decide +kernel
theorem d_PitchFinder_setLetter_7 : decode b_PitchFinder_setLetter 7 = .ok (.goto 4, 3) := by decide +kernel
theorem d_PitchFinder_setLetter_10 : decode b_PitchFinder_setLetter 10 = .ok (.iconst 0, 1) := by decide +kernel
theorem d_PitchFinder_setLetter_11 : decode b_PitchFinder_setLetter 11 = .ok (.istore_n 2, 1) := by decide +kernel
theorem d_PitchFinder_setLetter_12 : decode b_PitchFinder_setLetter 12 = .ok (.aload_n 0, 1) := by decide +kernel
theorem d_PitchFinder_setLetter_13 : decode b_PitchFinder_setLetter 13 = .ok (.iload_n 2, 1) := by decide +kernel
theorem d_PitchFinder_setLetter_14 : decode b_PitchFinder_setLetter 14 = .ok (.ifCond .eq 10, 3) := by decide +kernel
theorem d_PitchFinder_setLetter_17 : decode b_PitchFinder_setLetter 17 = .ok (.iload_n 1, 1) := by decide +kernel
theorem d_PitchFinder_setLetter_18 : decode b_PitchFinder_setLetter 18 = .ok (.bipush 97, 2) := by decide +kernel
theorem d_PitchFinder_setLetter_20 : decode b_PitchFinder_setLetter 20 = .ok (.isub, 1) := by decide +kernel
theorem d_PitchFinder_setLetter_21 : decode b_PitchFinder_setLetter 21 = .ok (.goto 7, 3) := by decide +kernel
theorem d_PitchFinder_setLetter_24 : decode b_PitchFinder_setLetter 24 = .ok (.iload_n 1, 1) := by decide +kernel
theorem d_PitchFinder_setLetter_25 : decode b_PitchFinder_setLetter 25 = .ok (.bipush 65, 2) := by decide +kernel
theorem d_PitchFinder_setLetter_27 : decode b_PitchFinder_setLetter 27 = .ok (.isub, 1) := by decide +kernel
theorem d_PitchFinder_setLetter_28 : decode b_PitchFinder_setLetter 28 = .ok (.putfield 26, 3) := by decide +kernel
theorem d_PitchFinder_setLetter_31 : decode b_PitchFinder_setLetter 31 = .ok (.aload_n 0, 1) := by decide +kernel
theorem d_PitchFinder_setLetter_32 : decode b_PitchFinder_setLetter 32 = .ok (.aload_n 0, 1) := by decide +kernel
theorem d_PitchFinder_setLetter_33 : decode b_PitchFinder_setLetter 33 = .ok (.getfield 26, 3) := by decide +kernel
theorem d_PitchFinder_setLetter_36 : decode b_PitchFinder_setLetter 36 = .ok (.ifCond .lt 25, 3) := by decide +kernel
theorem d_PitchFinder_setLetter_39 : decode b_PitchFinder_setLetter 39 = .ok (.aload_n 0, 1) := by decide +kernel
theorem d_PitchFinder_setLetter_40 : decode b_PitchFinder_setLetter 40 = .ok (.getfield 26, 3) := by decide +kernel
theorem d_PitchFinder_setLetter_43 : decode b_PitchFinder_setLetter 43 = .ok (.getstatic 29, 3) := by decide +kernel
theorem d_PitchFinder_setLetter_46 : decode b_PitchFinder_setLetter 46 = .ok (.arraylength, 1) := by decide +kernel
theorem d_PitchFinder_setLetter_47 : decode b_PitchFinder_setLetter 47 = .ok (.if_icmp .ge 14, 3) := by decide +kernel
theorem d_PitchFinder_setLetter_50 : decode b_PitchFinder_setLetter 50 = .ok (.getstatic 29, 3) := by decide +kernel
theorem d_PitchFinder_setLetter_53 : decode b_PitchFinder_setLetter 53 = .ok (.aload_n 0, 1) := by decide +kernel
theorem d_PitchFinder_setLetter_54 : decode b_PitchFinder_setLetter 54 = .ok (.getfield 26, 3) := by decide +kernel
theorem d_PitchFinder_setLetter_57 : decode b_PitchFinder_setLetter 57 = .ok (.iaload, 1) := by decide +kernel
theorem d_PitchFinder_setLetter_58 : decode b_PitchFinder_setLetter 58 = .ok (.goto 4, 3) := by decide +kernel
theorem d_PitchFinder_setLetter_61 : decode b_PitchFinder_setLetter 61 = .ok (.iconst 0, 1) := by decide +kernel
theorem d_PitchFinder_setLetter_62 : decode b_PitchFinder_setLetter 62 = .ok (.putfield 32, 3) := by decide +kernel
theorem d_PitchFinder_setLetter_65 : decode b_PitchFinder_setLetter 65 = .ok (.iload_n 2, 1) := by decide +kernel
theorem d_PitchFinder_setLetter_66 : decode b_PitchFinder_setLetter 66 = .ok (.ifCond .eq 14, 3) := by decide +kernel
theorem d_PitchFinder_setLetter_69 : decode b_PitchFinder_setLetter 69 = .ok (.aload_n 0, 1) := by decide +kernel
theorem d_PitchFinder_setLetter_70 : decode b_PitchFinder_setLetter 70 = .ok (.dup, 1) := by decide +kernel
theorem d_PitchFinder_setLetter_71 : decode b_PitchFinder_setLetter 71 = .ok (.getfield 32, 3) := by decide +kernel
theorem d_PitchFinder_setLetter_74 : decode b_PitchFinder_setLetter 74 = .ok (.bipush 12, 2) := by decide +kernel
theorem d_PitchFinder_setLetter_76 : decode b_PitchFinder_setLetter 76 = .ok (.iadd, 1) := by decide +kernel
theorem d_PitchFinder_setLetter_77 : decode b_PitchFinder_setLetter 77 = .ok (.putfield 32, 3) := by decide +kernel
theorem d_PitchFinder_setLetter_80 : decode b_PitchFinder_setLetter 80 = .ok (.return_, 1) := by decide +kernel
def w_PitchFinder_setLetter : List Cond := .code y_PitchFinder_setLetter b_PitchFinder_setLetter 3 none :: WALL
theorem g_PitchFinder_setLetter : GoodIn WALL w_PitchFinder_setLetter := good_of mc_PitchFinder_setLetter
set_option maxHeartbeats 4000000 in
set_option maxRecDepth 100000 in
theorem c_PitchFinder_setLetter (l : Launch) (D : va_G) (cA a : Nat → Nat) (sz : Nat) (x1 : Int32) (I : Nat → Int32) (A : Nat → Nat → Int32) (post : (Nat → Int32) → (Nat → Nat → Int32) → Prop) (h : wp_PitchFinder_setLetter x1 I A post) : Met l y_PitchFinder_setLetter w_PitchFinder_setLetter ({ frames := 0, cells := 0, slots := 0, locals := 0 }) (va_Pc [.ref (a 13), .int x1] (PreC D cA a I A sz)) (va_Qv (fun (u : StW) => post u.1 u.2) (EndC D cA a) (AC a sz)) 0 0 (AC a sz) := by
  refine Met.ofW (cc := b_PitchFinder_setLetter) (maxL := 3) (ret := none) (by decide) rfl ?_
  intro p e s m args below meth c s₁ B hml hv
  obtain ⟨rfl, hsz, hP, hK, hD0⟩ := hv
  have hx := B.exec
  have hb := B.bytes
  have hr := B.returns
  have hts := atoms_spec (ws := w_PitchFinder_setLetter) B.pre
  have hw := wall_of hts
  have hown : s.vm.findClass R_PitchFinder = some m.cls := findClass_of_methodNamed B.named
  have hlocks := B.notSynchronized
  subst hsz
  have hD := hDC (sz := s.heap.size) hD0
  have hA : ∀ q : Nat, s.heap.size ≤ q → AC a s.heap.size q := fun q h => Or.inr h
  have hS : va_S (AC a s.heap.size) s.heap s.heap [] := va_S.rf
  have j28 : ∀ (y2 : Int32) (s0 : Int32) (I : Nat → Int32) (A : Nat → Nat → Int32) (H : Heap) (locs : List Loc) (ls : Array Slot), wp_PitchFinder_setLetter_28 post y2 s0 I A → va_P D cls (wC cA a I A) H → va_S (AC a s.heap.size) s.heap H locs → lv_has ls 3 [(0, .ref (a 13)), (2, .int y2)] → W p l e (headSpec w_PitchFinder_setLetter ({ frames := 0, cells := 0, slots := 0, locals := 0 })).room s m [.ref (a 13), .int x1].toArray below meth c H locs 0 0 (MQ below (va_Qv (fun (u : StW) => post u.1 u.2) (EndC D cA a) (AC a s.heap.size)) [.ref (a 13), .int x1].toArray s 0 0 (AC a s.heap.size)) (F0 m 28 ls [.int s0, .ref (a 13)]) := by
    intro y2 s0 I A H locs ls h hP hS hl
    unfold wp_PitchFinder_setLetter_28 at h
    refine pC_PitchFinder_letter hx hb hw hown hK hD hS hP (hw _ m_PitchFinder_26) d_PitchFinder_setLetter_28 (fun H locs hP hS => ?_)
    refine lv_aload_n hx hb d_PitchFinder_setLetter_31 rfl (lv_at hl 0 rfl) ?_
    refine lv_aload_n hx hb d_PitchFinder_setLetter_32 rfl (lv_at hl 0 rfl) ?_
    refine gC_PitchFinder_letter hx hb hw hown hK hP (hw _ m_PitchFinder_26) d_PitchFinder_setLetter_33 ?_
    refine lv_if_lt (tgt := 61) hx hb d_PitchFinder_setLetter_36 rfl (fun q => ?_) (fun q => ?_)
    · have h := h.1 q
      refine lv_iconst (v := 0) hx hb d_PitchFinder_setLetter_61 ic_0 ?_
      refine pC_PitchFinder_natural hx hb hw hown hK hD hS hP (hw _ m_PitchFinder_32) d_PitchFinder_setLetter_62 (fun H locs hP hS => ?_)
      refine lv_iload_n hx hb d_PitchFinder_setLetter_65 rfl (lv_at hl 1 rfl) ?_
      refine lv_if_eq (tgt := 80) hx hb d_PitchFinder_setLetter_66 rfl (fun q => ?_) (fun q => ?_)
      · have h := h.1 q
        exact W.vret hx hb hr (fun t ht hW => ⟨⟨((upd (upd I 7 s0) 8 0), A), rfl, h, endC_of ht hP⟩, hS.F ht⟩) hS.2.2 d_PitchFinder_setLetter_80
      · have h := h.2 q
        refine lv_aload_n hx hb d_PitchFinder_setLetter_69 rfl (lv_at hl 0 rfl) ?_
        refine lv_dup hx hb d_PitchFinder_setLetter_70 rfl ?_
        refine gC_PitchFinder_natural hx hb hw hown hK hP (hw _ m_PitchFinder_32) d_PitchFinder_setLetter_71 ?_
        refine lv_bipush (v := 12) hx hb d_PitchFinder_setLetter_74 bp_12 ?_
        refine lv_iadd hx hb d_PitchFinder_setLetter_76 ?_
        refine pC_PitchFinder_natural hx hb hw hown hK hD hS hP (hw _ m_PitchFinder_32) d_PitchFinder_setLetter_77 (fun H locs hP hS => ?_)
        exact W.vret hx hb hr (fun t ht hW => ⟨⟨((upd (upd (upd I 7 s0) 8 0) 8 ((0 : Int32) + 12)), A), rfl, h, endC_of ht hP⟩, hS.F ht⟩) hS.2.2 d_PitchFinder_setLetter_80
    · have h := h.2 q
      refine lv_aload_n hx hb d_PitchFinder_setLetter_39 rfl (lv_at hl 0 rfl) ?_
      refine gC_PitchFinder_letter hx hb hw hown hK hP (hw _ m_PitchFinder_26) d_PitchFinder_setLetter_40 ?_
      refine zC_NATURAL hx hb hown hK hS (hw _ m_PitchFinder_29) d_PitchFinder_setLetter_43 ?_
      refine tlC_NATURAL hx hb hK hS d_PitchFinder_setLetter_46 ?_
      refine lv_icmp_ge (tgt := 61) hx hb d_PitchFinder_setLetter_47 rfl (fun q => ?_) (fun q => ?_)
      · have h := h.1 q
        refine lv_iconst (v := 0) hx hb d_PitchFinder_setLetter_61 ic_0 ?_
        refine pC_PitchFinder_natural hx hb hw hown hK hD hS hP (hw _ m_PitchFinder_32) d_PitchFinder_setLetter_62 (fun H locs hP hS => ?_)
        refine lv_iload_n hx hb d_PitchFinder_setLetter_65 rfl (lv_at hl 1 rfl) ?_
        refine lv_if_eq (tgt := 80) hx hb d_PitchFinder_setLetter_66 rfl (fun q => ?_) (fun q => ?_)
        · have h := h.1 q
          exact W.vret hx hb hr (fun t ht hW => ⟨⟨((upd (upd I 7 s0) 8 0), A), rfl, h, endC_of ht hP⟩, hS.F ht⟩) hS.2.2 d_PitchFinder_setLetter_80
        · have h := h.2 q
          refine lv_aload_n hx hb d_PitchFinder_setLetter_69 rfl (lv_at hl 0 rfl) ?_
          refine lv_dup hx hb d_PitchFinder_setLetter_70 rfl ?_
          refine gC_PitchFinder_natural hx hb hw hown hK hP (hw _ m_PitchFinder_32) d_PitchFinder_setLetter_71 ?_
          refine lv_bipush (v := 12) hx hb d_PitchFinder_setLetter_74 bp_12 ?_
          refine lv_iadd hx hb d_PitchFinder_setLetter_76 ?_
          refine pC_PitchFinder_natural hx hb hw hown hK hD hS hP (hw _ m_PitchFinder_32) d_PitchFinder_setLetter_77 (fun H locs hP hS => ?_)
          exact W.vret hx hb hr (fun t ht hW => ⟨⟨((upd (upd (upd I 7 s0) 8 0) 8 ((0 : Int32) + 12)), A), rfl, h, endC_of ht hP⟩, hS.F ht⟩) hS.2.2 d_PitchFinder_setLetter_80
      · have h := h.2 q
        refine zC_NATURAL hx hb hown hK hS (hw _ m_PitchFinder_29) d_PitchFinder_setLetter_50 ?_
        refine lv_aload_n hx hb d_PitchFinder_setLetter_53 rfl (lv_at hl 0 rfl) ?_
        refine gC_PitchFinder_letter hx hb hw hown hK hP (hw _ m_PitchFinder_26) d_PitchFinder_setLetter_54 ?_
        obtain ⟨hin, h⟩ := h
        refine tC_NATURAL hx hb hK hS hin d_PitchFinder_setLetter_57 ?_
        refine lv_goto (tgt := 62) hx hb d_PitchFinder_setLetter_58 rfl ?_
        refine pC_PitchFinder_natural hx hb hw hown hK hD hS hP (hw _ m_PitchFinder_32) d_PitchFinder_setLetter_62 (fun H locs hP hS => ?_)
        refine lv_iload_n hx hb d_PitchFinder_setLetter_65 rfl (lv_at hl 1 rfl) ?_
        refine lv_if_eq (tgt := 80) hx hb d_PitchFinder_setLetter_66 rfl (fun q => ?_) (fun q => ?_)
        · have h := h.1 q
          exact W.vret hx hb hr (fun t ht hW => ⟨⟨((upd (upd I 7 s0) 8 (tb_NATURAL s0.toNatClampNeg)), A), rfl, h, endC_of ht hP⟩, hS.F ht⟩) hS.2.2 d_PitchFinder_setLetter_80
        · have h := h.2 q
          refine lv_aload_n hx hb d_PitchFinder_setLetter_69 rfl (lv_at hl 0 rfl) ?_
          refine lv_dup hx hb d_PitchFinder_setLetter_70 rfl ?_
          refine gC_PitchFinder_natural hx hb hw hown hK hP (hw _ m_PitchFinder_32) d_PitchFinder_setLetter_71 ?_
          refine lv_bipush (v := 12) hx hb d_PitchFinder_setLetter_74 bp_12 ?_
          refine lv_iadd hx hb d_PitchFinder_setLetter_76 ?_
          refine pC_PitchFinder_natural hx hb hw hown hK hD hS hP (hw _ m_PitchFinder_32) d_PitchFinder_setLetter_77 (fun H locs hP hS => ?_)
          exact W.vret hx hb hr (fun t ht hW => ⟨⟨((upd (upd (upd I 7 s0) 8 (tb_NATURAL s0.toNatClampNeg)) 8 ((tb_NATURAL s0.toNatClampNeg) + 12)), A), rfl, h, endC_of ht hP⟩, hS.F ht⟩) hS.2.2 d_PitchFinder_setLetter_80
  have hl := lv_entry ([.ref (a 13), .int x1]) (n := 3) (Nat.le_of_ble_eq_true rfl)
  rw [lg_entry_eq]
  generalize (lg_sl ([.ref (a 13), .int x1]) ++ List.replicate (3 - (lg_sl ([.ref (a 13), .int x1])).length) Slot.unset).toArray = ls at hl ⊢
  have hl : lv_has ls 3 [(0, .ref (a 13)), (1, .int x1)] := hl
  unfold wp_PitchFinder_setLetter at h
  refine lv_iload_n hx hb d_PitchFinder_setLetter_0 rfl (lv_at hl 1 rfl) ?_
  refine lv_bipush (v := 97) hx hb d_PitchFinder_setLetter_1 bp_97 ?_
  refine lv_icmp_lt (tgt := 10) hx hb d_PitchFinder_setLetter_3 rfl (fun q => ?_) (fun q => ?_)
  · have h := h.1 q
    refine lv_iconst (v := 0) hx hb d_PitchFinder_setLetter_10 ic_0 ?_
    refine lv_istore_n (lv' := [(2, .int 0), (0, .ref (a 13)), (1, .int x1)]) hx hb d_PitchFinder_setLetter_11 rfl hl (by decide) rfl (fun ls hl => ?_)
    refine lv_aload_n hx hb d_PitchFinder_setLetter_12 rfl (lv_at hl 1 rfl) ?_
    refine lv_iload_n hx hb d_PitchFinder_setLetter_13 rfl (lv_at hl 0 rfl) ?_
    refine lv_if_eq (tgt := 24) hx hb d_PitchFinder_setLetter_14 rfl (fun q => ?_) (fun q => ?_)
    · have h := h.1 q
      refine lv_iload_n hx hb d_PitchFinder_setLetter_24 rfl (lv_at hl 2 rfl) ?_
      refine lv_bipush (v := 65) hx hb d_PitchFinder_setLetter_25 bp_65 ?_
      refine lv_isub hx hb d_PitchFinder_setLetter_27 ?_
      exact j28 0 (x1 - 65) I A _ _ _ h hP hS (lv_sub hl [1, 0] rfl)
    · have h := h.2 q
      refine lv_iload_n hx hb d_PitchFinder_setLetter_17 rfl (lv_at hl 2 rfl) ?_
      refine lv_bipush (v := 97) hx hb d_PitchFinder_setLetter_18 bp_97 ?_
      refine lv_isub hx hb d_PitchFinder_setLetter_20 ?_
      refine lv_goto (tgt := 28) hx hb d_PitchFinder_setLetter_21 rfl ?_
      exact j28 0 (x1 - 97) I A _ _ _ h hP hS (lv_sub hl [1, 0] rfl)
  · have h := h.2 q
    refine lv_iconst (v := 1) hx hb d_PitchFinder_setLetter_6 ic_1 ?_
    refine lv_goto (tgt := 11) hx hb d_PitchFinder_setLetter_7 rfl ?_
    refine lv_istore_n (lv' := [(2, .int 1), (0, .ref (a 13)), (1, .int x1)]) hx hb d_PitchFinder_setLetter_11 rfl hl (by decide) rfl (fun ls hl => ?_)
    refine lv_aload_n hx hb d_PitchFinder_setLetter_12 rfl (lv_at hl 1 rfl) ?_
    refine lv_iload_n hx hb d_PitchFinder_setLetter_13 rfl (lv_at hl 0 rfl) ?_
    refine lv_if_eq (tgt := 24) hx hb d_PitchFinder_setLetter_14 rfl (fun q => ?_) (fun q => ?_)
    · have h := h.1 q
      refine lv_iload_n hx hb d_PitchFinder_setLetter_24 rfl (lv_at hl 2 rfl) ?_
      refine lv_bipush (v := 65) hx hb d_PitchFinder_setLetter_25 bp_65 ?_
      refine lv_isub hx hb d_PitchFinder_setLetter_27 ?_
      exact j28 1 (x1 - 65) I A _ _ _ h hP hS (lv_sub hl [1, 0] rfl)
    · have h := h.2 q
      refine lv_iload_n hx hb d_PitchFinder_setLetter_17 rfl (lv_at hl 2 rfl) ?_
      refine lv_bipush (v := 97) hx hb d_PitchFinder_setLetter_18 bp_97 ?_
      refine lv_isub hx hb d_PitchFinder_setLetter_20 ?_
      refine lv_goto (tgt := 28) hx hb d_PitchFinder_setLetter_21 rfl ?_
      exact j28 1 (x1 - 97) I A _ _ _ h hP hS (lv_sub hl [1, 0] rfl)
theorem k_PitchFinder_setLetter {p : Program} {l : Launch} {e : Env} {R : Room} {s : State} {m : MethodId} {args : Array Value} {below : List Frame} {meth : Method} {c : Code} {H : Heap} {locs : List Loc} {cells slots : Nat} {Q : State → Prop} {cc : ByteArray} {pc nL idx : Nat} {own : String} {ls : Array Slot} {D : va_G} {cA a : Nat → Nat} {AA : Nat → Prop} {I : Nat → Int32} {A : Nat → Nat → Int32} {post : (Nat → Int32) → (Nat → Nat → Int32) → Prop} (x1 : Int32) {rest : List Value} (S : CallFix p m c cc nL s args WALL own) (hK : KC D cA a AA s) (hD : ∀ I A, va_D AA (wC cA a I A)) (hA : ∀ q : Nat, s.heap.size ≤ q → AA q) (hS : va_S AA s.heap H locs) (hP : va_P D cls (wC cA a I A) H) (hl1 : ls.size = nL) (hlink : (Cond.methodLink own idx y_PitchFinder_setLetter).before args s = true) (hst : (rest.map fun v => v.category).sum ≤ 8) (hR : ({ frames := 0, cells := 0, slots := 0, locals := 0 } : Room).frames + 1 ≤ R.frames ∧ 8 + (3 + 11) + ({ frames := 0, cells := 0, slots := 0, locals := 0 } : Room).locals ≤ R.locals) (hcs : cells ≤ R.cells ∧ slots ≤ R.slots) (hdg : decode cc pc = .ok (.invokevirtual idx, 3)) (h : wp_PitchFinder_setLetter x1 I A post) (kk : ∀ (I1 : Nat → Int32) (A1 : Nat → Nat → Int32) (H1 : Heap) (locs1 : List Loc), post I1 A1 → va_P D cls (wC cA a I1 A1) H1 → va_S AA s.heap H1 locs1 → W p l e R s m args below meth c H1 locs1 cells slots Q (F0 m (pc + 3) ls rest)) : W p l e R s m args below meth c H locs cells slots Q (F0 m pc ls (.int x1 :: .ref (a 13) :: rest)) :=
  va_callv (va_runV (As := [.int x1]) (rest := rest) S (c_PitchFinder_setLetter l D cA a H.size x1 I A post h) ⟨callB_of 1 S.2.2.2.2 g_PitchFinder_setLetter rfl rfl rfl (S.2.2.2.2 _ mi_PitchFinder) hlink ⟨by decide, by decide, by decide +kernel⟩ hR, S.2.2.2.2 _ mn_PitchFinder_setLetter, S.2.2.2.2 _ ms_PitchFinder_setLetter⟩ (preCV hK hD hA hS hP 13 rfl rfl) rfl rfl hl1 rfl (lv_room hst) hdg hcs) hS (fun q _ z => AC_le hD hA hS q z) (fun q z => AC_le hD hA hS q z) (fun u t H1 locs1 ht _ hp hB _ _ hS1 => kk u.1 u.2 H1 locs1 hp (of_endC ht hB) hS1)
def wp_PitchFinder_shift (x1 : Int32) (I : Nat → Int32) (A : Nat → Nat → Int32) (post : (Nat → Int32) → (Nat → Nat → Int32) → Prop) : Prop := post (upd I 8 ((I 8) + x1)) A
theorem d_PitchFinder_shift_0 : decode b_PitchFinder_shift 0 = .ok (.aload_n 0, 1) := by decide +kernel
theorem d_PitchFinder_shift_1 : decode b_PitchFinder_shift 1 = .ok (.dup, 1) := by decide +kernel
theorem d_PitchFinder_shift_2 : decode b_PitchFinder_shift 2 = .ok (.getfield 32, 3) := by decide +kernel
theorem d_PitchFinder_shift_5 : decode b_PitchFinder_shift 5 = .ok (.iload_n 1, 1) := by decide +kernel
theorem d_PitchFinder_shift_6 : decode b_PitchFinder_shift 6 = .ok (.iadd, 1) := by decide +kernel
theorem d_PitchFinder_shift_7 : decode b_PitchFinder_shift 7 = .ok (.putfield 32, 3) := by decide +kernel
theorem d_PitchFinder_shift_10 : decode b_PitchFinder_shift 10 = .ok (.return_, 1) := by decide +kernel
def w_PitchFinder_shift : List Cond := .code y_PitchFinder_shift b_PitchFinder_shift 2 none :: WALL
theorem g_PitchFinder_shift : GoodIn WALL w_PitchFinder_shift := good_of mc_PitchFinder_shift
set_option maxHeartbeats 4000000 in
set_option maxRecDepth 100000 in
theorem c_PitchFinder_shift (l : Launch) (D : va_G) (cA a : Nat → Nat) (sz : Nat) (x1 : Int32) (I : Nat → Int32) (A : Nat → Nat → Int32) (post : (Nat → Int32) → (Nat → Nat → Int32) → Prop) (h : wp_PitchFinder_shift x1 I A post) : Met l y_PitchFinder_shift w_PitchFinder_shift ({ frames := 0, cells := 0, slots := 0, locals := 0 }) (va_Pc [.ref (a 13), .int x1] (PreC D cA a I A sz)) (va_Qv (fun (u : StW) => post u.1 u.2) (EndC D cA a) (AC a sz)) 0 0 (AC a sz) := by
  refine Met.ofW (cc := b_PitchFinder_shift) (maxL := 2) (ret := none) (by decide) rfl ?_
  intro p e s m args below meth c s₁ B hml hv
  obtain ⟨rfl, hsz, hP, hK, hD0⟩ := hv
  have hx := B.exec
  have hb := B.bytes
  have hr := B.returns
  have hts := atoms_spec (ws := w_PitchFinder_shift) B.pre
  have hw := wall_of hts
  have hown : s.vm.findClass R_PitchFinder = some m.cls := findClass_of_methodNamed B.named
  have hlocks := B.notSynchronized
  subst hsz
  have hD := hDC (sz := s.heap.size) hD0
  have hA : ∀ q : Nat, s.heap.size ≤ q → AC a s.heap.size q := fun q h => Or.inr h
  have hS : va_S (AC a s.heap.size) s.heap s.heap [] := va_S.rf
  have hl := lv_entry ([.ref (a 13), .int x1]) (n := 2) (Nat.le_of_ble_eq_true rfl)
  rw [lg_entry_eq]
  generalize (lg_sl ([.ref (a 13), .int x1]) ++ List.replicate (2 - (lg_sl ([.ref (a 13), .int x1])).length) Slot.unset).toArray = ls at hl ⊢
  have hl : lv_has ls 2 [(0, .ref (a 13)), (1, .int x1)] := hl
  unfold wp_PitchFinder_shift at h
  refine lv_aload_n hx hb d_PitchFinder_shift_0 rfl (lv_at hl 0 rfl) ?_
  refine lv_dup hx hb d_PitchFinder_shift_1 rfl ?_
  refine gC_PitchFinder_natural hx hb hw hown hK hP (hw _ m_PitchFinder_32) d_PitchFinder_shift_2 ?_
  refine lv_iload_n hx hb d_PitchFinder_shift_5 rfl (lv_at hl 1 rfl) ?_
  refine lv_iadd hx hb d_PitchFinder_shift_6 ?_
  refine pC_PitchFinder_natural hx hb hw hown hK hD hS hP (hw _ m_PitchFinder_32) d_PitchFinder_shift_7 (fun H locs hP hS => ?_)
  exact W.vret hx hb hr (fun t ht hW => ⟨⟨((upd I 8 ((I 8) + x1)), A), rfl, h, endC_of ht hP⟩, hS.F ht⟩) hS.2.2 d_PitchFinder_shift_10
theorem k_PitchFinder_shift {p : Program} {l : Launch} {e : Env} {R : Room} {s : State} {m : MethodId} {args : Array Value} {below : List Frame} {meth : Method} {c : Code} {H : Heap} {locs : List Loc} {cells slots : Nat} {Q : State → Prop} {cc : ByteArray} {pc nL idx : Nat} {own : String} {ls : Array Slot} {D : va_G} {cA a : Nat → Nat} {AA : Nat → Prop} {I : Nat → Int32} {A : Nat → Nat → Int32} {post : (Nat → Int32) → (Nat → Nat → Int32) → Prop} (x1 : Int32) {rest : List Value} (S : CallFix p m c cc nL s args WALL own) (hK : KC D cA a AA s) (hD : ∀ I A, va_D AA (wC cA a I A)) (hA : ∀ q : Nat, s.heap.size ≤ q → AA q) (hS : va_S AA s.heap H locs) (hP : va_P D cls (wC cA a I A) H) (hl1 : ls.size = nL) (hlink : (Cond.methodLink own idx y_PitchFinder_shift).before args s = true) (hst : (rest.map fun v => v.category).sum ≤ 8) (hR : ({ frames := 0, cells := 0, slots := 0, locals := 0 } : Room).frames + 1 ≤ R.frames ∧ 8 + (2 + 11) + ({ frames := 0, cells := 0, slots := 0, locals := 0 } : Room).locals ≤ R.locals) (hcs : cells ≤ R.cells ∧ slots ≤ R.slots) (hdg : decode cc pc = .ok (.invokevirtual idx, 3)) (h : wp_PitchFinder_shift x1 I A post) (kk : ∀ (I1 : Nat → Int32) (A1 : Nat → Nat → Int32) (H1 : Heap) (locs1 : List Loc), post I1 A1 → va_P D cls (wC cA a I1 A1) H1 → va_S AA s.heap H1 locs1 → W p l e R s m args below meth c H1 locs1 cells slots Q (F0 m (pc + 3) ls rest)) : W p l e R s m args below meth c H locs cells slots Q (F0 m pc ls (.int x1 :: .ref (a 13) :: rest)) :=
  va_callv (va_runV (As := [.int x1]) (rest := rest) S (c_PitchFinder_shift l D cA a H.size x1 I A post h) ⟨callB_of 1 S.2.2.2.2 g_PitchFinder_shift rfl rfl rfl (S.2.2.2.2 _ mi_PitchFinder) hlink ⟨by decide, by decide, by decide +kernel⟩ hR, S.2.2.2.2 _ mn_PitchFinder_shift, S.2.2.2.2 _ ms_PitchFinder_shift⟩ (preCV hK hD hA hS hP 13 rfl rfl) rfl rfl hl1 rfl (lv_room hst) hdg hcs) hS (fun q _ z => AC_le hD hA hS q z) (fun q z => AC_le hD hA hS q z) (fun u t H1 locs1 ht _ hp hB _ _ hS1 => kk u.1 u.2 H1 locs1 hp (of_endC ht hB) hS1)
def wp_ItemLength_addTopDigit (x1 : Int32) (I : Nat → Int32) (A : Nat → Nat → Int32) (post : (Nat → Int32) → (Nat → Nat → Int32) → Prop) : Prop := (((I 11) = 0 → post (upd (upd I 9 x1) 11 ((I 11) + 1)) A) ∧ (¬ (I 11) = 0 → post (upd (upd I 9 (((10 : Int32) * (I 9)) + x1)) 11 ((I 11) + 1)) A))
theorem d_ItemLength_addTopDigit_0 : decode b_ItemLength_addTopDigit 0 = .ok (.aload_n 0, 1) := by decide +kernel
theorem d_ItemLength_addTopDigit_1 : decode b_ItemLength_addTopDigit 1 = .ok (.aload_n 0, 1) := by decide +kernel
theorem d_ItemLength_addTopDigit_2 : decode b_ItemLength_addTopDigit 2 = .ok (.getfield 16, 3) := by decide +kernel
theorem d_ItemLength_addTopDigit_5 : decode b_ItemLength_addTopDigit 5 = .ok (.ifCond .ne 7, 3) := by decide +kernel
theorem d_ItemLength_addTopDigit_8 : decode b_ItemLength_addTopDigit 8 = .ok (.iload_n 1, 1) := by decide +kernel
theorem d_ItemLength_addTopDigit_9 : decode b_ItemLength_addTopDigit 9 = .ok (.goto 12, 3) := by decide +kernel
theorem d_ItemLength_addTopDigit_12 : decode b_ItemLength_addTopDigit 12 = .ok (.bipush 10, 2) := by decide +kernel
theorem d_ItemLength_addTopDigit_14 : decode b_ItemLength_addTopDigit 14 = .ok (.aload_n 0, 1) := by decide +kernel
theorem d_ItemLength_addTopDigit_15 : decode b_ItemLength_addTopDigit 15 = .ok (.getfield 7, 3) := by decide +kernel
theorem d_ItemLength_addTopDigit_18 : decode b_ItemLength_addTopDigit 18 = .ok (.imul, 1) := by decide +kernel
theorem d_ItemLength_addTopDigit_19 : decode b_ItemLength_addTopDigit 19 = .ok (.iload_n 1, 1) := by decide +kernel
theorem d_ItemLength_addTopDigit_20 : decode b_ItemLength_addTopDigit 20 = .ok (.iadd, 1) := by decide +kernel
theorem d_ItemLength_addTopDigit_21 : decode b_ItemLength_addTopDigit 21 = .ok (.putfield 7, 3) := by decide +kernel
theorem d_ItemLength_addTopDigit_24 : decode b_ItemLength_addTopDigit 24 = .ok (.aload_n 0, 1) := by decide +kernel
theorem d_ItemLength_addTopDigit_25 : decode b_ItemLength_addTopDigit 25 = .ok (.dup, 1) := by decide +kernel
theorem d_ItemLength_addTopDigit_26 : decode b_ItemLength_addTopDigit 26 = .ok (.getfield 16, 3) := by decide +kernel
theorem d_ItemLength_addTopDigit_29 : decode b_ItemLength_addTopDigit 29 = .ok (.iconst 1, 1) := by decide +kernel
theorem d_ItemLength_addTopDigit_30 : decode b_ItemLength_addTopDigit 30 = .ok (.iadd, 1) := by decide +kernel
theorem d_ItemLength_addTopDigit_31 : decode b_ItemLength_addTopDigit 31 = .ok (.putfield 16, 3) := by decide +kernel
theorem d_ItemLength_addTopDigit_34 : decode b_ItemLength_addTopDigit 34 = .ok (.return_, 1) := by decide +kernel
def w_ItemLength_addTopDigit : List Cond := .code y_ItemLength_addTopDigit b_ItemLength_addTopDigit 2 none :: WALL
theorem g_ItemLength_addTopDigit : GoodIn WALL w_ItemLength_addTopDigit := good_of mc_ItemLength_addTopDigit
set_option maxHeartbeats 4000000 in
set_option maxRecDepth 100000 in
theorem c_ItemLength_addTopDigit (l : Launch) (D : va_G) (cA a : Nat → Nat) (sz : Nat) (x1 : Int32) (I : Nat → Int32) (A : Nat → Nat → Int32) (post : (Nat → Int32) → (Nat → Nat → Int32) → Prop) (h : wp_ItemLength_addTopDigit x1 I A post) : Met l y_ItemLength_addTopDigit w_ItemLength_addTopDigit ({ frames := 0, cells := 0, slots := 0, locals := 0 }) (va_Pc [.ref (a 15), .int x1] (PreC D cA a I A sz)) (va_Qv (fun (u : StW) => post u.1 u.2) (EndC D cA a) (AC a sz)) 0 0 (AC a sz) := by
  refine Met.ofW (cc := b_ItemLength_addTopDigit) (maxL := 2) (ret := none) (by decide) rfl ?_
  intro p e s m args below meth c s₁ B hml hv
  obtain ⟨rfl, hsz, hP, hK, hD0⟩ := hv
  have hx := B.exec
  have hb := B.bytes
  have hr := B.returns
  have hts := atoms_spec (ws := w_ItemLength_addTopDigit) B.pre
  have hw := wall_of hts
  have hown : s.vm.findClass R_ItemLength = some m.cls := findClass_of_methodNamed B.named
  have hlocks := B.notSynchronized
  subst hsz
  have hD := hDC (sz := s.heap.size) hD0
  have hA : ∀ q : Nat, s.heap.size ≤ q → AC a s.heap.size q := fun q h => Or.inr h
  have hS : va_S (AC a s.heap.size) s.heap s.heap [] := va_S.rf
  have hl := lv_entry ([.ref (a 15), .int x1]) (n := 2) (Nat.le_of_ble_eq_true rfl)
  rw [lg_entry_eq]
  generalize (lg_sl ([.ref (a 15), .int x1]) ++ List.replicate (2 - (lg_sl ([.ref (a 15), .int x1])).length) Slot.unset).toArray = ls at hl ⊢
  have hl : lv_has ls 2 [(0, .ref (a 15)), (1, .int x1)] := hl
  unfold wp_ItemLength_addTopDigit at h
  refine lv_aload_n hx hb d_ItemLength_addTopDigit_0 rfl (lv_at hl 0 rfl) ?_
  refine lv_aload_n hx hb d_ItemLength_addTopDigit_1 rfl (lv_at hl 0 rfl) ?_
  refine gC_ItemLength_digits hx hb hw hown hK hP (hw _ m_ItemLength_16) d_ItemLength_addTopDigit_2 ?_
  refine lv_if_ne (tgt := 12) hx hb d_ItemLength_addTopDigit_5 rfl (fun q => ?_) (fun q => ?_)
  · have h := h.2 q
    refine lv_bipush (v := 10) hx hb d_ItemLength_addTopDigit_12 bp_10 ?_
    refine lv_aload_n hx hb d_ItemLength_addTopDigit_14 rfl (lv_at hl 0 rfl) ?_
    refine gC_ItemLength_top hx hb hw hown hK hP (hw _ m_ItemLength_7) d_ItemLength_addTopDigit_15 ?_
    refine lv_imul hx hb d_ItemLength_addTopDigit_18 ?_
    refine lv_iload_n hx hb d_ItemLength_addTopDigit_19 rfl (lv_at hl 1 rfl) ?_
    refine lv_iadd hx hb d_ItemLength_addTopDigit_20 ?_
    refine pC_ItemLength_top hx hb hw hown hK hD hS hP (hw _ m_ItemLength_7) d_ItemLength_addTopDigit_21 (fun H locs hP hS => ?_)
    refine lv_aload_n hx hb d_ItemLength_addTopDigit_24 rfl (lv_at hl 0 rfl) ?_
    refine lv_dup hx hb d_ItemLength_addTopDigit_25 rfl ?_
    refine gC_ItemLength_digits hx hb hw hown hK hP (hw _ m_ItemLength_16) d_ItemLength_addTopDigit_26 ?_
    refine lv_iconst (v := 1) hx hb d_ItemLength_addTopDigit_29 ic_1 ?_
    refine lv_iadd hx hb d_ItemLength_addTopDigit_30 ?_
    refine pC_ItemLength_digits hx hb hw hown hK hD hS hP (hw _ m_ItemLength_16) d_ItemLength_addTopDigit_31 (fun H locs hP hS => ?_)
    exact W.vret hx hb hr (fun t ht hW => ⟨⟨((upd (upd I 9 (((10 : Int32) * (I 9)) + x1)) 11 ((I 11) + 1)), A), rfl, h, endC_of ht hP⟩, hS.F ht⟩) hS.2.2 d_ItemLength_addTopDigit_34
  · have h := h.1 q
    refine lv_iload_n hx hb d_ItemLength_addTopDigit_8 rfl (lv_at hl 1 rfl) ?_
    refine lv_goto (tgt := 21) hx hb d_ItemLength_addTopDigit_9 rfl ?_
    refine pC_ItemLength_top hx hb hw hown hK hD hS hP (hw _ m_ItemLength_7) d_ItemLength_addTopDigit_21 (fun H locs hP hS => ?_)
    refine lv_aload_n hx hb d_ItemLength_addTopDigit_24 rfl (lv_at hl 0 rfl) ?_
    refine lv_dup hx hb d_ItemLength_addTopDigit_25 rfl ?_
    refine gC_ItemLength_digits hx hb hw hown hK hP (hw _ m_ItemLength_16) d_ItemLength_addTopDigit_26 ?_
    refine lv_iconst (v := 1) hx hb d_ItemLength_addTopDigit_29 ic_1 ?_
    refine lv_iadd hx hb d_ItemLength_addTopDigit_30 ?_
    refine pC_ItemLength_digits hx hb hw hown hK hD hS hP (hw _ m_ItemLength_16) d_ItemLength_addTopDigit_31 (fun H locs hP hS => ?_)
    exact W.vret hx hb hr (fun t ht hW => ⟨⟨((upd (upd I 9 x1) 11 ((I 11) + 1)), A), rfl, h, endC_of ht hP⟩, hS.F ht⟩) hS.2.2 d_ItemLength_addTopDigit_34
theorem k_ItemLength_addTopDigit {p : Program} {l : Launch} {e : Env} {R : Room} {s : State} {m : MethodId} {args : Array Value} {below : List Frame} {meth : Method} {c : Code} {H : Heap} {locs : List Loc} {cells slots : Nat} {Q : State → Prop} {cc : ByteArray} {pc nL idx : Nat} {own : String} {ls : Array Slot} {D : va_G} {cA a : Nat → Nat} {AA : Nat → Prop} {I : Nat → Int32} {A : Nat → Nat → Int32} {post : (Nat → Int32) → (Nat → Nat → Int32) → Prop} (x1 : Int32) {rest : List Value} (S : CallFix p m c cc nL s args WALL own) (hK : KC D cA a AA s) (hD : ∀ I A, va_D AA (wC cA a I A)) (hA : ∀ q : Nat, s.heap.size ≤ q → AA q) (hS : va_S AA s.heap H locs) (hP : va_P D cls (wC cA a I A) H) (hl1 : ls.size = nL) (hlink : (Cond.methodLink own idx y_ItemLength_addTopDigit).before args s = true) (hst : (rest.map fun v => v.category).sum ≤ 8) (hR : ({ frames := 0, cells := 0, slots := 0, locals := 0 } : Room).frames + 1 ≤ R.frames ∧ 8 + (2 + 11) + ({ frames := 0, cells := 0, slots := 0, locals := 0 } : Room).locals ≤ R.locals) (hcs : cells ≤ R.cells ∧ slots ≤ R.slots) (hdg : decode cc pc = .ok (.invokevirtual idx, 3)) (h : wp_ItemLength_addTopDigit x1 I A post) (kk : ∀ (I1 : Nat → Int32) (A1 : Nat → Nat → Int32) (H1 : Heap) (locs1 : List Loc), post I1 A1 → va_P D cls (wC cA a I1 A1) H1 → va_S AA s.heap H1 locs1 → W p l e R s m args below meth c H1 locs1 cells slots Q (F0 m (pc + 3) ls rest)) : W p l e R s m args below meth c H locs cells slots Q (F0 m pc ls (.int x1 :: .ref (a 15) :: rest)) :=
  va_callv (va_runV (As := [.int x1]) (rest := rest) S (c_ItemLength_addTopDigit l D cA a H.size x1 I A post h) ⟨callB_of 1 S.2.2.2.2 g_ItemLength_addTopDigit rfl rfl rfl (S.2.2.2.2 _ mi_ItemLength) hlink ⟨by decide, by decide, by decide +kernel⟩ hR, S.2.2.2.2 _ mn_ItemLength_addTopDigit, S.2.2.2.2 _ ms_ItemLength_addTopDigit⟩ (preCV hK hD hA hS hP 15 rfl rfl) rfl rfl hl1 rfl (lv_room hst) hdg hcs) hS (fun q _ z => AC_le hD hA hS q z) (fun q z => AC_le hD hA hS q z) (fun u t H1 locs1 ht _ hp hB _ _ hS1 => kk u.1 u.2 H1 locs1 hp (of_endC ht hB) hS1)
def wp_ItemLength_addSlash (I : Nat → Int32) (A : Nat → Nat → Int32) (post : (Nat → Int32) → (Nat → Nat → Int32) → Prop) : Prop := post (upd (upd I 10 2) 11 0) A
theorem d_ItemLength_addSlash_0 : decode b_ItemLength_addSlash 0 = .ok (.aload_n 0, 1) := by decide +kernel
theorem d_ItemLength_addSlash_1 : decode b_ItemLength_addSlash 1 = .ok (.iconst 2, 1) := by decide +kernel
theorem d_ItemLength_addSlash_2 : decode b_ItemLength_addSlash 2 = .ok (.putfield 13, 3) := by decide +kernel
theorem d_ItemLength_addSlash_5 : decode b_ItemLength_addSlash 5 = .ok (.aload_n 0, 1) := by decide +kernel
theorem d_ItemLength_addSlash_6 : decode b_ItemLength_addSlash 6 = .ok (.iconst 0, 1) := by decide +kernel
theorem d_ItemLength_addSlash_7 : decode b_ItemLength_addSlash 7 = .ok (.putfield 16, 3) := by decide +kernel
theorem d_ItemLength_addSlash_10 : decode b_ItemLength_addSlash 10 = .ok (.return_, 1) := by decide +kernel
def w_ItemLength_addSlash : List Cond := .code y_ItemLength_addSlash b_ItemLength_addSlash 1 none :: WALL
theorem g_ItemLength_addSlash : GoodIn WALL w_ItemLength_addSlash := good_of mc_ItemLength_addSlash
set_option maxHeartbeats 4000000 in
set_option maxRecDepth 100000 in
theorem c_ItemLength_addSlash (l : Launch) (D : va_G) (cA a : Nat → Nat) (sz : Nat) (I : Nat → Int32) (A : Nat → Nat → Int32) (post : (Nat → Int32) → (Nat → Nat → Int32) → Prop) (h : wp_ItemLength_addSlash I A post) : Met l y_ItemLength_addSlash w_ItemLength_addSlash ({ frames := 0, cells := 0, slots := 0, locals := 0 }) (va_Pc [.ref (a 15)] (PreC D cA a I A sz)) (va_Qv (fun (u : StW) => post u.1 u.2) (EndC D cA a) (AC a sz)) 0 0 (AC a sz) := by
  refine Met.ofW (cc := b_ItemLength_addSlash) (maxL := 1) (ret := none) (by decide) rfl ?_
  intro p e s m args below meth c s₁ B hml hv
  obtain ⟨rfl, hsz, hP, hK, hD0⟩ := hv
  have hx := B.exec
  have hb := B.bytes
  have hr := B.returns
  have hts := atoms_spec (ws := w_ItemLength_addSlash) B.pre
  have hw := wall_of hts
  have hown : s.vm.findClass R_ItemLength = some m.cls := findClass_of_methodNamed B.named
  have hlocks := B.notSynchronized
  subst hsz
  have hD := hDC (sz := s.heap.size) hD0
  have hA : ∀ q : Nat, s.heap.size ≤ q → AC a s.heap.size q := fun q h => Or.inr h
  have hS : va_S (AC a s.heap.size) s.heap s.heap [] := va_S.rf
  have hl := lv_entry ([.ref (a 15)]) (n := 1) (Nat.le_of_ble_eq_true rfl)
  rw [lg_entry_eq]
  generalize (lg_sl ([.ref (a 15)]) ++ List.replicate (1 - (lg_sl ([.ref (a 15)])).length) Slot.unset).toArray = ls at hl ⊢
  have hl : lv_has ls 1 [(0, .ref (a 15))] := hl
  unfold wp_ItemLength_addSlash at h
  refine lv_aload_n hx hb d_ItemLength_addSlash_0 rfl (lv_at hl 0 rfl) ?_
  refine lv_iconst (v := 2) hx hb d_ItemLength_addSlash_1 ic_2 ?_
  refine pC_ItemLength_bottom hx hb hw hown hK hD hS hP (hw _ m_ItemLength_13) d_ItemLength_addSlash_2 (fun H locs hP hS => ?_)
  refine lv_aload_n hx hb d_ItemLength_addSlash_5 rfl (lv_at hl 0 rfl) ?_
  refine lv_iconst (v := 0) hx hb d_ItemLength_addSlash_6 ic_0 ?_
  refine pC_ItemLength_digits hx hb hw hown hK hD hS hP (hw _ m_ItemLength_16) d_ItemLength_addSlash_7 (fun H locs hP hS => ?_)
  exact W.vret hx hb hr (fun t ht hW => ⟨⟨((upd (upd I 10 2) 11 0), A), rfl, h, endC_of ht hP⟩, hS.F ht⟩) hS.2.2 d_ItemLength_addSlash_10
theorem k_ItemLength_addSlash {p : Program} {l : Launch} {e : Env} {R : Room} {s : State} {m : MethodId} {args : Array Value} {below : List Frame} {meth : Method} {c : Code} {H : Heap} {locs : List Loc} {cells slots : Nat} {Q : State → Prop} {cc : ByteArray} {pc nL idx : Nat} {own : String} {ls : Array Slot} {D : va_G} {cA a : Nat → Nat} {AA : Nat → Prop} {I : Nat → Int32} {A : Nat → Nat → Int32} {post : (Nat → Int32) → (Nat → Nat → Int32) → Prop} {rest : List Value} (S : CallFix p m c cc nL s args WALL own) (hK : KC D cA a AA s) (hD : ∀ I A, va_D AA (wC cA a I A)) (hA : ∀ q : Nat, s.heap.size ≤ q → AA q) (hS : va_S AA s.heap H locs) (hP : va_P D cls (wC cA a I A) H) (hl1 : ls.size = nL) (hlink : (Cond.methodLink own idx y_ItemLength_addSlash).before args s = true) (hst : (rest.map fun v => v.category).sum ≤ 8) (hR : ({ frames := 0, cells := 0, slots := 0, locals := 0 } : Room).frames + 1 ≤ R.frames ∧ 8 + (1 + 11) + ({ frames := 0, cells := 0, slots := 0, locals := 0 } : Room).locals ≤ R.locals) (hcs : cells ≤ R.cells ∧ slots ≤ R.slots) (hdg : decode cc pc = .ok (.invokevirtual idx, 3)) (h : wp_ItemLength_addSlash I A post) (kk : ∀ (I1 : Nat → Int32) (A1 : Nat → Nat → Int32) (H1 : Heap) (locs1 : List Loc), post I1 A1 → va_P D cls (wC cA a I1 A1) H1 → va_S AA s.heap H1 locs1 → W p l e R s m args below meth c H1 locs1 cells slots Q (F0 m (pc + 3) ls rest)) : W p l e R s m args below meth c H locs cells slots Q (F0 m pc ls (.ref (a 15) :: rest)) :=
  va_callv (va_runV (As := []) (rest := rest) S (c_ItemLength_addSlash l D cA a H.size I A post h) ⟨callB_of 0 S.2.2.2.2 g_ItemLength_addSlash rfl rfl rfl (S.2.2.2.2 _ mi_ItemLength) hlink ⟨by decide, by decide, by decide +kernel⟩ hR, S.2.2.2.2 _ mn_ItemLength_addSlash, S.2.2.2.2 _ ms_ItemLength_addSlash⟩ (preCV hK hD hA hS hP 15 rfl rfl) rfl rfl hl1 rfl (lv_room hst) hdg hcs) hS (fun q _ z => AC_le hD hA hS q z) (fun q z => AC_le hD hA hS q z) (fun u t H1 locs1 ht _ hp hB _ _ hS1 => kk u.1 u.2 H1 locs1 hp (of_endC ht hB) hS1)
def wp_ItemLength_addBottomDigit (x1 : Int32) (I : Nat → Int32) (A : Nat → Nat → Int32) (post : (Nat → Int32) → (Nat → Nat → Int32) → Prop) : Prop := (((I 11) = 0 → post (upd (upd I 10 x1) 11 ((I 11) + 1)) A) ∧ (¬ (I 11) = 0 → post (upd (upd I 10 (((10 : Int32) * (I 10)) + x1)) 11 ((I 11) + 1)) A))
theorem d_ItemLength_addBottomDigit_0 : decode b_ItemLength_addBottomDigit 0 = .ok (.aload_n 0, 1) := by decide +kernel
theorem d_ItemLength_addBottomDigit_1 : decode b_ItemLength_addBottomDigit 1 = .ok (.aload_n 0, 1) := by decide +kernel
theorem d_ItemLength_addBottomDigit_2 : decode b_ItemLength_addBottomDigit 2 = .ok (.getfield 16, 3) := by decide +kernel
theorem d_ItemLength_addBottomDigit_5 : decode b_ItemLength_addBottomDigit 5 = .ok (.ifCond .ne 7, 3) := by decide +kernel
theorem d_ItemLength_addBottomDigit_8 : decode b_ItemLength_addBottomDigit 8 = .ok (.iload_n 1, 1) := by decide +kernel
theorem d_ItemLength_addBottomDigit_9 : decode b_ItemLength_addBottomDigit 9 = .ok (.goto 12, 3) := by decide +kernel
theorem d_ItemLength_addBottomDigit_12 : decode b_ItemLength_addBottomDigit 12 = .ok (.bipush 10, 2) := by decide +kernel
theorem d_ItemLength_addBottomDigit_14 : decode b_ItemLength_addBottomDigit 14 = .ok (.aload_n 0, 1) := by decide +kernel
theorem d_ItemLength_addBottomDigit_15 : decode b_ItemLength_addBottomDigit 15 = .ok (.getfield 13, 3) := by decide +kernel
theorem d_ItemLength_addBottomDigit_18 : decode b_ItemLength_addBottomDigit 18 = .ok (.imul, 1) := by decide +kernel
theorem d_ItemLength_addBottomDigit_19 : decode b_ItemLength_addBottomDigit 19 = .ok (.iload_n 1, 1) := by decide +kernel
theorem d_ItemLength_addBottomDigit_20 : decode b_ItemLength_addBottomDigit 20 = .ok (.iadd, 1) := by decide +kernel
theorem d_ItemLength_addBottomDigit_21 : decode b_ItemLength_addBottomDigit 21 = .ok (.putfield 13, 3) := by decide +kernel
theorem d_ItemLength_addBottomDigit_24 : decode b_ItemLength_addBottomDigit 24 = .ok (.aload_n 0, 1) := by decide +kernel
theorem d_ItemLength_addBottomDigit_25 : decode b_ItemLength_addBottomDigit 25 = .ok (.dup, 1) := by decide +kernel
theorem d_ItemLength_addBottomDigit_26 : decode b_ItemLength_addBottomDigit 26 = .ok (.getfield 16, 3) := by decide +kernel
theorem d_ItemLength_addBottomDigit_29 : decode b_ItemLength_addBottomDigit 29 = .ok (.iconst 1, 1) := by decide +kernel
theorem d_ItemLength_addBottomDigit_30 : decode b_ItemLength_addBottomDigit 30 = .ok (.iadd, 1) := by decide +kernel
theorem d_ItemLength_addBottomDigit_31 : decode b_ItemLength_addBottomDigit 31 = .ok (.putfield 16, 3) := by decide +kernel
theorem d_ItemLength_addBottomDigit_34 : decode b_ItemLength_addBottomDigit 34 = .ok (.return_, 1) := by decide +kernel
def w_ItemLength_addBottomDigit : List Cond := .code y_ItemLength_addBottomDigit b_ItemLength_addBottomDigit 2 none :: WALL
theorem g_ItemLength_addBottomDigit : GoodIn WALL w_ItemLength_addBottomDigit := good_of mc_ItemLength_addBottomDigit
set_option maxHeartbeats 4000000 in
set_option maxRecDepth 100000 in
theorem c_ItemLength_addBottomDigit (l : Launch) (D : va_G) (cA a : Nat → Nat) (sz : Nat) (x1 : Int32) (I : Nat → Int32) (A : Nat → Nat → Int32) (post : (Nat → Int32) → (Nat → Nat → Int32) → Prop) (h : wp_ItemLength_addBottomDigit x1 I A post) : Met l y_ItemLength_addBottomDigit w_ItemLength_addBottomDigit ({ frames := 0, cells := 0, slots := 0, locals := 0 }) (va_Pc [.ref (a 15), .int x1] (PreC D cA a I A sz)) (va_Qv (fun (u : StW) => post u.1 u.2) (EndC D cA a) (AC a sz)) 0 0 (AC a sz) := by
  refine Met.ofW (cc := b_ItemLength_addBottomDigit) (maxL := 2) (ret := none) (by decide) rfl ?_
  intro p e s m args below meth c s₁ B hml hv
  obtain ⟨rfl, hsz, hP, hK, hD0⟩ := hv
  have hx := B.exec
  have hb := B.bytes
  have hr := B.returns
  have hts := atoms_spec (ws := w_ItemLength_addBottomDigit) B.pre
  have hw := wall_of hts
  have hown : s.vm.findClass R_ItemLength = some m.cls := findClass_of_methodNamed B.named
  have hlocks := B.notSynchronized
  subst hsz
  have hD := hDC (sz := s.heap.size) hD0
  have hA : ∀ q : Nat, s.heap.size ≤ q → AC a s.heap.size q := fun q h => Or.inr h
  have hS : va_S (AC a s.heap.size) s.heap s.heap [] := va_S.rf
  have hl := lv_entry ([.ref (a 15), .int x1]) (n := 2) (Nat.le_of_ble_eq_true rfl)
  rw [lg_entry_eq]
  generalize (lg_sl ([.ref (a 15), .int x1]) ++ List.replicate (2 - (lg_sl ([.ref (a 15), .int x1])).length) Slot.unset).toArray = ls at hl ⊢
  have hl : lv_has ls 2 [(0, .ref (a 15)), (1, .int x1)] := hl
  unfold wp_ItemLength_addBottomDigit at h
  refine lv_aload_n hx hb d_ItemLength_addBottomDigit_0 rfl (lv_at hl 0 rfl) ?_
  refine lv_aload_n hx hb d_ItemLength_addBottomDigit_1 rfl (lv_at hl 0 rfl) ?_
  refine gC_ItemLength_digits hx hb hw hown hK hP (hw _ m_ItemLength_16) d_ItemLength_addBottomDigit_2 ?_
  refine lv_if_ne (tgt := 12) hx hb d_ItemLength_addBottomDigit_5 rfl (fun q => ?_) (fun q => ?_)
  · have h := h.2 q
    refine lv_bipush (v := 10) hx hb d_ItemLength_addBottomDigit_12 bp_10 ?_
    refine lv_aload_n hx hb d_ItemLength_addBottomDigit_14 rfl (lv_at hl 0 rfl) ?_
    refine gC_ItemLength_bottom hx hb hw hown hK hP (hw _ m_ItemLength_13) d_ItemLength_addBottomDigit_15 ?_
    refine lv_imul hx hb d_ItemLength_addBottomDigit_18 ?_
    refine lv_iload_n hx hb d_ItemLength_addBottomDigit_19 rfl (lv_at hl 1 rfl) ?_
    refine lv_iadd hx hb d_ItemLength_addBottomDigit_20 ?_
    refine pC_ItemLength_bottom hx hb hw hown hK hD hS hP (hw _ m_ItemLength_13) d_ItemLength_addBottomDigit_21 (fun H locs hP hS => ?_)
    refine lv_aload_n hx hb d_ItemLength_addBottomDigit_24 rfl (lv_at hl 0 rfl) ?_
    refine lv_dup hx hb d_ItemLength_addBottomDigit_25 rfl ?_
    refine gC_ItemLength_digits hx hb hw hown hK hP (hw _ m_ItemLength_16) d_ItemLength_addBottomDigit_26 ?_
    refine lv_iconst (v := 1) hx hb d_ItemLength_addBottomDigit_29 ic_1 ?_
    refine lv_iadd hx hb d_ItemLength_addBottomDigit_30 ?_
    refine pC_ItemLength_digits hx hb hw hown hK hD hS hP (hw _ m_ItemLength_16) d_ItemLength_addBottomDigit_31 (fun H locs hP hS => ?_)
    exact W.vret hx hb hr (fun t ht hW => ⟨⟨((upd (upd I 10 (((10 : Int32) * (I 10)) + x1)) 11 ((I 11) + 1)), A), rfl, h, endC_of ht hP⟩, hS.F ht⟩) hS.2.2 d_ItemLength_addBottomDigit_34
  · have h := h.1 q
    refine lv_iload_n hx hb d_ItemLength_addBottomDigit_8 rfl (lv_at hl 1 rfl) ?_
    refine lv_goto (tgt := 21) hx hb d_ItemLength_addBottomDigit_9 rfl ?_
    refine pC_ItemLength_bottom hx hb hw hown hK hD hS hP (hw _ m_ItemLength_13) d_ItemLength_addBottomDigit_21 (fun H locs hP hS => ?_)
    refine lv_aload_n hx hb d_ItemLength_addBottomDigit_24 rfl (lv_at hl 0 rfl) ?_
    refine lv_dup hx hb d_ItemLength_addBottomDigit_25 rfl ?_
    refine gC_ItemLength_digits hx hb hw hown hK hP (hw _ m_ItemLength_16) d_ItemLength_addBottomDigit_26 ?_
    refine lv_iconst (v := 1) hx hb d_ItemLength_addBottomDigit_29 ic_1 ?_
    refine lv_iadd hx hb d_ItemLength_addBottomDigit_30 ?_
    refine pC_ItemLength_digits hx hb hw hown hK hD hS hP (hw _ m_ItemLength_16) d_ItemLength_addBottomDigit_31 (fun H locs hP hS => ?_)
    exact W.vret hx hb hr (fun t ht hW => ⟨⟨((upd (upd I 10 x1) 11 ((I 11) + 1)), A), rfl, h, endC_of ht hP⟩, hS.F ht⟩) hS.2.2 d_ItemLength_addBottomDigit_34
theorem k_ItemLength_addBottomDigit {p : Program} {l : Launch} {e : Env} {R : Room} {s : State} {m : MethodId} {args : Array Value} {below : List Frame} {meth : Method} {c : Code} {H : Heap} {locs : List Loc} {cells slots : Nat} {Q : State → Prop} {cc : ByteArray} {pc nL idx : Nat} {own : String} {ls : Array Slot} {D : va_G} {cA a : Nat → Nat} {AA : Nat → Prop} {I : Nat → Int32} {A : Nat → Nat → Int32} {post : (Nat → Int32) → (Nat → Nat → Int32) → Prop} (x1 : Int32) {rest : List Value} (S : CallFix p m c cc nL s args WALL own) (hK : KC D cA a AA s) (hD : ∀ I A, va_D AA (wC cA a I A)) (hA : ∀ q : Nat, s.heap.size ≤ q → AA q) (hS : va_S AA s.heap H locs) (hP : va_P D cls (wC cA a I A) H) (hl1 : ls.size = nL) (hlink : (Cond.methodLink own idx y_ItemLength_addBottomDigit).before args s = true) (hst : (rest.map fun v => v.category).sum ≤ 8) (hR : ({ frames := 0, cells := 0, slots := 0, locals := 0 } : Room).frames + 1 ≤ R.frames ∧ 8 + (2 + 11) + ({ frames := 0, cells := 0, slots := 0, locals := 0 } : Room).locals ≤ R.locals) (hcs : cells ≤ R.cells ∧ slots ≤ R.slots) (hdg : decode cc pc = .ok (.invokevirtual idx, 3)) (h : wp_ItemLength_addBottomDigit x1 I A post) (kk : ∀ (I1 : Nat → Int32) (A1 : Nat → Nat → Int32) (H1 : Heap) (locs1 : List Loc), post I1 A1 → va_P D cls (wC cA a I1 A1) H1 → va_S AA s.heap H1 locs1 → W p l e R s m args below meth c H1 locs1 cells slots Q (F0 m (pc + 3) ls rest)) : W p l e R s m args below meth c H locs cells slots Q (F0 m pc ls (.int x1 :: .ref (a 15) :: rest)) :=
  va_callv (va_runV (As := [.int x1]) (rest := rest) S (c_ItemLength_addBottomDigit l D cA a H.size x1 I A post h) ⟨callB_of 1 S.2.2.2.2 g_ItemLength_addBottomDigit rfl rfl rfl (S.2.2.2.2 _ mi_ItemLength) hlink ⟨by decide, by decide, by decide +kernel⟩ hR, S.2.2.2.2 _ mn_ItemLength_addBottomDigit, S.2.2.2.2 _ ms_ItemLength_addBottomDigit⟩ (preCV hK hD hA hS hP 15 rfl rfl) rfl rfl hl1 rfl (lv_room hst) hdg hcs) hS (fun q _ z => AC_le hD hA hS q z) (fun q z => AC_le hD hA hS q z) (fun u t H1 locs1 ht _ hp hB _ _ hS1 => kk u.1 u.2 H1 locs1 hp (of_endC ht hB) hS1)
def wp_Reader_takeInside (x1 : Int32) (x2 : Int32) (I : Nat → Int32) (A : Nat → Nat → Int32) (post : (Nat → Int32) → (Nat → Nat → Int32) → Prop) : Prop := ((x2 = 9 → (wp_Reader_takeSign x1 I A (fun I54 A54 => post I54 A54))) ∧ (x2 = 10 → (((I 14) = 9 → (wp_PitchFinder_doubleSign I A (fun I73 A73 => post I73 A73))) ∧ (¬ (I 14) = 9 → (wp_Reader_takeSign x1 I A (fun I81 A81 => post I81 A81))))) ∧ (x2 = 11 → (wp_PitchFinder_setLetter x1 I A (fun I92 A92 => post I92 A92))) ∧ (x2 = 12 → (wp_PitchFinder_shift 12 I A (fun I104 A104 => post I104 A104))) ∧ (x2 = 13 → (wp_PitchFinder_shift (-12) I A (fun I116 A116 => post I116 A116))) ∧ (x2 = 15 → (wp_ItemLength_addTopDigit (x1 - 48) I A (fun I130 A130 => post I130 A130))) ∧ (x2 = 16 → (wp_ItemLength_addSlash I A (fun I140 A140 => post I140 A140))) ∧ (x2 = 17 → (wp_ItemLength_addBottomDigit (x1 - 48) I A (fun I154 A154 => post I154 A154))) ∧ (¬ x2 = 9 → ¬ x2 = 10 → ¬ x2 = 11 → ¬ x2 = 12 → ¬ x2 = 13 → ¬ x2 = 15 → ¬ x2 = 16 → ¬ x2 = 17 → post I A))
theorem d_Reader_takeInside_0 : decode b_Reader_takeInside 0 = .ok (.iload_n 2, 1) := by decide +kernel
theorem d_Reader_takeInside_1 : decode b_Reader_takeInside 1 = .ok (.tableswitch 159 9 17 #[51, 59, 86, 97, 109, 159, 121, 135, 145], 51) := by decide +kernel
theorem d_Reader_takeInside_52 : decode b_Reader_takeInside 52 = .ok (.aload_n 0, 1) := by decide +kernel
theorem d_Reader_takeInside_53 : decode b_Reader_takeInside 53 = .ok (.iload_n 1, 1) := by decide +kernel
theorem d_Reader_takeInside_54 : decode b_Reader_takeInside 54 = .ok (.invokevirtual 216, 3) := by decide +kernel
theorem d_Reader_takeInside_57 : decode b_Reader_takeInside 57 = .ok (.goto 103, 3) := by decide +kernel
theorem d_Reader_takeInside_60 : decode b_Reader_takeInside 60 = .ok (.aload_n 0, 1) := by decide +kernel
theorem d_Reader_takeInside_61 : decode b_Reader_takeInside 61 = .ok (.getfield 55, 3) := by decide +kernel
theorem d_Reader_takeInside_64 : decode b_Reader_takeInside 64 = .ok (.bipush 9, 2) := by decide +kernel
theorem d_Reader_takeInside_66 : decode b_Reader_takeInside 66 = .ok (.if_icmp .ne 13, 3) := by decide +kernel
theorem d_Reader_takeInside_69 : decode b_Reader_takeInside 69 = .ok (.aload_n 0, 1) := by decide +kernel
theorem d_Reader_takeInside_70 : decode b_Reader_takeInside 70 = .ok (.getfield 21, 3) := by decide +kernel
theorem d_Reader_takeInside_73 : decode b_Reader_takeInside 73 = .ok (.invokevirtual 219, 3) := by decide +kernel
theorem d_Reader_takeInside_76 : decode b_Reader_takeInside 76 = .ok (.goto 84, 3) := by decide +kernel
theorem d_Reader_takeInside_79 : decode b_Reader_takeInside 79 = .ok (.aload_n 0, 1) := by decide +kernel
theorem d_Reader_takeInside_80 : decode b_Reader_takeInside 80 = .ok (.iload_n 1, 1) := by decide +kernel
theorem d_Reader_takeInside_81 : decode b_Reader_takeInside 81 = .ok (.invokevirtual 216, 3) := by decide +kernel
theorem d_Reader_takeInside_84 : decode b_Reader_takeInside 84 = .ok (.goto 76, 3) := by decide +kernel
theorem d_Reader_takeInside_87 : decode b_Reader_takeInside 87 = .ok (.aload_n 0, 1) := by decide +kernel
theorem d_Reader_takeInside_88 : decode b_Reader_takeInside 88 = .ok (.getfield 21, 3) := by decide +kernel
theorem d_Reader_takeInside_91 : decode b_Reader_takeInside 91 = .ok (.iload_n 1, 1) := by decide +kernel
theorem d_Reader_takeInside_92 : decode b_Reader_takeInside 92 = .ok (.invokevirtual 222, 3) := by decide +kernel
theorem d_Reader_takeInside_95 : decode b_Reader_takeInside 95 = .ok (.goto 65, 3) := by decide +kernel
theorem d_Reader_takeInside_98 : decode b_Reader_takeInside 98 = .ok (.aload_n 0, 1) := by decide +kernel
theorem d_Reader_takeInside_99 : decode b_Reader_takeInside 99 = .ok (.getfield 21, 3) := by decide +kernel
theorem d_Reader_takeInside_102 : decode b_Reader_takeInside 102 = .ok (.bipush 12, 2) := by decide +kernel
theorem d_Reader_takeInside_104 : decode b_Reader_takeInside 104 = .ok (.invokevirtual 225, 3) := by decide +kernel
theorem d_Reader_takeInside_107 : decode b_Reader_takeInside 107 = .ok (.goto 53, 3) := by decide +kernel
theorem d_Reader_takeInside_110 : decode b_Reader_takeInside 110 = .ok (.aload_n 0, 1) := by decide +kernel
theorem d_Reader_takeInside_111 : decode b_Reader_takeInside 111 = .ok (.getfield 21, 3) := by decide +kernel
theorem d_Reader_takeInside_114 : decode b_Reader_takeInside 114 = .ok (.bipush (-12), 2) := by decide +kernel
theorem d_Reader_takeInside_116 : decode b_Reader_takeInside 116 = .ok (.invokevirtual 225, 3) := by decide +kernel
theorem d_Reader_takeInside_119 : decode b_Reader_takeInside 119 = .ok (.goto 41, 3) := by decide +kernel
theorem d_Reader_takeInside_122 : decode b_Reader_takeInside 122 = .ok (.aload_n 0, 1) := by decide +kernel
theorem d_Reader_takeInside_123 : decode b_Reader_takeInside 123 = .ok (.getfield 28, 3) := by decide +kernel
theorem d_Reader_takeInside_126 : decode b_Reader_takeInside 126 = .ok (.iload_n 1, 1) := by decide +kernel
theorem d_Reader_takeInside_127 : decode b_Reader_takeInside 127 = .ok (.bipush 48, 2) := by decide +kernel
theorem d_Reader_takeInside_129 : decode b_Reader_takeInside 129 = .ok (.isub, 1) := by decide +kernel
theorem d_Reader_takeInside_130 : decode b_Reader_takeInside 130 = .ok (.invokevirtual 228, 3) := by decide +kernel
theorem d_Reader_takeInside_133 : decode b_Reader_takeInside 133 = .ok (.goto 27, 3) := by decide +kernel
theorem d_Reader_takeInside_136 : decode b_Reader_takeInside 136 = .ok (.aload_n 0, 1) := by decide +kernel
theorem d_Reader_takeInside_137 : decode b_Reader_takeInside 137 = .ok (.getfield 28, 3) := by decide +kernel
theorem d_Reader_takeInside_140 : decode b_Reader_takeInside 140 = .ok (.invokevirtual 231, 3) := by decide +kernel
theorem d_Reader_takeInside_143 : decode b_Reader_takeInside 143 = .ok (.goto 17, 3) := by decide +kernel
theorem d_Reader_takeInside_146 : decode b_Reader_takeInside 146 = .ok (.aload_n 0, 1) := by decide +kernel
theorem d_Reader_takeInside_147 : decode b_Reader_takeInside 147 = .ok (.getfield 28, 3) := by decide +kernel
theorem d_Reader_takeInside_150 : decode b_Reader_takeInside 150 = .ok (.iload_n 1, 1) := by decide +kernel
theorem d_Reader_takeInside_151 : decode b_Reader_takeInside 151 = .ok (.bipush 48, 2) := by decide +kernel
theorem d_Reader_takeInside_153 : decode b_Reader_takeInside 153 = .ok (.isub, 1) := by decide +kernel
theorem d_Reader_takeInside_154 : decode b_Reader_takeInside 154 = .ok (.invokevirtual 234, 3) := by decide +kernel
theorem d_Reader_takeInside_157 : decode b_Reader_takeInside 157 = .ok (.goto 3, 3) := by decide +kernel
theorem d_Reader_takeInside_160 : decode b_Reader_takeInside 160 = .ok (.return_, 1) := by decide +kernel
def w_Reader_takeInside : List Cond := .code y_Reader_takeInside b_Reader_takeInside 3 none :: WALL
theorem g_Reader_takeInside : GoodIn WALL w_Reader_takeInside := good_of mc_Reader_takeInside
set_option maxHeartbeats 4000000 in
set_option maxRecDepth 100000 in
theorem c_Reader_takeInside (l : Launch) (D : va_G) (cA a : Nat → Nat) (sz : Nat) (x1 : Int32) (x2 : Int32) (I : Nat → Int32) (A : Nat → Nat → Int32) (post : (Nat → Int32) → (Nat → Nat → Int32) → Prop) (h : wp_Reader_takeInside x1 x2 I A post) : Met l y_Reader_takeInside w_Reader_takeInside ({ frames := 2, cells := 0, slots := 0, locals := 42 }) (va_Pc [.ref (a 2), .int x1, .int x2] (PreC D cA a I A sz)) (va_Qv (fun (u : StW) => post u.1 u.2) (EndC D cA a) (AC a sz)) 0 0 (AC a sz) := by
  refine Met.ofW (cc := b_Reader_takeInside) (maxL := 3) (ret := none) (by decide) rfl ?_
  intro p e s m args below meth c s₁ B hml hv
  obtain ⟨rfl, hsz, hP, hK, hD0⟩ := hv
  have hx := B.exec
  have hb := B.bytes
  have hr := B.returns
  have hts := atoms_spec (ws := w_Reader_takeInside) B.pre
  have hw := wall_of hts
  have hown : s.vm.findClass R_Reader = some m.cls := findClass_of_methodNamed B.named
  have hlocks := B.notSynchronized
  subst hsz
  have hD := hDC (sz := s.heap.size) hD0
  have hA : ∀ q : Nat, s.heap.size ≤ q → AC a s.heap.size q := fun q h => Or.inr h
  have hS : va_S (AC a s.heap.size) s.heap s.heap [] := va_S.rf
  have hl := lv_entry ([.ref (a 2), .int x1, .int x2]) (n := 3) (Nat.le_of_ble_eq_true rfl)
  rw [lg_entry_eq]
  generalize (lg_sl ([.ref (a 2), .int x1, .int x2]) ++ List.replicate (3 - (lg_sl ([.ref (a 2), .int x1, .int x2])).length) Slot.unset).toArray = ls at hl ⊢
  have hl : lv_has ls 3 [(0, .ref (a 2)), (1, .int x1), (2, .int x2)] := hl
  unfold wp_Reader_takeInside at h
  refine lv_iload_n hx hb d_Reader_takeInside_0 rfl (lv_at hl 2 rfl) ?_
  by_cases q0 : x2 = 9
  · have h := h.1 q0
    refine lv_tableIn (off := 51) (tgt := 52) hx hb d_Reader_takeInside_1 (by rw [q0]; decide) (by rw [q0]; decide) (by rw [q0]; rfl) rfl ?_
    refine lv_aload_n hx hb d_Reader_takeInside_52 rfl (lv_at hl 0 rfl) ?_
    refine lv_iload_n hx hb d_Reader_takeInside_53 rfl (lv_at hl 1 rfl) ?_
    refine k_Reader_takeSign x1 (rest := []) ⟨hx, hb, hml, hown, hw⟩ hK hD hA hS hP hl.1 (hw _ m_Reader_216) (Nat.le_of_ble_eq_true rfl) ⟨Nat.le_of_ble_eq_true rfl, Nat.le_of_ble_eq_true rfl⟩ ⟨Nat.zero_le _, Nat.zero_le _⟩ d_Reader_takeInside_54 h (fun I54 A54 H locs h hP hS => ?_)
    refine lv_goto (tgt := 160) hx hb d_Reader_takeInside_57 rfl ?_
    exact W.vret hx hb hr (fun t ht hW => ⟨⟨(I54, A54), rfl, h, endC_of ht hP⟩, hS.F ht⟩) hS.2.2 d_Reader_takeInside_160
  by_cases q1 : x2 = 10
  · have h := h.2.1 q1
    refine lv_tableIn (off := 59) (tgt := 60) hx hb d_Reader_takeInside_1 (by rw [q1]; decide) (by rw [q1]; decide) (by rw [q1]; rfl) rfl ?_
    refine lv_aload_n hx hb d_Reader_takeInside_60 rfl (lv_at hl 0 rfl) ?_
    refine gC_Reader_state hx hb hw hown hK hP (hw _ m_Reader_55) d_Reader_takeInside_61 ?_
    refine lv_bipush (v := 9) hx hb d_Reader_takeInside_64 bp_9 ?_
    refine lv_icmp_ne (tgt := 79) hx hb d_Reader_takeInside_66 rfl (fun q => ?_) (fun q => ?_)
    · have h := h.2 q
      refine lv_aload_n hx hb d_Reader_takeInside_79 rfl (lv_at hl 0 rfl) ?_
      refine lv_iload_n hx hb d_Reader_takeInside_80 rfl (lv_at hl 1 rfl) ?_
      refine k_Reader_takeSign x1 (rest := []) ⟨hx, hb, hml, hown, hw⟩ hK hD hA hS hP hl.1 (hw _ m_Reader_216) (Nat.le_of_ble_eq_true rfl) ⟨Nat.le_of_ble_eq_true rfl, Nat.le_of_ble_eq_true rfl⟩ ⟨Nat.zero_le _, Nat.zero_le _⟩ d_Reader_takeInside_81 h (fun I81 A81 H locs h hP hS => ?_)
      refine lv_goto (tgt := 160) hx hb d_Reader_takeInside_84 rfl ?_
      exact W.vret hx hb hr (fun t ht hW => ⟨⟨(I81, A81), rfl, h, endC_of ht hP⟩, hS.F ht⟩) hS.2.2 d_Reader_takeInside_160
    · have h := h.1 q
      refine lv_aload_n hx hb d_Reader_takeInside_69 rfl (lv_at hl 0 rfl) ?_
      refine gC_Reader_pitches hx hb hw hown hK hP (hw _ m_Reader_21) d_Reader_takeInside_70 ?_
      refine k_PitchFinder_doubleSign (rest := []) ⟨hx, hb, hml, hown, hw⟩ hK hD hA hS hP hl.1 (hw _ m_Reader_219) (Nat.le_of_ble_eq_true rfl) ⟨Nat.le_of_ble_eq_true rfl, Nat.le_of_ble_eq_true rfl⟩ ⟨Nat.zero_le _, Nat.zero_le _⟩ d_Reader_takeInside_73 h (fun I73 A73 H locs h hP hS => ?_)
      refine lv_goto (tgt := 160) hx hb d_Reader_takeInside_76 rfl ?_
      exact W.vret hx hb hr (fun t ht hW => ⟨⟨(I73, A73), rfl, h, endC_of ht hP⟩, hS.F ht⟩) hS.2.2 d_Reader_takeInside_160
  by_cases q2 : x2 = 11
  · have h := h.2.2.1 q2
    refine lv_tableIn (off := 86) (tgt := 87) hx hb d_Reader_takeInside_1 (by rw [q2]; decide) (by rw [q2]; decide) (by rw [q2]; rfl) rfl ?_
    refine lv_aload_n hx hb d_Reader_takeInside_87 rfl (lv_at hl 0 rfl) ?_
    refine gC_Reader_pitches hx hb hw hown hK hP (hw _ m_Reader_21) d_Reader_takeInside_88 ?_
    refine lv_iload_n hx hb d_Reader_takeInside_91 rfl (lv_at hl 1 rfl) ?_
    refine k_PitchFinder_setLetter x1 (rest := []) ⟨hx, hb, hml, hown, hw⟩ hK hD hA hS hP hl.1 (hw _ m_Reader_222) (Nat.le_of_ble_eq_true rfl) ⟨Nat.le_of_ble_eq_true rfl, Nat.le_of_ble_eq_true rfl⟩ ⟨Nat.zero_le _, Nat.zero_le _⟩ d_Reader_takeInside_92 h (fun I92 A92 H locs h hP hS => ?_)
    refine lv_goto (tgt := 160) hx hb d_Reader_takeInside_95 rfl ?_
    exact W.vret hx hb hr (fun t ht hW => ⟨⟨(I92, A92), rfl, h, endC_of ht hP⟩, hS.F ht⟩) hS.2.2 d_Reader_takeInside_160
  by_cases q3 : x2 = 12
  · have h := h.2.2.2.1 q3
    refine lv_tableIn (off := 97) (tgt := 98) hx hb d_Reader_takeInside_1 (by rw [q3]; decide) (by rw [q3]; decide) (by rw [q3]; rfl) rfl ?_
    refine lv_aload_n hx hb d_Reader_takeInside_98 rfl (lv_at hl 0 rfl) ?_
    refine gC_Reader_pitches hx hb hw hown hK hP (hw _ m_Reader_21) d_Reader_takeInside_99 ?_
    refine lv_bipush (v := 12) hx hb d_Reader_takeInside_102 bp_12 ?_
    refine k_PitchFinder_shift 12 (rest := []) ⟨hx, hb, hml, hown, hw⟩ hK hD hA hS hP hl.1 (hw _ m_Reader_225) (Nat.le_of_ble_eq_true rfl) ⟨Nat.le_of_ble_eq_true rfl, Nat.le_of_ble_eq_true rfl⟩ ⟨Nat.zero_le _, Nat.zero_le _⟩ d_Reader_takeInside_104 h (fun I104 A104 H locs h hP hS => ?_)
    refine lv_goto (tgt := 160) hx hb d_Reader_takeInside_107 rfl ?_
    exact W.vret hx hb hr (fun t ht hW => ⟨⟨(I104, A104), rfl, h, endC_of ht hP⟩, hS.F ht⟩) hS.2.2 d_Reader_takeInside_160
  by_cases q4 : x2 = 13
  · have h := h.2.2.2.2.1 q4
    refine lv_tableIn (off := 109) (tgt := 110) hx hb d_Reader_takeInside_1 (by rw [q4]; decide) (by rw [q4]; decide) (by rw [q4]; rfl) rfl ?_
    refine lv_aload_n hx hb d_Reader_takeInside_110 rfl (lv_at hl 0 rfl) ?_
    refine gC_Reader_pitches hx hb hw hown hK hP (hw _ m_Reader_21) d_Reader_takeInside_111 ?_
    refine lv_bipush (v := (-12)) hx hb d_Reader_takeInside_114 bp_m12 ?_
    refine k_PitchFinder_shift (-12) (rest := []) ⟨hx, hb, hml, hown, hw⟩ hK hD hA hS hP hl.1 (hw _ m_Reader_225) (Nat.le_of_ble_eq_true rfl) ⟨Nat.le_of_ble_eq_true rfl, Nat.le_of_ble_eq_true rfl⟩ ⟨Nat.zero_le _, Nat.zero_le _⟩ d_Reader_takeInside_116 h (fun I116 A116 H locs h hP hS => ?_)
    refine lv_goto (tgt := 160) hx hb d_Reader_takeInside_119 rfl ?_
    exact W.vret hx hb hr (fun t ht hW => ⟨⟨(I116, A116), rfl, h, endC_of ht hP⟩, hS.F ht⟩) hS.2.2 d_Reader_takeInside_160
  by_cases q5 : x2 = 15
  · have h := h.2.2.2.2.2.1 q5
    refine lv_tableIn (off := 121) (tgt := 122) hx hb d_Reader_takeInside_1 (by rw [q5]; decide) (by rw [q5]; decide) (by rw [q5]; rfl) rfl ?_
    refine lv_aload_n hx hb d_Reader_takeInside_122 rfl (lv_at hl 0 rfl) ?_
    refine gC_Reader_itemLength hx hb hw hown hK hP (hw _ m_Reader_28) d_Reader_takeInside_123 ?_
    refine lv_iload_n hx hb d_Reader_takeInside_126 rfl (lv_at hl 1 rfl) ?_
    refine lv_bipush (v := 48) hx hb d_Reader_takeInside_127 bp_48 ?_
    refine lv_isub hx hb d_Reader_takeInside_129 ?_
    refine k_ItemLength_addTopDigit (x1 - 48) (rest := []) ⟨hx, hb, hml, hown, hw⟩ hK hD hA hS hP hl.1 (hw _ m_Reader_228) (Nat.le_of_ble_eq_true rfl) ⟨Nat.le_of_ble_eq_true rfl, Nat.le_of_ble_eq_true rfl⟩ ⟨Nat.zero_le _, Nat.zero_le _⟩ d_Reader_takeInside_130 h (fun I130 A130 H locs h hP hS => ?_)
    refine lv_goto (tgt := 160) hx hb d_Reader_takeInside_133 rfl ?_
    exact W.vret hx hb hr (fun t ht hW => ⟨⟨(I130, A130), rfl, h, endC_of ht hP⟩, hS.F ht⟩) hS.2.2 d_Reader_takeInside_160
  by_cases q6 : x2 = 16
  · have h := h.2.2.2.2.2.2.1 q6
    refine lv_tableIn (off := 135) (tgt := 136) hx hb d_Reader_takeInside_1 (by rw [q6]; decide) (by rw [q6]; decide) (by rw [q6]; rfl) rfl ?_
    refine lv_aload_n hx hb d_Reader_takeInside_136 rfl (lv_at hl 0 rfl) ?_
    refine gC_Reader_itemLength hx hb hw hown hK hP (hw _ m_Reader_28) d_Reader_takeInside_137 ?_
    refine k_ItemLength_addSlash (rest := []) ⟨hx, hb, hml, hown, hw⟩ hK hD hA hS hP hl.1 (hw _ m_Reader_231) (Nat.le_of_ble_eq_true rfl) ⟨Nat.le_of_ble_eq_true rfl, Nat.le_of_ble_eq_true rfl⟩ ⟨Nat.zero_le _, Nat.zero_le _⟩ d_Reader_takeInside_140 h (fun I140 A140 H locs h hP hS => ?_)
    refine lv_goto (tgt := 160) hx hb d_Reader_takeInside_143 rfl ?_
    exact W.vret hx hb hr (fun t ht hW => ⟨⟨(I140, A140), rfl, h, endC_of ht hP⟩, hS.F ht⟩) hS.2.2 d_Reader_takeInside_160
  by_cases q7 : x2 = 17
  · have h := h.2.2.2.2.2.2.2.1 q7
    refine lv_tableIn (off := 145) (tgt := 146) hx hb d_Reader_takeInside_1 (by rw [q7]; decide) (by rw [q7]; decide) (by rw [q7]; rfl) rfl ?_
    refine lv_aload_n hx hb d_Reader_takeInside_146 rfl (lv_at hl 0 rfl) ?_
    refine gC_Reader_itemLength hx hb hw hown hK hP (hw _ m_Reader_28) d_Reader_takeInside_147 ?_
    refine lv_iload_n hx hb d_Reader_takeInside_150 rfl (lv_at hl 1 rfl) ?_
    refine lv_bipush (v := 48) hx hb d_Reader_takeInside_151 bp_48 ?_
    refine lv_isub hx hb d_Reader_takeInside_153 ?_
    refine k_ItemLength_addBottomDigit (x1 - 48) (rest := []) ⟨hx, hb, hml, hown, hw⟩ hK hD hA hS hP hl.1 (hw _ m_Reader_234) (Nat.le_of_ble_eq_true rfl) ⟨Nat.le_of_ble_eq_true rfl, Nat.le_of_ble_eq_true rfl⟩ ⟨Nat.zero_le _, Nat.zero_le _⟩ d_Reader_takeInside_154 h (fun I154 A154 H locs h hP hS => ?_)
    refine lv_goto (tgt := 160) hx hb d_Reader_takeInside_157 rfl ?_
    exact W.vret hx hb hr (fun t ht hW => ⟨⟨(I154, A154), rfl, h, endC_of ht hP⟩, hS.F ht⟩) hS.2.2 d_Reader_takeInside_160
  · have h := h.2.2.2.2.2.2.2.2 q0 q1 q2 q3 q4 q5 q6 q7
    have z0 := lv_neT (a := 9) q0 (by decide)
    have z1 := lv_neT (a := 10) q1 (by decide)
    have z2 := lv_neT (a := 11) q2 (by decide)
    have z3 := lv_neT (a := 12) q3 (by decide)
    have z4 := lv_neT (a := 13) q4 (by decide)
    have z5 := lv_neT (a := 15) q5 (by decide)
    have z6 := lv_neT (a := 16) q6 (by decide)
    have z7 := lv_neT (a := 17) q7 (by decide)
    refine vt_tableD (tgt := 160) hx hb d_Reader_takeInside_1 (fun q1 q2 => ?_) rfl ?_
    · have zz : x2.toInt = 14 := by omega
      rcases zz with zz <;> (rw [zz]; rfl)
    · exact W.vret hx hb hr (fun t ht hW => ⟨⟨(I, A), rfl, h, endC_of ht hP⟩, hS.F ht⟩) hS.2.2 d_Reader_takeInside_160
theorem k_Reader_takeInside {p : Program} {l : Launch} {e : Env} {R : Room} {s : State} {m : MethodId} {args : Array Value} {below : List Frame} {meth : Method} {c : Code} {H : Heap} {locs : List Loc} {cells slots : Nat} {Q : State → Prop} {cc : ByteArray} {pc nL idx : Nat} {own : String} {ls : Array Slot} {D : va_G} {cA a : Nat → Nat} {AA : Nat → Prop} {I : Nat → Int32} {A : Nat → Nat → Int32} {post : (Nat → Int32) → (Nat → Nat → Int32) → Prop} (x1 : Int32) (x2 : Int32) {rest : List Value} (S : CallFix p m c cc nL s args WALL own) (hK : KC D cA a AA s) (hD : ∀ I A, va_D AA (wC cA a I A)) (hA : ∀ q : Nat, s.heap.size ≤ q → AA q) (hS : va_S AA s.heap H locs) (hP : va_P D cls (wC cA a I A) H) (hl1 : ls.size = nL) (hlink : (Cond.methodLink own idx y_Reader_takeInside).before args s = true) (hst : (rest.map fun v => v.category).sum ≤ 8) (hR : ({ frames := 2, cells := 0, slots := 0, locals := 42 } : Room).frames + 1 ≤ R.frames ∧ 8 + (3 + 11) + ({ frames := 2, cells := 0, slots := 0, locals := 42 } : Room).locals ≤ R.locals) (hcs : cells ≤ R.cells ∧ slots ≤ R.slots) (hdg : decode cc pc = .ok (.invokevirtual idx, 3)) (h : wp_Reader_takeInside x1 x2 I A post) (kk : ∀ (I1 : Nat → Int32) (A1 : Nat → Nat → Int32) (H1 : Heap) (locs1 : List Loc), post I1 A1 → va_P D cls (wC cA a I1 A1) H1 → va_S AA s.heap H1 locs1 → W p l e R s m args below meth c H1 locs1 cells slots Q (F0 m (pc + 3) ls rest)) : W p l e R s m args below meth c H locs cells slots Q (F0 m pc ls (.int x2 :: .int x1 :: .ref (a 2) :: rest)) :=
  va_callv (va_runV (As := [.int x1, .int x2]) (rest := rest) S (c_Reader_takeInside l D cA a H.size x1 x2 I A post h) ⟨callB_of 2 S.2.2.2.2 g_Reader_takeInside rfl rfl rfl (S.2.2.2.2 _ mi_Reader) hlink ⟨by decide, by decide, by decide +kernel⟩ hR, S.2.2.2.2 _ mn_Reader_takeInside, S.2.2.2.2 _ ms_Reader_takeInside⟩ (preCV hK hD hA hS hP 2 rfl rfl) rfl rfl hl1 rfl (lv_room hst) hdg hcs) hS (fun q _ z => AC_le hD hA hS q z) (fun q z => AC_le hD hA hS q z) (fun u t H1 locs1 ht _ hp hB _ _ hS1 => kk u.1 u.2 H1 locs1 hp (of_endC ht hB) hS1)
def wp_Reader_take (x1 : Int32) (x2 : Int32) (I : Nat → Int32) (A : Nat → Nat → Int32) (post : (Nat → Int32) → (Nat → Nat → Int32) → Prop) : Prop := ((x2 = 1 → (wp_Tune_setLine 0 I A (fun I93 A93 => post I93 A93))) ∧ (x2 = 3 → (wp_Reader_growLine x1 I A (fun I101 A101 => post I101 A101))) ∧ (x2 = 5 → ((x1 = 32 → post I A) ∧ (¬ x1 = 32 → (wp_Tune_setEnding (x1 - 48) I A (fun I121 A121 => post I121 A121))))) ∧ (x2 = 7 → post (upd I 17 3) A) ∧ (x2 = 8 → post (upd (upd I 22 1) 18 0) A) ∧ (x2 = 14 → post (upd I 22 0) A) ∧ (x2 = 18 → (wp_Tune_setTie I A (fun I160 A160 => post I160 A160))) ∧ (¬ x2 = 1 → ¬ x2 = 3 → ¬ x2 = 5 → ¬ x2 = 7 → ¬ x2 = 8 → ¬ x2 = 14 → ¬ x2 = 18 → (wp_Reader_takeInside x1 x2 I A (fun I169 A169 => post I169 A169))))
theorem d_Reader_take_0 : decode b_Reader_take 0 = .ok (.iload_n 2, 1) := by decide +kernel
theorem d_Reader_take_1 : decode b_Reader_take 1 = .ok (.tableswitch 165 1 18 #[87, 165, 98, 165, 106, 165, 126, 134, 165, 165, 165, 165, 165, 147, 165, 165, 165, 155], 87) := by decide +kernel
theorem d_Reader_take_88 : decode b_Reader_take 88 = .ok (.aload_n 0, 1) := by decide +kernel
theorem d_Reader_take_89 : decode b_Reader_take 89 = .ok (.getfield 14, 3) := by decide +kernel
theorem d_Reader_take_92 : decode b_Reader_take 92 = .ok (.iconst 0, 1) := by decide +kernel
theorem d_Reader_take_93 : decode b_Reader_take 93 = .ok (.invokevirtual 201, 3) := by decide +kernel
theorem d_Reader_take_96 : decode b_Reader_take 96 = .ok (.goto 76, 3) := by decide +kernel
theorem d_Reader_take_99 : decode b_Reader_take 99 = .ok (.aload_n 0, 1) := by decide +kernel
theorem d_Reader_take_100 : decode b_Reader_take 100 = .ok (.iload_n 1, 1) := by decide +kernel
theorem d_Reader_take_101 : decode b_Reader_take 101 = .ok (.invokevirtual 204, 3) := by decide +kernel
theorem d_Reader_take_104 : decode b_Reader_take 104 = .ok (.goto 68, 3) := by decide +kernel
theorem d_Reader_take_107 : decode b_Reader_take 107 = .ok (.iload_n 1, 1) := by decide +kernel
theorem d_Reader_take_108 : decode b_Reader_take 108 = .ok (.bipush 32, 2) := by decide +kernel
theorem d_Reader_take_110 : decode b_Reader_take 110 = .ok (.if_icmp .eq 62, 3) := by decide +kernel
theorem d_Reader_take_113 : decode b_Reader_take 113 = .ok (.aload_n 0, 1) := by decide +kernel
theorem d_Reader_take_114 : decode b_Reader_take 114 = .ok (.getfield 14, 3) := by decide +kernel
theorem d_Reader_take_117 : decode b_Reader_take 117 = .ok (.iload_n 1, 1) := by decide +kernel
theorem d_Reader_take_118 : decode b_Reader_take 118 = .ok (.bipush 48, 2) := by decide +kernel
theorem d_Reader_take_120 : decode b_Reader_take 120 = .ok (.isub, 1) := by decide +kernel
theorem d_Reader_take_121 : decode b_Reader_take 121 = .ok (.invokevirtual 207, 3) := by decide +kernel
theorem d_Reader_take_124 : decode b_Reader_take 124 = .ok (.goto 48, 3) := by decide +kernel
theorem d_Reader_take_127 : decode b_Reader_take 127 = .ok (.aload_n 0, 1) := by decide +kernel
theorem d_Reader_take_128 : decode b_Reader_take 128 = .ok (.iconst 3, 1) := by decide +kernel
theorem d_Reader_take_129 : decode b_Reader_take 129 = .ok (.putfield 61, 3) := by decide +kernel
theorem d_Reader_take_132 : decode b_Reader_take 132 = .ok (.goto 40, 3) := by decide +kernel
theorem d_Reader_take_135 : decode b_Reader_take 135 = .ok (.aload_n 0, 1) := by decide +kernel
theorem d_Reader_take_136 : decode b_Reader_take 136 = .ok (.iconst 1, 1) := by decide +kernel
theorem d_Reader_take_137 : decode b_Reader_take 137 = .ok (.putfield 77, 3) := by decide +kernel
theorem d_Reader_take_140 : decode b_Reader_take 140 = .ok (.aload_n 0, 1) := by decide +kernel
theorem d_Reader_take_141 : decode b_Reader_take 141 = .ok (.iconst 0, 1) := by decide +kernel
theorem d_Reader_take_142 : decode b_Reader_take 142 = .ok (.putfield 64, 3) := by decide +kernel
theorem d_Reader_take_145 : decode b_Reader_take 145 = .ok (.goto 27, 3) := by decide +kernel
theorem d_Reader_take_148 : decode b_Reader_take 148 = .ok (.aload_n 0, 1) := by decide +kernel
theorem d_Reader_take_149 : decode b_Reader_take 149 = .ok (.iconst 0, 1) := by decide +kernel
theorem d_Reader_take_150 : decode b_Reader_take 150 = .ok (.putfield 77, 3) := by decide +kernel
theorem d_Reader_take_153 : decode b_Reader_take 153 = .ok (.goto 19, 3) := by decide +kernel
theorem d_Reader_take_156 : decode b_Reader_take 156 = .ok (.aload_n 0, 1) := by decide +kernel
theorem d_Reader_take_157 : decode b_Reader_take 157 = .ok (.getfield 14, 3) := by decide +kernel
theorem d_Reader_take_160 : decode b_Reader_take 160 = .ok (.invokevirtual 210, 3) := by decide +kernel
theorem d_Reader_take_163 : decode b_Reader_take 163 = .ok (.goto 9, 3) := by decide +kernel
theorem d_Reader_take_166 : decode b_Reader_take 166 = .ok (.aload_n 0, 1) := by decide +kernel
theorem d_Reader_take_167 : decode b_Reader_take 167 = .ok (.iload_n 1, 1) := by decide +kernel
theorem d_Reader_take_168 : decode b_Reader_take 168 = .ok (.iload_n 2, 1) := by decide +kernel
theorem d_Reader_take_169 : decode b_Reader_take 169 = .ok (.invokevirtual 213, 3) := by decide +kernel
theorem d_Reader_take_172 : decode b_Reader_take 172 = .ok (.return_, 1) := by decide +kernel
def w_Reader_take : List Cond := .code y_Reader_take b_Reader_take 3 none :: WALL
theorem g_Reader_take : GoodIn WALL w_Reader_take := good_of mc_Reader_take
set_option maxHeartbeats 4000000 in
set_option maxRecDepth 100000 in
theorem c_Reader_take (l : Launch) (D : va_G) (cA a : Nat → Nat) (sz : Nat) (x1 : Int32) (x2 : Int32) (I : Nat → Int32) (A : Nat → Nat → Int32) (post : (Nat → Int32) → (Nat → Nat → Int32) → Prop) (h : wp_Reader_take x1 x2 I A post) : Met l y_Reader_take w_Reader_take ({ frames := 3, cells := 0, slots := 0, locals := 64 }) (va_Pc [.ref (a 2), .int x1, .int x2] (PreC D cA a I A sz)) (va_Qv (fun (u : StW) => post u.1 u.2) (EndC D cA a) (AC a sz)) 0 0 (AC a sz) := by
  refine Met.ofW (cc := b_Reader_take) (maxL := 3) (ret := none) (by decide) rfl ?_
  intro p e s m args below meth c s₁ B hml hv
  obtain ⟨rfl, hsz, hP, hK, hD0⟩ := hv
  have hx := B.exec
  have hb := B.bytes
  have hr := B.returns
  have hts := atoms_spec (ws := w_Reader_take) B.pre
  have hw := wall_of hts
  have hown : s.vm.findClass R_Reader = some m.cls := findClass_of_methodNamed B.named
  have hlocks := B.notSynchronized
  subst hsz
  have hD := hDC (sz := s.heap.size) hD0
  have hA : ∀ q : Nat, s.heap.size ≤ q → AC a s.heap.size q := fun q h => Or.inr h
  have hS : va_S (AC a s.heap.size) s.heap s.heap [] := va_S.rf
  have hl := lv_entry ([.ref (a 2), .int x1, .int x2]) (n := 3) (Nat.le_of_ble_eq_true rfl)
  rw [lg_entry_eq]
  generalize (lg_sl ([.ref (a 2), .int x1, .int x2]) ++ List.replicate (3 - (lg_sl ([.ref (a 2), .int x1, .int x2])).length) Slot.unset).toArray = ls at hl ⊢
  have hl : lv_has ls 3 [(0, .ref (a 2)), (1, .int x1), (2, .int x2)] := hl
  unfold wp_Reader_take at h
  refine lv_iload_n hx hb d_Reader_take_0 rfl (lv_at hl 2 rfl) ?_
  by_cases q0 : x2 = 1
  · have h := h.1 q0
    refine lv_tableIn (off := 87) (tgt := 88) hx hb d_Reader_take_1 (by rw [q0]; decide) (by rw [q0]; decide) (by rw [q0]; rfl) rfl ?_
    refine lv_aload_n hx hb d_Reader_take_88 rfl (lv_at hl 0 rfl) ?_
    refine gC_Reader_tune hx hb hw hown hK hP (hw _ m_Reader_14) d_Reader_take_89 ?_
    refine lv_iconst (v := 0) hx hb d_Reader_take_92 ic_0 ?_
    refine k_Tune_setLine 0 (rest := []) ⟨hx, hb, hml, hown, hw⟩ hK hD hA hS hP hl.1 (hw _ m_Reader_201) (Nat.le_of_ble_eq_true rfl) ⟨Nat.le_of_ble_eq_true rfl, Nat.le_of_ble_eq_true rfl⟩ ⟨Nat.zero_le _, Nat.zero_le _⟩ d_Reader_take_93 h (fun I93 A93 H locs h hP hS => ?_)
    refine lv_goto (tgt := 172) hx hb d_Reader_take_96 rfl ?_
    exact W.vret hx hb hr (fun t ht hW => ⟨⟨(I93, A93), rfl, h, endC_of ht hP⟩, hS.F ht⟩) hS.2.2 d_Reader_take_172
  by_cases q1 : x2 = 3
  · have h := h.2.1 q1
    refine lv_tableIn (off := 98) (tgt := 99) hx hb d_Reader_take_1 (by rw [q1]; decide) (by rw [q1]; decide) (by rw [q1]; rfl) rfl ?_
    refine lv_aload_n hx hb d_Reader_take_99 rfl (lv_at hl 0 rfl) ?_
    refine lv_iload_n hx hb d_Reader_take_100 rfl (lv_at hl 1 rfl) ?_
    refine k_Reader_growLine x1 (rest := []) ⟨hx, hb, hml, hown, hw⟩ hK hD hA hS hP hl.1 (hw _ m_Reader_204) (Nat.le_of_ble_eq_true rfl) ⟨Nat.le_of_ble_eq_true rfl, Nat.le_of_ble_eq_true rfl⟩ ⟨Nat.zero_le _, Nat.zero_le _⟩ d_Reader_take_101 h (fun I101 A101 H locs h hP hS => ?_)
    refine lv_goto (tgt := 172) hx hb d_Reader_take_104 rfl ?_
    exact W.vret hx hb hr (fun t ht hW => ⟨⟨(I101, A101), rfl, h, endC_of ht hP⟩, hS.F ht⟩) hS.2.2 d_Reader_take_172
  by_cases q2 : x2 = 5
  · have h := h.2.2.1 q2
    refine lv_tableIn (off := 106) (tgt := 107) hx hb d_Reader_take_1 (by rw [q2]; decide) (by rw [q2]; decide) (by rw [q2]; rfl) rfl ?_
    refine lv_iload_n hx hb d_Reader_take_107 rfl (lv_at hl 1 rfl) ?_
    refine lv_bipush (v := 32) hx hb d_Reader_take_108 bp_32 ?_
    refine lv_icmp_eq (tgt := 172) hx hb d_Reader_take_110 rfl (fun q => ?_) (fun q => ?_)
    · have h := h.1 q
      exact W.vret hx hb hr (fun t ht hW => ⟨⟨(I, A), rfl, h, endC_of ht hP⟩, hS.F ht⟩) hS.2.2 d_Reader_take_172
    · have h := h.2 q
      refine lv_aload_n hx hb d_Reader_take_113 rfl (lv_at hl 0 rfl) ?_
      refine gC_Reader_tune hx hb hw hown hK hP (hw _ m_Reader_14) d_Reader_take_114 ?_
      refine lv_iload_n hx hb d_Reader_take_117 rfl (lv_at hl 1 rfl) ?_
      refine lv_bipush (v := 48) hx hb d_Reader_take_118 bp_48 ?_
      refine lv_isub hx hb d_Reader_take_120 ?_
      refine k_Tune_setEnding (x1 - 48) (rest := []) ⟨hx, hb, hml, hown, hw⟩ hK hD hA hS hP hl.1 (hw _ m_Reader_207) (Nat.le_of_ble_eq_true rfl) ⟨Nat.le_of_ble_eq_true rfl, Nat.le_of_ble_eq_true rfl⟩ ⟨Nat.zero_le _, Nat.zero_le _⟩ d_Reader_take_121 h (fun I121 A121 H locs h hP hS => ?_)
      refine lv_goto (tgt := 172) hx hb d_Reader_take_124 rfl ?_
      exact W.vret hx hb hr (fun t ht hW => ⟨⟨(I121, A121), rfl, h, endC_of ht hP⟩, hS.F ht⟩) hS.2.2 d_Reader_take_172
  by_cases q3 : x2 = 7
  · have h := h.2.2.2.1 q3
    refine lv_tableIn (off := 126) (tgt := 127) hx hb d_Reader_take_1 (by rw [q3]; decide) (by rw [q3]; decide) (by rw [q3]; rfl) rfl ?_
    refine lv_aload_n hx hb d_Reader_take_127 rfl (lv_at hl 0 rfl) ?_
    refine lv_iconst (v := 3) hx hb d_Reader_take_128 ic_3 ?_
    refine pC_Reader_tripletLeft hx hb hw hown hK hD hS hP (hw _ m_Reader_61) d_Reader_take_129 (fun H locs hP hS => ?_)
    refine lv_goto (tgt := 172) hx hb d_Reader_take_132 rfl ?_
    exact W.vret hx hb hr (fun t ht hW => ⟨⟨((upd I 17 3), A), rfl, h, endC_of ht hP⟩, hS.F ht⟩) hS.2.2 d_Reader_take_172
  by_cases q4 : x2 = 8
  · have h := h.2.2.2.2.1 q4
    refine lv_tableIn (off := 134) (tgt := 135) hx hb d_Reader_take_1 (by rw [q4]; decide) (by rw [q4]; decide) (by rw [q4]; rfl) rfl ?_
    refine lv_aload_n hx hb d_Reader_take_135 rfl (lv_at hl 0 rfl) ?_
    refine lv_iconst (v := 1) hx hb d_Reader_take_136 ic_1 ?_
    refine pC_Reader_inChord hx hb hw hown hK hD hS hP (hw _ m_Reader_77) vz1 d_Reader_take_137 (fun H locs hP hS => ?_)
    refine lv_aload_n hx hb d_Reader_take_140 rfl (lv_at hl 0 rfl) ?_
    refine lv_iconst (v := 0) hx hb d_Reader_take_141 ic_0 ?_
    refine pC_Reader_chordNotes hx hb hw hown hK hD hS hP (hw _ m_Reader_64) d_Reader_take_142 (fun H locs hP hS => ?_)
    refine lv_goto (tgt := 172) hx hb d_Reader_take_145 rfl ?_
    exact W.vret hx hb hr (fun t ht hW => ⟨⟨((upd (upd I 22 1) 18 0), A), rfl, h, endC_of ht hP⟩, hS.F ht⟩) hS.2.2 d_Reader_take_172
  by_cases q5 : x2 = 14
  · have h := h.2.2.2.2.2.1 q5
    refine lv_tableIn (off := 147) (tgt := 148) hx hb d_Reader_take_1 (by rw [q5]; decide) (by rw [q5]; decide) (by rw [q5]; rfl) rfl ?_
    refine lv_aload_n hx hb d_Reader_take_148 rfl (lv_at hl 0 rfl) ?_
    refine lv_iconst (v := 0) hx hb d_Reader_take_149 ic_0 ?_
    refine pC_Reader_inChord hx hb hw hown hK hD hS hP (hw _ m_Reader_77) vz0 d_Reader_take_150 (fun H locs hP hS => ?_)
    refine lv_goto (tgt := 172) hx hb d_Reader_take_153 rfl ?_
    exact W.vret hx hb hr (fun t ht hW => ⟨⟨((upd I 22 0), A), rfl, h, endC_of ht hP⟩, hS.F ht⟩) hS.2.2 d_Reader_take_172
  by_cases q6 : x2 = 18
  · have h := h.2.2.2.2.2.2.1 q6
    refine lv_tableIn (off := 155) (tgt := 156) hx hb d_Reader_take_1 (by rw [q6]; decide) (by rw [q6]; decide) (by rw [q6]; rfl) rfl ?_
    refine lv_aload_n hx hb d_Reader_take_156 rfl (lv_at hl 0 rfl) ?_
    refine gC_Reader_tune hx hb hw hown hK hP (hw _ m_Reader_14) d_Reader_take_157 ?_
    refine k_Tune_setTie (rest := []) ⟨hx, hb, hml, hown, hw⟩ hK hD hA hS hP hl.1 (hw _ m_Reader_210) (Nat.le_of_ble_eq_true rfl) ⟨Nat.le_of_ble_eq_true rfl, Nat.le_of_ble_eq_true rfl⟩ ⟨Nat.zero_le _, Nat.zero_le _⟩ d_Reader_take_160 h (fun I160 A160 H locs h hP hS => ?_)
    refine lv_goto (tgt := 172) hx hb d_Reader_take_163 rfl ?_
    exact W.vret hx hb hr (fun t ht hW => ⟨⟨(I160, A160), rfl, h, endC_of ht hP⟩, hS.F ht⟩) hS.2.2 d_Reader_take_172
  · have h := h.2.2.2.2.2.2.2 q0 q1 q2 q3 q4 q5 q6
    have z0 := lv_neT (a := 1) q0 (by decide)
    have z1 := lv_neT (a := 3) q1 (by decide)
    have z2 := lv_neT (a := 5) q2 (by decide)
    have z3 := lv_neT (a := 7) q3 (by decide)
    have z4 := lv_neT (a := 8) q4 (by decide)
    have z5 := lv_neT (a := 14) q5 (by decide)
    have z6 := lv_neT (a := 18) q6 (by decide)
    refine vt_tableD (tgt := 166) hx hb d_Reader_take_1 (fun q1 q2 => ?_) rfl ?_
    · have zz : x2.toInt = 2 ∨ x2.toInt = 4 ∨ x2.toInt = 6 ∨ x2.toInt = 9 ∨ x2.toInt = 10 ∨ x2.toInt = 11 ∨ x2.toInt = 12 ∨ x2.toInt = 13 ∨ x2.toInt = 15 ∨ x2.toInt = 16 ∨ x2.toInt = 17 := by omega
      rcases zz with zz | zz | zz | zz | zz | zz | zz | zz | zz | zz | zz <;> (rw [zz]; rfl)
    · refine lv_aload_n hx hb d_Reader_take_166 rfl (lv_at hl 0 rfl) ?_
      refine lv_iload_n hx hb d_Reader_take_167 rfl (lv_at hl 1 rfl) ?_
      refine lv_iload_n hx hb d_Reader_take_168 rfl (lv_at hl 2 rfl) ?_
      refine k_Reader_takeInside x1 x2 (rest := []) ⟨hx, hb, hml, hown, hw⟩ hK hD hA hS hP hl.1 (hw _ m_Reader_213) (Nat.le_of_ble_eq_true rfl) ⟨Nat.le_of_ble_eq_true rfl, Nat.le_of_ble_eq_true rfl⟩ ⟨Nat.zero_le _, Nat.zero_le _⟩ d_Reader_take_169 h (fun I169 A169 H locs h hP hS => ?_)
      exact W.vret hx hb hr (fun t ht hW => ⟨⟨(I169, A169), rfl, h, endC_of ht hP⟩, hS.F ht⟩) hS.2.2 d_Reader_take_172
theorem k_Reader_take {p : Program} {l : Launch} {e : Env} {R : Room} {s : State} {m : MethodId} {args : Array Value} {below : List Frame} {meth : Method} {c : Code} {H : Heap} {locs : List Loc} {cells slots : Nat} {Q : State → Prop} {cc : ByteArray} {pc nL idx : Nat} {own : String} {ls : Array Slot} {D : va_G} {cA a : Nat → Nat} {AA : Nat → Prop} {I : Nat → Int32} {A : Nat → Nat → Int32} {post : (Nat → Int32) → (Nat → Nat → Int32) → Prop} (x1 : Int32) (x2 : Int32) {rest : List Value} (S : CallFix p m c cc nL s args WALL own) (hK : KC D cA a AA s) (hD : ∀ I A, va_D AA (wC cA a I A)) (hA : ∀ q : Nat, s.heap.size ≤ q → AA q) (hS : va_S AA s.heap H locs) (hP : va_P D cls (wC cA a I A) H) (hl1 : ls.size = nL) (hlink : (Cond.methodLink own idx y_Reader_take).before args s = true) (hst : (rest.map fun v => v.category).sum ≤ 8) (hR : ({ frames := 3, cells := 0, slots := 0, locals := 64 } : Room).frames + 1 ≤ R.frames ∧ 8 + (3 + 11) + ({ frames := 3, cells := 0, slots := 0, locals := 64 } : Room).locals ≤ R.locals) (hcs : cells ≤ R.cells ∧ slots ≤ R.slots) (hdg : decode cc pc = .ok (.invokevirtual idx, 3)) (h : wp_Reader_take x1 x2 I A post) (kk : ∀ (I1 : Nat → Int32) (A1 : Nat → Nat → Int32) (H1 : Heap) (locs1 : List Loc), post I1 A1 → va_P D cls (wC cA a I1 A1) H1 → va_S AA s.heap H1 locs1 → W p l e R s m args below meth c H1 locs1 cells slots Q (F0 m (pc + 3) ls rest)) : W p l e R s m args below meth c H locs cells slots Q (F0 m pc ls (.int x2 :: .int x1 :: .ref (a 2) :: rest)) :=
  va_callv (va_runV (As := [.int x1, .int x2]) (rest := rest) S (c_Reader_take l D cA a H.size x1 x2 I A post h) ⟨callB_of 2 S.2.2.2.2 g_Reader_take rfl rfl rfl (S.2.2.2.2 _ mi_Reader) hlink ⟨by decide, by decide, by decide +kernel⟩ hR, S.2.2.2.2 _ mn_Reader_take, S.2.2.2.2 _ ms_Reader_take⟩ (preCV hK hD hA hS hP 2 rfl rfl) rfl rfl hl1 rfl (lv_room hst) hdg hcs) hS (fun q _ z => AC_le hD hA hS q z) (fun q z => AC_le hD hA hS q z) (fun u t H1 locs1 ht _ hp hB _ _ hS1 => kk u.1 u.2 H1 locs1 hp (of_endC ht hB) hS1)
def wp_Reader_step_85 (post : (Nat → Int32) → (Nat → Nat → Int32) → Prop) (y1 : Int32) (y3 : Int32) (I : Nat → Int32) (A : Nat → Nat → Int32) : Prop := (((I 3) = 0 → (wp_Reader_open y3 I A (fun I94 A94 => (wp_Reader_take y1 y3 I94 A94 (fun I100 A100 => post (upd I100 14 y3) A100))))) ∧ (¬ (I 3) = 0 → post I A))
def wp_Reader_step_61 (post : (Nat → Int32) → (Nat → Nat → Int32) → Prop) (y1 : Int32) (y3 : Int32) (I : Nat → Int32) (A : Nat → Nat → Int32) : Prop := (((I 3) = 0 → (wp_Reader_checkBars y3 I A (fun I70 A70 => (((I70 3) = 0 → (wp_Reader_checkMany y3 I70 A70 (fun I82 A82 => wp_Reader_step_85 post y1 y3 I82 A82))) ∧ (¬ (I70 3) = 0 → wp_Reader_step_85 post y1 y3 I70 A70))))) ∧ (¬ (I 3) = 0 → (((I 3) = 0 → (wp_Reader_checkMany y3 I A (fun I82 A82 => wp_Reader_step_85 post y1 y3 I82 A82))) ∧ (¬ (I 3) = 0 → wp_Reader_step_85 post y1 y3 I A))))
def wp_Reader_step_31 (post : (Nat → Int32) → (Nat → Nat → Int32) → Prop) (y1 : Int32) (y2 : Int32) (I : Nat → Int32) (A : Nat → Nat → Int32) : Prop := (((I 3) = 0 → (wp_Reader_follow y1 y2 I A (fun r42 I42 A42 => ((r42 = (-1) → (wp_Reader_fail (-2) (I42 15) I42 A42 (fun I58 A58 => wp_Reader_step_61 post y1 r42 I58 A58))) ∧ (¬ r42 = (-1) → wp_Reader_step_61 post y1 r42 I42 A42))))) ∧ (¬ (I 3) = 0 → post I A))
def wp_Reader_step_12 (post : (Nat → Int32) → (Nat → Nat → Int32) → Prop) (y1 : Int32) (y2 : Int32) (I : Nat → Int32) (A : Nat → Nat → Int32) : Prop := (((I 3) = 0 → (wp_Reader_octavesEnd y1 I A (fun r21 I21 A21 => ((r21 = 0 → wp_Reader_step_31 post y1 y2 I21 A21) ∧ (¬ r21 = 0 → (wp_Reader_endNote I21 A21 (fun I28 A28 => wp_Reader_step_31 post y1 y2 I28 A28))))))) ∧ (¬ (I 3) = 0 → wp_Reader_step_31 post y1 y2 I A))
def wp_Reader_step (x1 : Int32) (x2 : Int32) (I : Nat → Int32) (A : Nat → Nat → Int32) (post : (Nat → Int32) → (Nat → Nat → Int32) → Prop) : Prop := (wp_Reader_lengthEnds x1 I A (fun r2 I2 A2 => ((r2 = 0 → wp_Reader_step_12 post x1 x2 I2 A2) ∧ (¬ r2 = 0 → (wp_Reader_endItem I2 A2 (fun I9 A9 => wp_Reader_step_12 post x1 x2 I9 A9))))))
theorem d_Reader_step_0 : decode b_Reader_step 0 = .ok (.aload_n 0, 1) := by decide +kernel
theorem d_Reader_step_1 : decode b_Reader_step 1 = .ok (.iload_n 1, 1) := by decide +kernel
theorem d_Reader_step_2 : decode b_Reader_step 2 = .ok (.invokevirtual 91, 3) := by decide +kernel
theorem d_Reader_step_5 : decode b_Reader_step 5 = .ok (.ifCond .eq 7, 3) := by decide +kernel
theorem d_Reader_step_8 : decode b_Reader_step 8 = .ok (.aload_n 0, 1) := by decide +kernel
theorem d_Reader_step_9 : decode b_Reader_step 9 = .ok (.invokevirtual 95, 3) := by decide +kernel
theorem d_Reader_step_12 : decode b_Reader_step 12 = .ok (.aload_n 0, 1) := by decide +kernel
theorem d_Reader_step_13 : decode b_Reader_step 13 = .ok (.getfield 49, 3) := by decide +kernel
theorem d_Reader_step_16 : decode b_Reader_step 16 = .ok (.ifCond .ne 15, 3) := by decide +kernel
theorem d_Reader_step_19 : decode b_Reader_step 19 = .ok (.aload_n 0, 1) := by decide +kernel
theorem d_Reader_step_20 : decode b_Reader_step 20 = .ok (.iload_n 1, 1) := by decide +kernel
theorem d_Reader_step_21 : decode b_Reader_step 21 = .ok (.invokevirtual 98, 3) := by decide +kernel
theorem d_Reader_step_24 : decode b_Reader_step 24 = .ok (.ifCond .eq 7, 3) := by decide +kernel
theorem d_Reader_step_27 : decode b_Reader_step 27 = .ok (.aload_n 0, 1) := by decide +kernel
theorem d_Reader_step_28 : decode b_Reader_step 28 = .ok (.invokevirtual 101, 3) := by decide +kernel
theorem d_Reader_step_31 : decode b_Reader_step 31 = .ok (.aload_n 0, 1) := by decide +kernel
theorem d_Reader_step_32 : decode b_Reader_step 32 = .ok (.getfield 49, 3) := by decide +kernel
theorem d_Reader_step_35 : decode b_Reader_step 35 = .ok (.ifCond .eq 4, 3) := by decide +kernel
theorem d_Reader_step_38 : decode b_Reader_step 38 = .ok (.return_, 1) := by decide +kernel
theorem d_Reader_step_39 : decode b_Reader_step 39 = .ok (.aload_n 0, 1) := by decide +kernel
theorem d_Reader_step_40 : decode b_Reader_step 40 = .ok (.iload_n 1, 1) := by decide +kernel
theorem d_Reader_step_41 : decode b_Reader_step 41 = .ok (.iload_n 2, 1) := by decide +kernel
theorem d_Reader_step_42 : decode b_Reader_step 42 = .ok (.invokevirtual 104, 3) := by decide +kernel
theorem d_Reader_step_45 : decode b_Reader_step 45 = .ok (.istore_n 3, 1) := by decide +kernel
theorem d_Reader_step_46 : decode b_Reader_step 46 = .ok (.iload_n 3, 1) := by decide +kernel
theorem d_Reader_step_47 : decode b_Reader_step 47 = .ok (.iconst (-1), 1) := by decide +kernel
theorem d_Reader_step_48 : decode b_Reader_step 48 = .ok (.if_icmp .ne 13, 3) := by decide +kernel
theorem d_Reader_step_51 : decode b_Reader_step 51 = .ok (.aload_n 0, 1) := by decide +kernel
theorem d_Reader_step_52 : decode b_Reader_step 52 = .ok (.bipush (-2), 2) := by decide +kernel
theorem d_Reader_step_54 : decode b_Reader_step 54 = .ok (.aload_n 0, 1) := by decide +kernel
theorem d_Reader_step_55 : decode b_Reader_step 55 = .ok (.getfield 80, 3) := by decide +kernel
theorem d_Reader_step_58 : decode b_Reader_step 58 = .ok (.invokevirtual 108, 3) := by decide +kernel
theorem d_Reader_step_61 : decode b_Reader_step 61 = .ok (.aload_n 0, 1) := by decide +kernel
theorem d_Reader_step_62 : decode b_Reader_step 62 = .ok (.getfield 49, 3) := by decide +kernel
theorem d_Reader_step_65 : decode b_Reader_step 65 = .ok (.ifCond .ne 8, 3) := by decide +kernel
theorem d_Reader_step_68 : decode b_Reader_step 68 = .ok (.aload_n 0, 1) := by decide +kernel
theorem d_Reader_step_69 : decode b_Reader_step 69 = .ok (.iload_n 3, 1) := by decide +kernel
theorem d_Reader_step_70 : decode b_Reader_step 70 = .ok (.invokevirtual 111, 3) := by decide +kernel
theorem d_Reader_step_73 : decode b_Reader_step 73 = .ok (.aload_n 0, 1) := by decide +kernel
theorem d_Reader_step_74 : decode b_Reader_step 74 = .ok (.getfield 49, 3) := by decide +kernel
theorem d_Reader_step_77 : decode b_Reader_step 77 = .ok (.ifCond .ne 8, 3) := by decide +kernel
theorem d_Reader_step_80 : decode b_Reader_step 80 = .ok (.aload_n 0, 1) := by decide +kernel
theorem d_Reader_step_81 : decode b_Reader_step 81 = .ok (.iload_n 3, 1) := by decide +kernel
theorem d_Reader_step_82 : decode b_Reader_step 82 = .ok (.invokevirtual 114, 3) := by decide +kernel
theorem d_Reader_step_85 : decode b_Reader_step 85 = .ok (.aload_n 0, 1) := by decide +kernel
theorem d_Reader_step_86 : decode b_Reader_step 86 = .ok (.getfield 49, 3) := by decide +kernel
theorem d_Reader_step_89 : decode b_Reader_step 89 = .ok (.ifCond .ne 19, 3) := by decide +kernel
theorem d_Reader_step_92 : decode b_Reader_step 92 = .ok (.aload_n 0, 1) := by decide +kernel
theorem d_Reader_step_93 : decode b_Reader_step 93 = .ok (.iload_n 3, 1) := by decide +kernel
theorem d_Reader_step_94 : decode b_Reader_step 94 = .ok (.invokevirtual 117, 3) := by decide +kernel
theorem d_Reader_step_97 : decode b_Reader_step 97 = .ok (.aload_n 0, 1) := by decide +kernel
theorem d_Reader_step_98 : decode b_Reader_step 98 = .ok (.iload_n 1, 1) := by decide +kernel
theorem d_Reader_step_99 : decode b_Reader_step 99 = .ok (.iload_n 3, 1) := by decide +kernel
theorem d_Reader_step_100 : decode b_Reader_step 100 = .ok (.invokevirtual 120, 3) := by decide +kernel
theorem d_Reader_step_103 : decode b_Reader_step 103 = .ok (.aload_n 0, 1) := by decide +kernel
theorem d_Reader_step_104 : decode b_Reader_step 104 = .ok (.iload_n 3, 1) := by decide +kernel
theorem d_Reader_step_105 : decode b_Reader_step 105 = .ok (.putfield 55, 3) := by decide +kernel
theorem d_Reader_step_108 : decode b_Reader_step 108 = .ok (.return_, 1) := by decide +kernel
def w_Reader_step : List Cond := .code y_Reader_step b_Reader_step 4 none :: WALL
theorem g_Reader_step : GoodIn WALL w_Reader_step := good_of mc_Reader_step
set_option maxHeartbeats 4000000 in
set_option maxRecDepth 100000 in
theorem c_Reader_step (l : Launch) (D : va_G) (cA a : Nat → Nat) (sz : Nat) (x1 : Int32) (x2 : Int32) (I : Nat → Int32) (A : Nat → Nat → Int32) (post : (Nat → Int32) → (Nat → Nat → Int32) → Prop) (h : wp_Reader_step x1 x2 I A post) : Met l y_Reader_step w_Reader_step ({ frames := 4, cells := 0, slots := 0, locals := 86 }) (va_Pc [.ref (a 2), .int x1, .int x2] (PreC D cA a I A sz)) (va_Qv (fun (u : StW) => post u.1 u.2) (EndC D cA a) (AC a sz)) 0 0 (AC a sz) := by
  refine Met.ofW (cc := b_Reader_step) (maxL := 4) (ret := none) (by decide) rfl ?_
  intro p e s m args below meth c s₁ B hml hv
  obtain ⟨rfl, hsz, hP, hK, hD0⟩ := hv
  have hx := B.exec
  have hb := B.bytes
  have hr := B.returns
  have hts := atoms_spec (ws := w_Reader_step) B.pre
  have hw := wall_of hts
  have hown : s.vm.findClass R_Reader = some m.cls := findClass_of_methodNamed B.named
  have hlocks := B.notSynchronized
  subst hsz
  have hD := hDC (sz := s.heap.size) hD0
  have hA : ∀ q : Nat, s.heap.size ≤ q → AC a s.heap.size q := fun q h => Or.inr h
  have hS : va_S (AC a s.heap.size) s.heap s.heap [] := va_S.rf
  have j85 : ∀ (y1 : Int32) (y3 : Int32) (I : Nat → Int32) (A : Nat → Nat → Int32) (H : Heap) (locs : List Loc) (ls : Array Slot), wp_Reader_step_85 post y1 y3 I A → va_P D cls (wC cA a I A) H → va_S (AC a s.heap.size) s.heap H locs → lv_has ls 4 [(0, .ref (a 2)), (1, .int y1), (3, .int y3)] → W p l e (headSpec w_Reader_step ({ frames := 4, cells := 0, slots := 0, locals := 86 })).room s m [.ref (a 2), .int x1, .int x2].toArray below meth c H locs 0 0 (MQ below (va_Qv (fun (u : StW) => post u.1 u.2) (EndC D cA a) (AC a s.heap.size)) [.ref (a 2), .int x1, .int x2].toArray s 0 0 (AC a s.heap.size)) (F0 m 85 ls []) := by
    intro y1 y3 I A H locs ls h hP hS hl
    unfold wp_Reader_step_85 at h
    refine lv_aload_n hx hb d_Reader_step_85 rfl (lv_at hl 0 rfl) ?_
    refine gC_Reader_fault hx hb hw hown hK hP (hw _ m_Reader_49) d_Reader_step_86 ?_
    refine lv_if_ne (tgt := 108) hx hb d_Reader_step_89 rfl (fun q => ?_) (fun q => ?_)
    · have h := h.2 q
      exact W.vret hx hb hr (fun t ht hW => ⟨⟨(I, A), rfl, h, endC_of ht hP⟩, hS.F ht⟩) hS.2.2 d_Reader_step_108
    · have h := h.1 q
      refine lv_aload_n hx hb d_Reader_step_92 rfl (lv_at hl 0 rfl) ?_
      refine lv_iload_n hx hb d_Reader_step_93 rfl (lv_at hl 2 rfl) ?_
      refine k_Reader_open y3 (rest := []) ⟨hx, hb, hml, hown, hw⟩ hK hD hA hS hP hl.1 (hw _ m_Reader_117) (Nat.le_of_ble_eq_true rfl) ⟨Nat.le_of_ble_eq_true rfl, Nat.le_of_ble_eq_true rfl⟩ ⟨Nat.zero_le _, Nat.zero_le _⟩ d_Reader_step_94 h (fun I94 A94 H locs h hP hS => ?_)
      refine lv_aload_n hx hb d_Reader_step_97 rfl (lv_at hl 0 rfl) ?_
      refine lv_iload_n hx hb d_Reader_step_98 rfl (lv_at hl 1 rfl) ?_
      refine lv_iload_n hx hb d_Reader_step_99 rfl (lv_at hl 2 rfl) ?_
      refine k_Reader_take y1 y3 (rest := []) ⟨hx, hb, hml, hown, hw⟩ hK hD hA hS hP hl.1 (hw _ m_Reader_120) (Nat.le_of_ble_eq_true rfl) ⟨Nat.le_of_ble_eq_true rfl, Nat.le_of_ble_eq_true rfl⟩ ⟨Nat.zero_le _, Nat.zero_le _⟩ d_Reader_step_100 h (fun I100 A100 H locs h hP hS => ?_)
      refine lv_aload_n hx hb d_Reader_step_103 rfl (lv_at hl 0 rfl) ?_
      refine lv_iload_n hx hb d_Reader_step_104 rfl (lv_at hl 2 rfl) ?_
      refine pC_Reader_state hx hb hw hown hK hD hS hP (hw _ m_Reader_55) d_Reader_step_105 (fun H locs hP hS => ?_)
      exact W.vret hx hb hr (fun t ht hW => ⟨⟨((upd I100 14 y3), A100), rfl, h, endC_of ht hP⟩, hS.F ht⟩) hS.2.2 d_Reader_step_108
  have j61 : ∀ (y1 : Int32) (y3 : Int32) (I : Nat → Int32) (A : Nat → Nat → Int32) (H : Heap) (locs : List Loc) (ls : Array Slot), wp_Reader_step_61 post y1 y3 I A → va_P D cls (wC cA a I A) H → va_S (AC a s.heap.size) s.heap H locs → lv_has ls 4 [(0, .ref (a 2)), (1, .int y1), (3, .int y3)] → W p l e (headSpec w_Reader_step ({ frames := 4, cells := 0, slots := 0, locals := 86 })).room s m [.ref (a 2), .int x1, .int x2].toArray below meth c H locs 0 0 (MQ below (va_Qv (fun (u : StW) => post u.1 u.2) (EndC D cA a) (AC a s.heap.size)) [.ref (a 2), .int x1, .int x2].toArray s 0 0 (AC a s.heap.size)) (F0 m 61 ls []) := by
    intro y1 y3 I A H locs ls h hP hS hl
    unfold wp_Reader_step_61 at h
    refine lv_aload_n hx hb d_Reader_step_61 rfl (lv_at hl 0 rfl) ?_
    refine gC_Reader_fault hx hb hw hown hK hP (hw _ m_Reader_49) d_Reader_step_62 ?_
    refine lv_if_ne (tgt := 73) hx hb d_Reader_step_65 rfl (fun q => ?_) (fun q => ?_)
    · have h := h.2 q
      refine lv_aload_n hx hb d_Reader_step_73 rfl (lv_at hl 0 rfl) ?_
      refine gC_Reader_fault hx hb hw hown hK hP (hw _ m_Reader_49) d_Reader_step_74 ?_
      refine lv_if_ne (tgt := 85) hx hb d_Reader_step_77 rfl (fun q => ?_) (fun q => ?_)
      · have h := h.2 q
        exact j85 y1 y3 I A _ _ _ h hP hS (lv_sub hl [0, 1, 2] rfl)
      · have h := h.1 q
        refine lv_aload_n hx hb d_Reader_step_80 rfl (lv_at hl 0 rfl) ?_
        refine lv_iload_n hx hb d_Reader_step_81 rfl (lv_at hl 2 rfl) ?_
        refine k_Reader_checkMany y3 (rest := []) ⟨hx, hb, hml, hown, hw⟩ hK hD hA hS hP hl.1 (hw _ m_Reader_114) (Nat.le_of_ble_eq_true rfl) ⟨Nat.le_of_ble_eq_true rfl, Nat.le_of_ble_eq_true rfl⟩ ⟨Nat.zero_le _, Nat.zero_le _⟩ d_Reader_step_82 h (fun I82 A82 H locs h hP hS => ?_)
        exact j85 y1 y3 I82 A82 _ _ _ h hP hS (lv_sub hl [0, 1, 2] rfl)
    · have h := h.1 q
      refine lv_aload_n hx hb d_Reader_step_68 rfl (lv_at hl 0 rfl) ?_
      refine lv_iload_n hx hb d_Reader_step_69 rfl (lv_at hl 2 rfl) ?_
      refine k_Reader_checkBars y3 (rest := []) ⟨hx, hb, hml, hown, hw⟩ hK hD hA hS hP hl.1 (hw _ m_Reader_111) (Nat.le_of_ble_eq_true rfl) ⟨Nat.le_of_ble_eq_true rfl, Nat.le_of_ble_eq_true rfl⟩ ⟨Nat.zero_le _, Nat.zero_le _⟩ d_Reader_step_70 h (fun I70 A70 H locs h hP hS => ?_)
      refine lv_aload_n hx hb d_Reader_step_73 rfl (lv_at hl 0 rfl) ?_
      refine gC_Reader_fault hx hb hw hown hK hP (hw _ m_Reader_49) d_Reader_step_74 ?_
      refine lv_if_ne (tgt := 85) hx hb d_Reader_step_77 rfl (fun q => ?_) (fun q => ?_)
      · have h := h.2 q
        exact j85 y1 y3 I70 A70 _ _ _ h hP hS (lv_sub hl [0, 1, 2] rfl)
      · have h := h.1 q
        refine lv_aload_n hx hb d_Reader_step_80 rfl (lv_at hl 0 rfl) ?_
        refine lv_iload_n hx hb d_Reader_step_81 rfl (lv_at hl 2 rfl) ?_
        refine k_Reader_checkMany y3 (rest := []) ⟨hx, hb, hml, hown, hw⟩ hK hD hA hS hP hl.1 (hw _ m_Reader_114) (Nat.le_of_ble_eq_true rfl) ⟨Nat.le_of_ble_eq_true rfl, Nat.le_of_ble_eq_true rfl⟩ ⟨Nat.zero_le _, Nat.zero_le _⟩ d_Reader_step_82 h (fun I82 A82 H locs h hP hS => ?_)
        exact j85 y1 y3 I82 A82 _ _ _ h hP hS (lv_sub hl [0, 1, 2] rfl)
  have j31 : ∀ (y1 : Int32) (y2 : Int32) (I : Nat → Int32) (A : Nat → Nat → Int32) (H : Heap) (locs : List Loc) (ls : Array Slot), wp_Reader_step_31 post y1 y2 I A → va_P D cls (wC cA a I A) H → va_S (AC a s.heap.size) s.heap H locs → lv_has ls 4 [(0, .ref (a 2)), (1, .int y1), (2, .int y2)] → W p l e (headSpec w_Reader_step ({ frames := 4, cells := 0, slots := 0, locals := 86 })).room s m [.ref (a 2), .int x1, .int x2].toArray below meth c H locs 0 0 (MQ below (va_Qv (fun (u : StW) => post u.1 u.2) (EndC D cA a) (AC a s.heap.size)) [.ref (a 2), .int x1, .int x2].toArray s 0 0 (AC a s.heap.size)) (F0 m 31 ls []) := by
    intro y1 y2 I A H locs ls h hP hS hl
    unfold wp_Reader_step_31 at h
    refine lv_aload_n hx hb d_Reader_step_31 rfl (lv_at hl 0 rfl) ?_
    refine gC_Reader_fault hx hb hw hown hK hP (hw _ m_Reader_49) d_Reader_step_32 ?_
    refine lv_if_eq (tgt := 39) hx hb d_Reader_step_35 rfl (fun q => ?_) (fun q => ?_)
    · have h := h.1 q
      refine lv_aload_n hx hb d_Reader_step_39 rfl (lv_at hl 0 rfl) ?_
      refine lv_iload_n hx hb d_Reader_step_40 rfl (lv_at hl 1 rfl) ?_
      refine lv_iload_n hx hb d_Reader_step_41 rfl (lv_at hl 2 rfl) ?_
      refine k_Reader_follow y1 y2 (rest := []) ⟨hx, hb, hml, hown, hw⟩ hK hD hA hS hP hl.1 (hw _ m_Reader_104) (Nat.le_of_ble_eq_true rfl) ⟨Nat.le_of_ble_eq_true rfl, Nat.le_of_ble_eq_true rfl⟩ ⟨Nat.zero_le _, Nat.zero_le _⟩ d_Reader_step_42 h (fun r42 I42 A42 H locs h hP hS => ?_)
      refine lv_istore_n (lv' := [(3, .int r42), (0, .ref (a 2)), (1, .int y1), (2, .int y2)]) hx hb d_Reader_step_45 rfl hl (by decide) rfl (fun ls hl => ?_)
      refine lv_iload_n hx hb d_Reader_step_46 rfl (lv_at hl 0 rfl) ?_
      refine lv_iconst (v := (-1)) hx hb d_Reader_step_47 ic_m1 ?_
      refine lv_icmp_ne (tgt := 61) hx hb d_Reader_step_48 rfl (fun q => ?_) (fun q => ?_)
      · have h := h.2 q
        exact j61 y1 r42 I42 A42 _ _ _ h hP hS (lv_sub hl [1, 2, 0] rfl)
      · have h := h.1 q
        refine lv_aload_n hx hb d_Reader_step_51 rfl (lv_at hl 1 rfl) ?_
        refine lv_bipush (v := (-2)) hx hb d_Reader_step_52 bp_m2 ?_
        refine lv_aload_n hx hb d_Reader_step_54 rfl (lv_at hl 1 rfl) ?_
        refine gC_Reader_spot hx hb hw hown hK hP (hw _ m_Reader_80) d_Reader_step_55 ?_
        refine k_Reader_fail (-2) (I42 15) (rest := []) ⟨hx, hb, hml, hown, hw⟩ hK hD hA hS hP hl.1 (hw _ m_Reader_108) (Nat.le_of_ble_eq_true rfl) ⟨Nat.le_of_ble_eq_true rfl, Nat.le_of_ble_eq_true rfl⟩ ⟨Nat.zero_le _, Nat.zero_le _⟩ d_Reader_step_58 h (fun I58 A58 H locs h hP hS => ?_)
        exact j61 y1 r42 I58 A58 _ _ _ h hP hS (lv_sub hl [1, 2, 0] rfl)
    · have h := h.2 q
      exact W.vret hx hb hr (fun t ht hW => ⟨⟨(I, A), rfl, h, endC_of ht hP⟩, hS.F ht⟩) hS.2.2 d_Reader_step_38
  have j12 : ∀ (y1 : Int32) (y2 : Int32) (I : Nat → Int32) (A : Nat → Nat → Int32) (H : Heap) (locs : List Loc) (ls : Array Slot), wp_Reader_step_12 post y1 y2 I A → va_P D cls (wC cA a I A) H → va_S (AC a s.heap.size) s.heap H locs → lv_has ls 4 [(0, .ref (a 2)), (1, .int y1), (2, .int y2)] → W p l e (headSpec w_Reader_step ({ frames := 4, cells := 0, slots := 0, locals := 86 })).room s m [.ref (a 2), .int x1, .int x2].toArray below meth c H locs 0 0 (MQ below (va_Qv (fun (u : StW) => post u.1 u.2) (EndC D cA a) (AC a s.heap.size)) [.ref (a 2), .int x1, .int x2].toArray s 0 0 (AC a s.heap.size)) (F0 m 12 ls []) := by
    intro y1 y2 I A H locs ls h hP hS hl
    unfold wp_Reader_step_12 at h
    refine lv_aload_n hx hb d_Reader_step_12 rfl (lv_at hl 0 rfl) ?_
    refine gC_Reader_fault hx hb hw hown hK hP (hw _ m_Reader_49) d_Reader_step_13 ?_
    refine lv_if_ne (tgt := 31) hx hb d_Reader_step_16 rfl (fun q => ?_) (fun q => ?_)
    · have h := h.2 q
      exact j31 y1 y2 I A _ _ _ h hP hS (lv_sub hl [0, 1, 2] rfl)
    · have h := h.1 q
      refine lv_aload_n hx hb d_Reader_step_19 rfl (lv_at hl 0 rfl) ?_
      refine lv_iload_n hx hb d_Reader_step_20 rfl (lv_at hl 1 rfl) ?_
      refine k_Reader_octavesEnd y1 (rest := []) ⟨hx, hb, hml, hown, hw⟩ hK hD hA hS hP hl.1 (hw _ m_Reader_98) (Nat.le_of_ble_eq_true rfl) ⟨Nat.le_of_ble_eq_true rfl, Nat.le_of_ble_eq_true rfl⟩ ⟨Nat.zero_le _, Nat.zero_le _⟩ d_Reader_step_21 h (fun r21 I21 A21 H locs h hP hS => ?_)
      refine lv_if_eq (tgt := 31) hx hb d_Reader_step_24 rfl (fun q => ?_) (fun q => ?_)
      · have h := h.1 q
        exact j31 y1 y2 I21 A21 _ _ _ h hP hS (lv_sub hl [0, 1, 2] rfl)
      · have h := h.2 q
        refine lv_aload_n hx hb d_Reader_step_27 rfl (lv_at hl 0 rfl) ?_
        refine k_Reader_endNote (rest := []) ⟨hx, hb, hml, hown, hw⟩ hK hD hA hS hP hl.1 (hw _ m_Reader_101) (Nat.le_of_ble_eq_true rfl) ⟨Nat.le_of_ble_eq_true rfl, Nat.le_of_ble_eq_true rfl⟩ ⟨Nat.zero_le _, Nat.zero_le _⟩ d_Reader_step_28 h (fun I28 A28 H locs h hP hS => ?_)
        exact j31 y1 y2 I28 A28 _ _ _ h hP hS (lv_sub hl [0, 1, 2] rfl)
  have hl := lv_entry ([.ref (a 2), .int x1, .int x2]) (n := 4) (Nat.le_of_ble_eq_true rfl)
  rw [lg_entry_eq]
  generalize (lg_sl ([.ref (a 2), .int x1, .int x2]) ++ List.replicate (4 - (lg_sl ([.ref (a 2), .int x1, .int x2])).length) Slot.unset).toArray = ls at hl ⊢
  have hl : lv_has ls 4 [(0, .ref (a 2)), (1, .int x1), (2, .int x2)] := hl
  unfold wp_Reader_step at h
  refine lv_aload_n hx hb d_Reader_step_0 rfl (lv_at hl 0 rfl) ?_
  refine lv_iload_n hx hb d_Reader_step_1 rfl (lv_at hl 1 rfl) ?_
  refine k_Reader_lengthEnds x1 (rest := []) ⟨hx, hb, hml, hown, hw⟩ hK hD hA hS hP hl.1 (hw _ m_Reader_91) (Nat.le_of_ble_eq_true rfl) ⟨Nat.le_of_ble_eq_true rfl, Nat.le_of_ble_eq_true rfl⟩ ⟨Nat.zero_le _, Nat.zero_le _⟩ d_Reader_step_2 h (fun r2 I2 A2 H locs h hP hS => ?_)
  refine lv_if_eq (tgt := 12) hx hb d_Reader_step_5 rfl (fun q => ?_) (fun q => ?_)
  · have h := h.1 q
    exact j12 x1 x2 I2 A2 _ _ _ h hP hS (lv_sub hl [0, 1, 2] rfl)
  · have h := h.2 q
    refine lv_aload_n hx hb d_Reader_step_8 rfl (lv_at hl 0 rfl) ?_
    refine k_Reader_endItem (rest := []) ⟨hx, hb, hml, hown, hw⟩ hK hD hA hS hP hl.1 (hw _ m_Reader_95) (Nat.le_of_ble_eq_true rfl) ⟨Nat.le_of_ble_eq_true rfl, Nat.le_of_ble_eq_true rfl⟩ ⟨Nat.zero_le _, Nat.zero_le _⟩ d_Reader_step_9 h (fun I9 A9 H locs h hP hS => ?_)
    exact j12 x1 x2 I9 A9 _ _ _ h hP hS (lv_sub hl [0, 1, 2] rfl)
theorem k_Reader_step {p : Program} {l : Launch} {e : Env} {R : Room} {s : State} {m : MethodId} {args : Array Value} {below : List Frame} {meth : Method} {c : Code} {H : Heap} {locs : List Loc} {cells slots : Nat} {Q : State → Prop} {cc : ByteArray} {pc nL idx : Nat} {own : String} {ls : Array Slot} {D : va_G} {cA a : Nat → Nat} {AA : Nat → Prop} {I : Nat → Int32} {A : Nat → Nat → Int32} {post : (Nat → Int32) → (Nat → Nat → Int32) → Prop} (x1 : Int32) (x2 : Int32) {rest : List Value} (S : CallFix p m c cc nL s args WALL own) (hK : KC D cA a AA s) (hD : ∀ I A, va_D AA (wC cA a I A)) (hA : ∀ q : Nat, s.heap.size ≤ q → AA q) (hS : va_S AA s.heap H locs) (hP : va_P D cls (wC cA a I A) H) (hl1 : ls.size = nL) (hlink : (Cond.methodLink own idx y_Reader_step).before args s = true) (hst : (rest.map fun v => v.category).sum ≤ 8) (hR : ({ frames := 4, cells := 0, slots := 0, locals := 86 } : Room).frames + 1 ≤ R.frames ∧ 8 + (4 + 11) + ({ frames := 4, cells := 0, slots := 0, locals := 86 } : Room).locals ≤ R.locals) (hcs : cells ≤ R.cells ∧ slots ≤ R.slots) (hdg : decode cc pc = .ok (.invokevirtual idx, 3)) (h : wp_Reader_step x1 x2 I A post) (kk : ∀ (I1 : Nat → Int32) (A1 : Nat → Nat → Int32) (H1 : Heap) (locs1 : List Loc), post I1 A1 → va_P D cls (wC cA a I1 A1) H1 → va_S AA s.heap H1 locs1 → W p l e R s m args below meth c H1 locs1 cells slots Q (F0 m (pc + 3) ls rest)) : W p l e R s m args below meth c H locs cells slots Q (F0 m pc ls (.int x2 :: .int x1 :: .ref (a 2) :: rest)) :=
  va_callv (va_runV (As := [.int x1, .int x2]) (rest := rest) S (c_Reader_step l D cA a H.size x1 x2 I A post h) ⟨callB_of 2 S.2.2.2.2 g_Reader_step rfl rfl rfl (S.2.2.2.2 _ mi_Reader) hlink ⟨by decide, by decide, by decide +kernel⟩ hR, S.2.2.2.2 _ mn_Reader_step, S.2.2.2.2 _ ms_Reader_step⟩ (preCV hK hD hA hS hP 2 rfl rfl) rfl rfl hl1 rfl (lv_room hst) hdg hcs) hS (fun q _ z => AC_le hD hA hS q z) (fun q z => AC_le hD hA hS q z) (fun u t H1 locs1 ht _ hp hB _ _ hS1 => kk u.1 u.2 H1 locs1 hp (of_endC ht hB) hS1)
def wp_Reader_scan_2 (post : (Nat → Int32) → (Nat → Nat → Int32) → Prop) : Nat → Int32 → Int32 → (Nat → Int32) → (Nat → Nat → Int32) → Prop
  | 0, _, _, _, _ => False
  | n + 1, y2, y3, I, A => ((y2 < y3 → post I A) ∧ (¬ y2 < y3 → (((I 3) = 0 → (wp_Reader_letterAt y2 y3 (upd I 15 y3) A (fun r23 I23 A23 => (wp_Reader_letterAt y2 (y3 + 1) I23 A23 (fun r31 I31 A31 => (wp_Reader_step r23 r31 I31 A31 (fun I34 A34 => (∀ v37 : Int32, v37 = y3 + 1 → wp_Reader_scan_2 post n y2 v37 I34 A34)))))))) ∧ (¬ (I 3) = 0 → post I A))))
def wp_Reader_scan (x1 : Int32) (I : Nat → Int32) (A : Nat → Nat → Int32) (post : (Nat → Int32) → (Nat → Nat → Int32) → Prop) : Prop := (∃ n2, wp_Reader_scan_2 post n2 x1 0 I A)
theorem d_Reader_scan_0 : decode b_Reader_scan 0 = .ok (.iconst 0, 1) := by decide +kernel
theorem d_Reader_scan_1 : decode b_Reader_scan 1 = .ok (.istore_n 3, 1) := by decide +kernel
theorem d_Reader_scan_2 : decode b_Reader_scan 2 = .ok (.iload_n 3, 1) := by decide +kernel
theorem d_Reader_scan_3 : decode b_Reader_scan 3 = .ok (.iload_n 2, 1) := by decide +kernel
theorem d_Reader_scan_4 : decode b_Reader_scan 4 = .ok (.if_icmp .gt 39, 3) := by decide +kernel
theorem d_Reader_scan_7 : decode b_Reader_scan 7 = .ok (.aload_n 0, 1) := by decide +kernel
theorem d_Reader_scan_8 : decode b_Reader_scan 8 = .ok (.getfield 49, 3) := by decide +kernel
theorem d_Reader_scan_11 : decode b_Reader_scan 11 = .ok (.ifCond .ne 32, 3) := by decide +kernel
theorem d_Reader_scan_14 : decode b_Reader_scan 14 = .ok (.aload_n 0, 1) := by decide +kernel
theorem d_Reader_scan_15 : decode b_Reader_scan 15 = .ok (.iload_n 3, 1) := by decide +kernel
theorem d_Reader_scan_16 : decode b_Reader_scan 16 = .ok (.putfield 80, 3) := by decide +kernel
theorem d_Reader_scan_19 : decode b_Reader_scan 19 = .ok (.aload_n 0, 1) := by decide +kernel
theorem d_Reader_scan_20 : decode b_Reader_scan 20 = .ok (.aload_n 1, 1) := by decide +kernel
theorem d_Reader_scan_21 : decode b_Reader_scan 21 = .ok (.iload_n 2, 1) := by decide +kernel
theorem d_Reader_scan_22 : decode b_Reader_scan 22 = .ok (.iload_n 3, 1) := by decide +kernel
theorem d_Reader_scan_23 : decode b_Reader_scan 23 = .ok (.invokestatic 83, 3) := by decide +kernel
theorem d_Reader_scan_26 : decode b_Reader_scan 26 = .ok (.aload_n 1, 1) := by decide +kernel
theorem d_Reader_scan_27 : decode b_Reader_scan 27 = .ok (.iload_n 2, 1) := by decide +kernel
theorem d_Reader_scan_28 : decode b_Reader_scan 28 = .ok (.iload_n 3, 1) := by decide +kernel
theorem d_Reader_scan_29 : decode b_Reader_scan 29 = .ok (.iconst 1, 1) := by decide +kernel
theorem d_Reader_scan_30 : decode b_Reader_scan 30 = .ok (.iadd, 1) := by decide +kernel
theorem d_Reader_scan_31 : decode b_Reader_scan 31 = .ok (.invokestatic 83, 3) := by decide +kernel
theorem d_Reader_scan_34 : decode b_Reader_scan 34 = .ok (.invokevirtual 87, 3) := by decide +kernel
theorem d_Reader_scan_37 : decode b_Reader_scan 37 = .ok (.iinc 3 1, 3) := by decide +kernel
theorem d_Reader_scan_40 : decode b_Reader_scan 40 = .ok (.goto (-38), 3) := by decide +kernel
theorem d_Reader_scan_43 : decode b_Reader_scan 43 = .ok (.return_, 1) := by decide +kernel
def w_Reader_scan : List Cond := .code y_Reader_scan b_Reader_scan 4 none :: WALL
theorem g_Reader_scan : GoodIn WALL w_Reader_scan := good_of mc_Reader_scan
set_option maxHeartbeats 4000000 in
set_option maxRecDepth 100000 in
theorem c_Reader_scan (l : Launch) (D : va_G) (cA a : Nat → Nat) (sz : Nat) (x1 : Int32) (I : Nat → Int32) (A : Nat → Nat → Int32) (post : (Nat → Int32) → (Nat → Nat → Int32) → Prop) (h : wp_Reader_scan x1 I A post) : Met l y_Reader_scan w_Reader_scan ({ frames := 5, cells := 0, slots := 0, locals := 109 }) (va_Pc [.ref (a 2), .ref (a 1), .int x1] (PreC D cA a I A sz)) (va_Qv (fun (u : StW) => post u.1 u.2) (EndC D cA a) (AC a sz)) 0 0 (AC a sz) := by
  refine Met.ofW (cc := b_Reader_scan) (maxL := 4) (ret := none) (by decide) rfl ?_
  intro p e s m args below meth c s₁ B hml hv
  obtain ⟨rfl, hsz, hP, hK, hD0⟩ := hv
  have hx := B.exec
  have hb := B.bytes
  have hr := B.returns
  have hts := atoms_spec (ws := w_Reader_scan) B.pre
  have hw := wall_of hts
  have hown : s.vm.findClass R_Reader = some m.cls := findClass_of_methodNamed B.named
  have hlocks := B.notSynchronized
  subst hsz
  have hD := hDC (sz := s.heap.size) hD0
  have hA : ∀ q : Nat, s.heap.size ≤ q → AC a s.heap.size q := fun q h => Or.inr h
  have hS : va_S (AC a s.heap.size) s.heap s.heap [] := va_S.rf
  have j2 : ∀ n : Nat, ∀ (y2 : Int32) (y3 : Int32) (I : Nat → Int32) (A : Nat → Nat → Int32) (H : Heap) (locs : List Loc) (ls : Array Slot), wp_Reader_scan_2 post n y2 y3 I A → va_P D cls (wC cA a I A) H → va_S (AC a s.heap.size) s.heap H locs → lv_has ls 4 [(0, .ref (a 2)), (1, .ref (a 1)), (2, .int y2), (3, .int y3)] → W p l e (headSpec w_Reader_scan ({ frames := 5, cells := 0, slots := 0, locals := 109 })).room s m [.ref (a 2), .ref (a 1), .int x1].toArray below meth c H locs 0 0 (MQ below (va_Qv (fun (u : StW) => post u.1 u.2) (EndC D cA a) (AC a s.heap.size)) [.ref (a 2), .ref (a 1), .int x1].toArray s 0 0 (AC a s.heap.size)) (F0 m 2 ls []) := by
    intro n
    induction n with
    | zero =>
      intro y2 y3 I A H locs ls h hP hS hl
      exact False.elim h
    | succ n ih =>
      intro y2 y3 I A H locs ls h hP hS hl
      unfold wp_Reader_scan_2 at h
      refine lv_iload_n hx hb d_Reader_scan_2 rfl (lv_at hl 3 rfl) ?_
      refine lv_iload_n hx hb d_Reader_scan_3 rfl (lv_at hl 2 rfl) ?_
      refine lv_icmp_gt (tgt := 43) hx hb d_Reader_scan_4 rfl (fun q => ?_) (fun q => ?_)
      · have h := h.1 q
        exact W.vret hx hb hr (fun t ht hW => ⟨⟨(I, A), rfl, h, endC_of ht hP⟩, hS.F ht⟩) hS.2.2 d_Reader_scan_43
      · have h := h.2 q
        refine lv_aload_n hx hb d_Reader_scan_7 rfl (lv_at hl 0 rfl) ?_
        refine gC_Reader_fault hx hb hw hown hK hP (hw _ m_Reader_49) d_Reader_scan_8 ?_
        refine lv_if_ne (tgt := 43) hx hb d_Reader_scan_11 rfl (fun q => ?_) (fun q => ?_)
        · have h := h.2 q
          exact W.vret hx hb hr (fun t ht hW => ⟨⟨(I, A), rfl, h, endC_of ht hP⟩, hS.F ht⟩) hS.2.2 d_Reader_scan_43
        · have h := h.1 q
          refine lv_aload_n hx hb d_Reader_scan_14 rfl (lv_at hl 0 rfl) ?_
          refine lv_iload_n hx hb d_Reader_scan_15 rfl (lv_at hl 3 rfl) ?_
          refine pC_Reader_spot hx hb hw hown hK hD hS hP (hw _ m_Reader_80) d_Reader_scan_16 (fun H locs hP hS => ?_)
          refine lv_aload_n hx hb d_Reader_scan_19 rfl (lv_at hl 0 rfl) ?_
          refine lv_aload_n hx hb d_Reader_scan_20 rfl (lv_at hl 1 rfl) ?_
          refine lv_iload_n hx hb d_Reader_scan_21 rfl (lv_at hl 2 rfl) ?_
          refine lv_iload_n hx hb d_Reader_scan_22 rfl (lv_at hl 3 rfl) ?_
          refine k_Reader_letterAt y2 y3 (rest := [.ref (a 2)]) ⟨hx, hb, hml, hown, hw⟩ hK hD hA hS hP hl.1 (hw _ m_Reader_83) (Nat.le_of_ble_eq_true rfl) ⟨Nat.le_of_ble_eq_true rfl, Nat.le_of_ble_eq_true rfl⟩ ⟨Nat.zero_le _, Nat.zero_le _⟩ d_Reader_scan_23 h (fun r23 I23 A23 H locs h hP hS => ?_)
          refine lv_aload_n hx hb d_Reader_scan_26 rfl (lv_at hl 1 rfl) ?_
          refine lv_iload_n hx hb d_Reader_scan_27 rfl (lv_at hl 2 rfl) ?_
          refine lv_iload_n hx hb d_Reader_scan_28 rfl (lv_at hl 3 rfl) ?_
          refine lv_iconst (v := 1) hx hb d_Reader_scan_29 ic_1 ?_
          refine lv_iadd hx hb d_Reader_scan_30 ?_
          refine k_Reader_letterAt y2 (y3 + 1) (rest := [.int r23, .ref (a 2)]) ⟨hx, hb, hml, hown, hw⟩ hK hD hA hS hP hl.1 (hw _ m_Reader_83) (Nat.le_of_ble_eq_true rfl) ⟨Nat.le_of_ble_eq_true rfl, Nat.le_of_ble_eq_true rfl⟩ ⟨Nat.zero_le _, Nat.zero_le _⟩ d_Reader_scan_31 h (fun r31 I31 A31 H locs h hP hS => ?_)
          refine k_Reader_step r23 r31 (rest := []) ⟨hx, hb, hml, hown, hw⟩ hK hD hA hS hP hl.1 (hw _ m_Reader_87) (Nat.le_of_ble_eq_true rfl) ⟨Nat.le_of_ble_eq_true rfl, Nat.le_of_ble_eq_true rfl⟩ ⟨Nat.zero_le _, Nat.zero_le _⟩ d_Reader_scan_34 h (fun I34 A34 H locs h hP hS => ?_)
          obtain ⟨v37, ev37⟩ : ∃ z : Int32, z = y3 + 1 := ⟨_, rfl⟩
          have h := h v37 ev37
          refine lv_iinc (k := 3) (v := v37) (lv' := [(3, .int v37), (0, .ref (a 2)), (1, .ref (a 1)), (2, .int y2)]) hx hb d_Reader_scan_37 hl rfl (by rw [ev37, ic_1]) (by decide) rfl (fun ls hl => ?_)
          refine lv_goto (tgt := 2) hx hb d_Reader_scan_40 rfl ?_
          exact ih y2 v37 I34 A34 _ _ _ h hP hS (lv_sub hl [1, 2, 3, 0] rfl)
  have hl := lv_entry ([.ref (a 2), .ref (a 1), .int x1]) (n := 4) (Nat.le_of_ble_eq_true rfl)
  rw [lg_entry_eq]
  generalize (lg_sl ([.ref (a 2), .ref (a 1), .int x1]) ++ List.replicate (4 - (lg_sl ([.ref (a 2), .ref (a 1), .int x1])).length) Slot.unset).toArray = ls at hl ⊢
  have hl : lv_has ls 4 [(0, .ref (a 2)), (1, .ref (a 1)), (2, .int x1)] := hl
  unfold wp_Reader_scan at h
  refine lv_iconst (v := 0) hx hb d_Reader_scan_0 ic_0 ?_
  refine lv_istore_n (lv' := [(3, .int 0), (0, .ref (a 2)), (1, .ref (a 1)), (2, .int x1)]) hx hb d_Reader_scan_1 rfl hl (by decide) rfl (fun ls hl => ?_)
  obtain ⟨n2, h⟩ := h
  exact j2 n2 x1 0 I A _ _ _ h hP hS (lv_sub hl [1, 2, 3, 0] rfl)
theorem k_Reader_scan {p : Program} {l : Launch} {e : Env} {R : Room} {s : State} {m : MethodId} {args : Array Value} {below : List Frame} {meth : Method} {c : Code} {H : Heap} {locs : List Loc} {cells slots : Nat} {Q : State → Prop} {cc : ByteArray} {pc nL idx : Nat} {own : String} {ls : Array Slot} {D : va_G} {cA a : Nat → Nat} {AA : Nat → Prop} {I : Nat → Int32} {A : Nat → Nat → Int32} {post : (Nat → Int32) → (Nat → Nat → Int32) → Prop} (x1 : Int32) {rest : List Value} (S : CallFix p m c cc nL s args WALL own) (hK : KC D cA a AA s) (hD : ∀ I A, va_D AA (wC cA a I A)) (hA : ∀ q : Nat, s.heap.size ≤ q → AA q) (hS : va_S AA s.heap H locs) (hP : va_P D cls (wC cA a I A) H) (hl1 : ls.size = nL) (hlink : (Cond.methodLink own idx y_Reader_scan).before args s = true) (hst : (rest.map fun v => v.category).sum ≤ 8) (hR : ({ frames := 5, cells := 0, slots := 0, locals := 109 } : Room).frames + 1 ≤ R.frames ∧ 8 + (4 + 11) + ({ frames := 5, cells := 0, slots := 0, locals := 109 } : Room).locals ≤ R.locals) (hcs : cells ≤ R.cells ∧ slots ≤ R.slots) (hdg : decode cc pc = .ok (.invokevirtual idx, 3)) (h : wp_Reader_scan x1 I A post) (kk : ∀ (I1 : Nat → Int32) (A1 : Nat → Nat → Int32) (H1 : Heap) (locs1 : List Loc), post I1 A1 → va_P D cls (wC cA a I1 A1) H1 → va_S AA s.heap H1 locs1 → W p l e R s m args below meth c H1 locs1 cells slots Q (F0 m (pc + 3) ls rest)) : W p l e R s m args below meth c H locs cells slots Q (F0 m pc ls (.int x1 :: .ref (a 1) :: .ref (a 2) :: rest)) :=
  va_callv (va_runV (As := [.ref (a 1), .int x1]) (rest := rest) S (c_Reader_scan l D cA a H.size x1 I A post h) ⟨callB_of 2 S.2.2.2.2 g_Reader_scan rfl rfl rfl (S.2.2.2.2 _ mi_Reader) hlink ⟨by decide, by decide, by decide +kernel⟩ hR, S.2.2.2.2 _ mn_Reader_scan, S.2.2.2.2 _ ms_Reader_scan⟩ (preCV hK hD hA hS hP 2 rfl rfl) rfl rfl hl1 rfl (lv_room hst) hdg hcs) hS (fun q _ z => AC_le hD hA hS q z) (fun q z => AC_le hD hA hS q z) (fun u t H1 locs1 ht _ hp hB _ _ hS1 => kk u.1 u.2 H1 locs1 hp (of_endC ht hB) hS1)
def wp_Playing_takeWaiting_2 (post : Int32 → (Nat → Int32) → (Nat → Nat → Int32) → Prop) : Nat → Int32 → Int32 → (Nat → Int32) → (Nat → Nat → Int32) → Prop
  | 0, _, _, _, _ => False
  | n + 1, y1, y2, I, A => (((I 26) ≤ y2 → post (-1) I A) ∧ (¬ (I 26) ≤ y2 → (vp_in y2 4 ∧ (∀ v16 : Int32, v16 = (A 20 (y2.toNatClampNeg)) → ((v16 = (-1) → (∀ v41 : Int32, v41 = y2 + 1 → wp_Playing_takeWaiting_2 post n y1 v41 I A)) ∧ (¬ v16 = (-1) → (vp_in v16 64 ∧ (((A 19 (v16.toNatClampNeg)) = y1 → (vp_in y2 4 ∧ post v16 I (upd2 A 20 (y2.toNatClampNeg) (-1)))) ∧ (¬ (A 19 (v16.toNatClampNeg)) = y1 → (∀ v41 : Int32, v41 = y2 + 1 → wp_Playing_takeWaiting_2 post n y1 v41 I A))))))))))
def wp_Playing_takeWaiting (x1 : Int32) (I : Nat → Int32) (A : Nat → Nat → Int32) (post : Int32 → (Nat → Int32) → (Nat → Nat → Int32) → Prop) : Prop := (∃ n2, wp_Playing_takeWaiting_2 post n2 x1 0 I A)
theorem d_Playing_takeWaiting_0 : decode b_Playing_takeWaiting 0 = .ok (.iconst 0, 1) := by decide +kernel
theorem d_Playing_takeWaiting_1 : decode b_Playing_takeWaiting 1 = .ok (.istore_n 2, 1) := by decide +kernel
theorem d_Playing_takeWaiting_2 : decode b_Playing_takeWaiting 2 = .ok (.iload_n 2, 1) := by decide +kernel
theorem d_Playing_takeWaiting_3 : decode b_Playing_takeWaiting 3 = .ok (.aload_n 0, 1) := by decide +kernel
theorem d_Playing_takeWaiting_4 : decode b_Playing_takeWaiting 4 = .ok (.getfield 38, 3) := by decide +kernel
theorem d_Playing_takeWaiting_7 : decode b_Playing_takeWaiting 7 = .ok (.if_icmp .ge 40, 3) := by decide +kernel
theorem d_Playing_takeWaiting_10 : decode b_Playing_takeWaiting 10 = .ok (.aload_n 0, 1) := by decide +kernel
theorem d_Playing_takeWaiting_11 : decode b_Playing_takeWaiting 11 = .ok (.getfield 21, 3) := by decide +kernel
theorem d_Playing_takeWaiting_14 : decode b_Playing_takeWaiting 14 = .ok (.iload_n 2, 1) := by decide +kernel
theorem d_Playing_takeWaiting_15 : decode b_Playing_takeWaiting 15 = .ok (.iaload, 1) := by decide +kernel
theorem d_Playing_takeWaiting_16 : decode b_Playing_takeWaiting 16 = .ok (.istore_n 3, 1) := by decide +kernel
theorem d_Playing_takeWaiting_17 : decode b_Playing_takeWaiting 17 = .ok (.iload_n 3, 1) := by decide +kernel
theorem d_Playing_takeWaiting_18 : decode b_Playing_takeWaiting 18 = .ok (.iconst (-1), 1) := by decide +kernel
theorem d_Playing_takeWaiting_19 : decode b_Playing_takeWaiting 19 = .ok (.if_icmp .eq 22, 3) := by decide +kernel
theorem d_Playing_takeWaiting_22 : decode b_Playing_takeWaiting 22 = .ok (.aload_n 0, 1) := by decide +kernel
theorem d_Playing_takeWaiting_23 : decode b_Playing_takeWaiting 23 = .ok (.getfield 18, 3) := by decide +kernel
theorem d_Playing_takeWaiting_26 : decode b_Playing_takeWaiting 26 = .ok (.iload_n 3, 1) := by decide +kernel
theorem d_Playing_takeWaiting_27 : decode b_Playing_takeWaiting 27 = .ok (.iaload, 1) := by decide +kernel
theorem d_Playing_takeWaiting_28 : decode b_Playing_takeWaiting 28 = .ok (.iload_n 1, 1) := by decide +kernel
theorem d_Playing_takeWaiting_29 : decode b_Playing_takeWaiting 29 = .ok (.if_icmp .ne 12, 3) := by decide +kernel
theorem d_Playing_takeWaiting_32 : decode b_Playing_takeWaiting 32 = .ok (.aload_n 0, 1) := by decide +kernel
theorem d_Playing_takeWaiting_33 : decode b_Playing_takeWaiting 33 = .ok (.getfield 21, 3) := by decide +kernel
theorem d_Playing_takeWaiting_36 : decode b_Playing_takeWaiting 36 = .ok (.iload_n 2, 1) := by decide +kernel
theorem d_Playing_takeWaiting_37 : decode b_Playing_takeWaiting 37 = .ok (.iconst (-1), 1) := by decide +kernel
theorem d_Playing_takeWaiting_38 : decode b_Playing_takeWaiting 38 = .ok (.iastore, 1) := by decide +kernel
theorem d_Playing_takeWaiting_39 : decode b_Playing_takeWaiting 39 = .ok (.iload_n 3, 1) := by decide +kernel
theorem d_Playing_takeWaiting_40 : decode b_Playing_takeWaiting 40 = .ok (.ireturn, 1) := by decide +kernel
theorem d_Playing_takeWaiting_41 : decode b_Playing_takeWaiting 41 = .ok (.iinc 2 1, 3) := by decide +kernel
theorem d_Playing_takeWaiting_44 : decode b_Playing_takeWaiting 44 = .ok (.goto (-42), 3) := by decide +kernel
theorem d_Playing_takeWaiting_47 : decode b_Playing_takeWaiting 47 = .ok (.iconst (-1), 1) := by decide +kernel
theorem d_Playing_takeWaiting_48 : decode b_Playing_takeWaiting 48 = .ok (.ireturn, 1) := by decide +kernel
def w_Playing_takeWaiting : List Cond := .code y_Playing_takeWaiting b_Playing_takeWaiting 4 (some .int) :: WALL
theorem g_Playing_takeWaiting : GoodIn WALL w_Playing_takeWaiting := good_of mc_Playing_takeWaiting
set_option maxHeartbeats 4000000 in
set_option maxRecDepth 100000 in
theorem c_Playing_takeWaiting (l : Launch) (D : va_G) (cA a : Nat → Nat) (sz : Nat) (x1 : Int32) (I : Nat → Int32) (A : Nat → Nat → Int32) (post : Int32 → (Nat → Int32) → (Nat → Nat → Int32) → Prop) (h : wp_Playing_takeWaiting x1 I A post) : Met l y_Playing_takeWaiting w_Playing_takeWaiting ({ frames := 0, cells := 0, slots := 0, locals := 0 }) (va_Pc [.ref (a 16), .int x1] (PreC D cA a I A sz)) (va_Qi (fun r (u : StW) => post r u.1 u.2) (EndC D cA a) (AC a sz)) 0 0 (AC a sz) := by
  refine Met.ofW (cc := b_Playing_takeWaiting) (maxL := 4) (ret := (some .int)) (by decide) rfl ?_
  intro p e s m args below meth c s₁ B hml hv
  obtain ⟨rfl, hsz, hP, hK, hD0⟩ := hv
  have hx := B.exec
  have hb := B.bytes
  have hr := B.returns
  have hts := atoms_spec (ws := w_Playing_takeWaiting) B.pre
  have hw := wall_of hts
  have hown : s.vm.findClass R_Playing = some m.cls := findClass_of_methodNamed B.named
  have hlocks := B.notSynchronized
  subst hsz
  have hD := hDC (sz := s.heap.size) hD0
  have hA : ∀ q : Nat, s.heap.size ≤ q → AC a s.heap.size q := fun q h => Or.inr h
  have hS : va_S (AC a s.heap.size) s.heap s.heap [] := va_S.rf
  have j2 : ∀ n : Nat, ∀ (y1 : Int32) (y2 : Int32) (I : Nat → Int32) (A : Nat → Nat → Int32) (H : Heap) (locs : List Loc) (ls : Array Slot), wp_Playing_takeWaiting_2 post n y1 y2 I A → va_P D cls (wC cA a I A) H → va_S (AC a s.heap.size) s.heap H locs → lv_has ls 4 [(0, .ref (a 16)), (1, .int y1), (2, .int y2)] → W p l e (headSpec w_Playing_takeWaiting ({ frames := 0, cells := 0, slots := 0, locals := 0 })).room s m [.ref (a 16), .int x1].toArray below meth c H locs 0 0 (MQ below (va_Qi (fun r (u : StW) => post r u.1 u.2) (EndC D cA a) (AC a s.heap.size)) [.ref (a 16), .int x1].toArray s 0 0 (AC a s.heap.size)) (F0 m 2 ls []) := by
    intro n
    induction n with
    | zero =>
      intro y1 y2 I A H locs ls h hP hS hl
      exact False.elim h
    | succ n ih =>
      intro y1 y2 I A H locs ls h hP hS hl
      unfold wp_Playing_takeWaiting_2 at h
      refine lv_iload_n hx hb d_Playing_takeWaiting_2 rfl (lv_at hl 2 rfl) ?_
      refine lv_aload_n hx hb d_Playing_takeWaiting_3 rfl (lv_at hl 0 rfl) ?_
      refine gC_Playing_waitingCount hx hb hw hown hK hP (hw _ m_Playing_38) d_Playing_takeWaiting_4 ?_
      refine lv_icmp_ge (tgt := 47) hx hb d_Playing_takeWaiting_7 rfl (fun q => ?_) (fun q => ?_)
      · have h := h.1 q
        refine lv_iconst (v := (-1)) hx hb d_Playing_takeWaiting_47 ic_m1 ?_
        exact W.iret hx hb hr (fun t ht hW => ⟨⟨_, (I, A), rfl, h, endC_of ht hP⟩, hS.F ht⟩) hS.2.2 d_Playing_takeWaiting_48
      · have h := h.2 q
        refine lv_aload_n hx hb d_Playing_takeWaiting_10 rfl (lv_at hl 0 rfl) ?_
        refine gC_Playing_waiting hx hb hw hown hK hP (hw _ m_Playing_21) d_Playing_takeWaiting_11 ?_
        refine lv_iload_n hx hb d_Playing_takeWaiting_14 rfl (lv_at hl 2 rfl) ?_
        obtain ⟨hin, h⟩ := h
        refine lC20 hx hb hK hP hin d_Playing_takeWaiting_15 ?_
        refine lv_topi (fun v16 ev16 => ?_)
        have h := h v16 ev16
        refine lv_istore_n (lv' := [(3, .int v16), (0, .ref (a 16)), (1, .int y1), (2, .int y2)]) hx hb d_Playing_takeWaiting_16 rfl hl (by decide) rfl (fun ls hl => ?_)
        refine lv_iload_n hx hb d_Playing_takeWaiting_17 rfl (lv_at hl 0 rfl) ?_
        refine lv_iconst (v := (-1)) hx hb d_Playing_takeWaiting_18 ic_m1 ?_
        refine lv_icmp_eq (tgt := 41) hx hb d_Playing_takeWaiting_19 rfl (fun q => ?_) (fun q => ?_)
        · have h := h.1 q
          obtain ⟨v41, ev41⟩ : ∃ z : Int32, z = y2 + 1 := ⟨_, rfl⟩
          have h := h v41 ev41
          refine lv_iinc (k := 3) (v := v41) (lv' := [(2, .int v41), (3, .int v16), (0, .ref (a 16)), (1, .int y1)]) hx hb d_Playing_takeWaiting_41 hl rfl (by rw [ev41, ic_1]) (by decide) rfl (fun ls hl => ?_)
          refine lv_goto (tgt := 2) hx hb d_Playing_takeWaiting_44 rfl ?_
          exact ih y1 v41 I A _ _ _ h hP hS (lv_sub hl [2, 3, 0] rfl)
        · have h := h.2 q
          refine lv_aload_n hx hb d_Playing_takeWaiting_22 rfl (lv_at hl 1 rfl) ?_
          refine gC_Playing_pitch hx hb hw hown hK hP (hw _ m_Playing_18) d_Playing_takeWaiting_23 ?_
          refine lv_iload_n hx hb d_Playing_takeWaiting_26 rfl (lv_at hl 0 rfl) ?_
          obtain ⟨hin, h⟩ := h
          refine lC19 hx hb hK hP hin d_Playing_takeWaiting_27 ?_
          refine lv_iload_n hx hb d_Playing_takeWaiting_28 rfl (lv_at hl 2 rfl) ?_
          refine lv_icmp_ne (tgt := 41) hx hb d_Playing_takeWaiting_29 rfl (fun q => ?_) (fun q => ?_)
          · have h := h.2 q
            obtain ⟨v41, ev41⟩ : ∃ z : Int32, z = y2 + 1 := ⟨_, rfl⟩
            have h := h v41 ev41
            refine lv_iinc (k := 3) (v := v41) (lv' := [(2, .int v41), (3, .int v16), (0, .ref (a 16)), (1, .int y1)]) hx hb d_Playing_takeWaiting_41 hl rfl (by rw [ev41, ic_1]) (by decide) rfl (fun ls hl => ?_)
            refine lv_goto (tgt := 2) hx hb d_Playing_takeWaiting_44 rfl ?_
            exact ih y1 v41 I A _ _ _ h hP hS (lv_sub hl [2, 3, 0] rfl)
          · have h := h.1 q
            refine lv_aload_n hx hb d_Playing_takeWaiting_32 rfl (lv_at hl 1 rfl) ?_
            refine gC_Playing_waiting hx hb hw hown hK hP (hw _ m_Playing_21) d_Playing_takeWaiting_33 ?_
            refine lv_iload_n hx hb d_Playing_takeWaiting_36 rfl (lv_at hl 3 rfl) ?_
            refine lv_iconst (v := (-1)) hx hb d_Playing_takeWaiting_37 ic_m1 ?_
            obtain ⟨hin, h⟩ := h
            refine sC20 hx hb hK hD hS hP hin d_Playing_takeWaiting_38 (fun H locs hP hS => ?_)
            refine lv_iload_n hx hb d_Playing_takeWaiting_39 rfl (lv_at hl 0 rfl) ?_
            exact W.iret hx hb hr (fun t ht hW => ⟨⟨_, (I, (upd2 A 20 (y2.toNatClampNeg) (-1))), rfl, h, endC_of ht hP⟩, hS.F ht⟩) hS.2.2 d_Playing_takeWaiting_40
  have hl := lv_entry ([.ref (a 16), .int x1]) (n := 4) (Nat.le_of_ble_eq_true rfl)
  rw [lg_entry_eq]
  generalize (lg_sl ([.ref (a 16), .int x1]) ++ List.replicate (4 - (lg_sl ([.ref (a 16), .int x1])).length) Slot.unset).toArray = ls at hl ⊢
  have hl : lv_has ls 4 [(0, .ref (a 16)), (1, .int x1)] := hl
  unfold wp_Playing_takeWaiting at h
  refine lv_iconst (v := 0) hx hb d_Playing_takeWaiting_0 ic_0 ?_
  refine lv_istore_n (lv' := [(2, .int 0), (0, .ref (a 16)), (1, .int x1)]) hx hb d_Playing_takeWaiting_1 rfl hl (by decide) rfl (fun ls hl => ?_)
  obtain ⟨n2, h⟩ := h
  exact j2 n2 x1 0 I A _ _ _ h hP hS (lv_sub hl [1, 2, 0] rfl)
theorem k_Playing_takeWaiting {p : Program} {l : Launch} {e : Env} {R : Room} {s : State} {m : MethodId} {args : Array Value} {below : List Frame} {meth : Method} {c : Code} {H : Heap} {locs : List Loc} {cells slots : Nat} {Q : State → Prop} {cc : ByteArray} {pc nL idx : Nat} {own : String} {ls : Array Slot} {D : va_G} {cA a : Nat → Nat} {AA : Nat → Prop} {I : Nat → Int32} {A : Nat → Nat → Int32} {post : Int32 → (Nat → Int32) → (Nat → Nat → Int32) → Prop} (x1 : Int32) {rest : List Value} (S : CallFix p m c cc nL s args WALL own) (hK : KC D cA a AA s) (hD : ∀ I A, va_D AA (wC cA a I A)) (hA : ∀ q : Nat, s.heap.size ≤ q → AA q) (hS : va_S AA s.heap H locs) (hP : va_P D cls (wC cA a I A) H) (hl1 : ls.size = nL) (hlink : (Cond.methodLink own idx y_Playing_takeWaiting).before args s = true) (hst : (rest.map fun v => v.category).sum ≤ 8) (hR : ({ frames := 0, cells := 0, slots := 0, locals := 0 } : Room).frames + 1 ≤ R.frames ∧ 8 + (4 + 11) + ({ frames := 0, cells := 0, slots := 0, locals := 0 } : Room).locals ≤ R.locals) (hcs : cells ≤ R.cells ∧ slots ≤ R.slots) (hdg : decode cc pc = .ok (.invokevirtual idx, 3)) (h : wp_Playing_takeWaiting x1 I A post) (kk : ∀ (r : Int32) (I1 : Nat → Int32) (A1 : Nat → Nat → Int32) (H1 : Heap) (locs1 : List Loc), post r I1 A1 → va_P D cls (wC cA a I1 A1) H1 → va_S AA s.heap H1 locs1 → W p l e R s m args below meth c H1 locs1 cells slots Q (F0 m (pc + 3) ls (.int r :: rest))) : W p l e R s m args below meth c H locs cells slots Q (F0 m pc ls (.int x1 :: .ref (a 16) :: rest)) :=
  va_calli (va_runV (As := [.int x1]) (rest := rest) S (c_Playing_takeWaiting l D cA a H.size x1 I A post h) ⟨callB_of 1 S.2.2.2.2 g_Playing_takeWaiting rfl rfl rfl (S.2.2.2.2 _ mi_Playing) hlink ⟨by decide, by decide, by decide +kernel⟩ hR, S.2.2.2.2 _ mn_Playing_takeWaiting, S.2.2.2.2 _ ms_Playing_takeWaiting⟩ (preCV hK hD hA hS hP 16 rfl rfl) rfl rfl hl1 rfl (lv_room hst) hdg hcs) hS (fun q _ z => AC_le hD hA hS q z) (fun q z => AC_le hD hA hS q z) (fun r u t H1 locs1 ht _ hp hB _ _ hS1 => kk r u.1 u.2 H1 locs1 hp (of_endC ht hB) hS1)

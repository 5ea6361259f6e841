def wp_TuneSetterModel_beginsItem (x1 : Int32) (I : Nat → Int32) (A : Nat → Nat → Int32) (post : Int32 → (Nat → Int32) → (Nat → Nat → Int32) → Prop) : Prop := ((x1 = 40 → post 1 I A) ∧ (¬ x1 = 40 → ((x1 = 91 → post 1 I A) ∧ (¬ x1 = 91 → ((x1 = 122 → post 1 I A) ∧ (¬ x1 = 122 → (wp_TuneSetterModel_beginsNote x1 I A (fun r19 I19 A19 => ((r19 = 0 → post 0 I19 A19) ∧ (¬ r19 = 0 → post 1 I19 A19))))))))))
theorem d_TuneSetterModel_beginsItem_0 : decode b_TuneSetterModel_beginsItem 0 = .ok (.iload_n 0, 1) := by decide +kernel
theorem d_TuneSetterModel_beginsItem_1 : decode b_TuneSetterModel_beginsItem 1 = .ok (.bipush 40, 2) := by decide +kernel
theorem d_TuneSetterModel_beginsItem_3 : decode b_TuneSetterModel_beginsItem 3 = .ok (.if_icmp .eq 22, 3) := by decide +kernel
theorem d_TuneSetterModel_beginsItem_6 : decode b_TuneSetterModel_beginsItem 6 = .ok (.iload_n 0, 1) := by decide +kernel
theorem d_TuneSetterModel_beginsItem_7 : decode b_TuneSetterModel_beginsItem 7 = .ok (.bipush 91, 2) := by decide +kernel
theorem d_TuneSetterModel_beginsItem_9 : decode b_TuneSetterModel_beginsItem 9 = .ok (.if_icmp .eq 16, 3) := by decide +kernel
theorem d_TuneSetterModel_beginsItem_12 : decode b_TuneSetterModel_beginsItem 12 = .ok (.iload_n 0, 1) := by decide +kernel
theorem d_TuneSetterModel_beginsItem_13 : decode b_TuneSetterModel_beginsItem 13 = .ok (.bipush 122, 2) := by decide +kernel
theorem d_TuneSetterModel_beginsItem_15 : decode b_TuneSetterModel_beginsItem 15 = .ok (.if_icmp .eq 10, 3) := by decide +kernel
theorem d_TuneSetterModel_beginsItem_18 : decode b_TuneSetterModel_beginsItem 18 = .ok (.iload_n 0, 1) := by decide +kernel
theorem d_TuneSetterModel_beginsItem_19 : decode b_TuneSetterModel_beginsItem 19 = .ok (.invokestatic 118, 3) := by decide +kernel
theorem d_TuneSetterModel_beginsItem_22 : decode b_TuneSetterModel_beginsItem 22 = .ok (.ifCond .eq 7, 3) := by decide +kernel
theorem d_TuneSetterModel_beginsItem_25 : decode b_TuneSetterModel_beginsItem 25 = .ok (.iconst 1, 1) := by decide +kernel
theorem d_TuneSetterModel_beginsItem_26 : decode b_TuneSetterModel_beginsItem 26 = .ok (.goto 4, 3) := by decide +kernel
theorem d_TuneSetterModel_beginsItem_29 : decode b_TuneSetterModel_beginsItem 29 = .ok (.iconst 0, 1) := by decide +kernel
theorem d_TuneSetterModel_beginsItem_30 : decode b_TuneSetterModel_beginsItem 30 = .ok (.ireturn, 1) := by decide +kernel
def w_TuneSetterModel_beginsItem : List Cond := .code y_TuneSetterModel_beginsItem b_TuneSetterModel_beginsItem 1 (some .boolean) :: WALL
theorem g_TuneSetterModel_beginsItem : GoodIn WALL w_TuneSetterModel_beginsItem := good_of mc_TuneSetterModel_beginsItem
set_option maxHeartbeats 4000000 in
set_option maxRecDepth 100000 in
theorem c_TuneSetterModel_beginsItem (l : Launch) (D : va_G) (cA a : Nat → Nat) (sz : Nat) (x1 : Int32) (I : Nat → Int32) (A : Nat → Nat → Int32) (post : Int32 → (Nat → Int32) → (Nat → Nat → Int32) → Prop) (h : wp_TuneSetterModel_beginsItem x1 I A post) : Met l y_TuneSetterModel_beginsItem w_TuneSetterModel_beginsItem ({ frames := 2, cells := 0, slots := 0, locals := 40 }) (va_Pc [.int x1] (PreR D cA a I A sz)) (va_Qi (fun r (u : StW) => post r u.1 u.2) (EndR D cA a) (AR a sz)) 0 0 (AR a sz) := by
  refine Met.ofW (cc := b_TuneSetterModel_beginsItem) (maxL := 1) (ret := (some .boolean)) (by decide) rfl ?_
  intro p e s m args below meth c s₁ B hml hv
  obtain ⟨rfl, hsz, hP, hK, hD0⟩ := hv
  have hx := B.exec
  have hb := B.bytes
  have hr := B.returns
  have hts := atoms_spec (ws := w_TuneSetterModel_beginsItem) B.pre
  have hw := wall_of hts
  have hown : s.vm.findClass R_TuneSetterModel = some m.cls := findClass_of_methodNamed B.named
  have hlocks := B.notSynchronized
  subst hsz
  have hD := hDR (sz := s.heap.size) hD0
  have hA : ∀ q : Nat, s.heap.size ≤ q → AR a s.heap.size q := fun q h => Or.inr h
  have hS : va_S (AR a s.heap.size) s.heap s.heap [] := va_S.rf
  have hl := lv_entry ([.int x1]) (n := 1) (Nat.le_of_ble_eq_true rfl)
  rw [lg_entry_eq]
  generalize (lg_sl ([.int x1]) ++ List.replicate (1 - (lg_sl ([.int x1])).length) Slot.unset).toArray = ls at hl ⊢
  have hl : lv_has ls 1 [(0, .int x1)] := hl
  unfold wp_TuneSetterModel_beginsItem at h
  refine lv_iload_n hx hb d_TuneSetterModel_beginsItem_0 rfl (lv_at hl 0 rfl) ?_
  refine lv_bipush (v := 40) hx hb d_TuneSetterModel_beginsItem_1 bp_40 ?_
  refine lv_icmp_eq (tgt := 25) hx hb d_TuneSetterModel_beginsItem_3 rfl (fun q => ?_) (fun q => ?_)
  · have h := h.1 q
    refine lv_iconst (v := 1) hx hb d_TuneSetterModel_beginsItem_25 ic_1 ?_
    refine lv_goto (tgt := 30) hx hb d_TuneSetterModel_beginsItem_26 rfl ?_
    exact W.zret hx hb hr (vz_n vz1) (fun t ht hW => ⟨⟨_, (I, A), rfl, h, endR_of ht hP⟩, hS.F ht⟩) hS.2.2 d_TuneSetterModel_beginsItem_30
  · have h := h.2 q
    refine lv_iload_n hx hb d_TuneSetterModel_beginsItem_6 rfl (lv_at hl 0 rfl) ?_
    refine lv_bipush (v := 91) hx hb d_TuneSetterModel_beginsItem_7 bp_91 ?_
    refine lv_icmp_eq (tgt := 25) hx hb d_TuneSetterModel_beginsItem_9 rfl (fun q => ?_) (fun q => ?_)
    · have h := h.1 q
      refine lv_iconst (v := 1) hx hb d_TuneSetterModel_beginsItem_25 ic_1 ?_
      refine lv_goto (tgt := 30) hx hb d_TuneSetterModel_beginsItem_26 rfl ?_
      exact W.zret hx hb hr (vz_n vz1) (fun t ht hW => ⟨⟨_, (I, A), rfl, h, endR_of ht hP⟩, hS.F ht⟩) hS.2.2 d_TuneSetterModel_beginsItem_30
    · have h := h.2 q
      refine lv_iload_n hx hb d_TuneSetterModel_beginsItem_12 rfl (lv_at hl 0 rfl) ?_
      refine lv_bipush (v := 122) hx hb d_TuneSetterModel_beginsItem_13 bp_122 ?_
      refine lv_icmp_eq (tgt := 25) hx hb d_TuneSetterModel_beginsItem_15 rfl (fun q => ?_) (fun q => ?_)
      · have h := h.1 q
        refine lv_iconst (v := 1) hx hb d_TuneSetterModel_beginsItem_25 ic_1 ?_
        refine lv_goto (tgt := 30) hx hb d_TuneSetterModel_beginsItem_26 rfl ?_
        exact W.zret hx hb hr (vz_n vz1) (fun t ht hW => ⟨⟨_, (I, A), rfl, h, endR_of ht hP⟩, hS.F ht⟩) hS.2.2 d_TuneSetterModel_beginsItem_30
      · have h := h.2 q
        refine lv_iload_n hx hb d_TuneSetterModel_beginsItem_18 rfl (lv_at hl 0 rfl) ?_
        refine k_TuneSetterModel_beginsNote x1 (rest := []) ⟨hx, hb, hml, hown, hw⟩ hK hD hA hS hP hl.1 (hw _ m_TuneSetterModel_118) (Nat.le_of_ble_eq_true rfl) ⟨Nat.le_of_ble_eq_true rfl, Nat.le_of_ble_eq_true rfl⟩ ⟨Nat.zero_le _, Nat.zero_le _⟩ d_TuneSetterModel_beginsItem_19 h (fun r19 I19 A19 H locs h hP hS => ?_)
        refine lv_if_eq (tgt := 29) hx hb d_TuneSetterModel_beginsItem_22 rfl (fun q => ?_) (fun q => ?_)
        · have h := h.1 q
          refine lv_iconst (v := 0) hx hb d_TuneSetterModel_beginsItem_29 ic_0 ?_
          exact W.zret hx hb hr (vz_n vz0) (fun t ht hW => ⟨⟨_, (I19, A19), rfl, h, endR_of ht hP⟩, hS.F ht⟩) hS.2.2 d_TuneSetterModel_beginsItem_30
        · have h := h.2 q
          refine lv_iconst (v := 1) hx hb d_TuneSetterModel_beginsItem_25 ic_1 ?_
          refine lv_goto (tgt := 30) hx hb d_TuneSetterModel_beginsItem_26 rfl ?_
          exact W.zret hx hb hr (vz_n vz1) (fun t ht hW => ⟨⟨_, (I19, A19), rfl, h, endR_of ht hP⟩, hS.F ht⟩) hS.2.2 d_TuneSetterModel_beginsItem_30
theorem k_TuneSetterModel_beginsItem {p : Program} {l : Launch} {e : Env} {R : Room} {s : State} {m : MethodId} {args : Array Value} {below : List Frame} {meth : Method} {c : Code} {H : Heap} {locs : List Loc} {cells slots : Nat} {Q : State → Prop} {cc : ByteArray} {pc nL idx : Nat} {own : String} {ls : Array Slot} {D : va_G} {cA a : Nat → Nat} {AA : Nat → Prop} {I : Nat → Int32} {A : Nat → Nat → Int32} {post : Int32 → (Nat → Int32) → (Nat → Nat → Int32) → Prop} (x1 : Int32) {rest : List Value} (S : CallFix p m c cc nL s args WALL own) (hK : KR D cA a AA s) (hD : ∀ I A, va_D AA (wR cA a I A)) (hA : ∀ q : Nat, s.heap.size ≤ q → AA q) (hS : va_S AA s.heap H locs) (hP : va_P D cls (wR cA a I A) H) (hl1 : ls.size = nL) (hlink : (Cond.methodLink own idx y_TuneSetterModel_beginsItem).before args s = true) (hst : (rest.map fun v => v.category).sum ≤ 8) (hR : ({ frames := 2, cells := 0, slots := 0, locals := 40 } : Room).frames + 1 ≤ R.frames ∧ 8 + (1 + 11) + ({ frames := 2, cells := 0, slots := 0, locals := 40 } : Room).locals ≤ R.locals) (hcs : cells ≤ R.cells ∧ slots ≤ R.slots) (hdg : decode cc pc = .ok (.invokestatic idx, 3)) (h : wp_TuneSetterModel_beginsItem x1 I A post) (kk : ∀ (r : Int32) (I1 : Nat → Int32) (A1 : Nat → Nat → Int32) (H1 : Heap) (locs1 : List Loc), post r I1 A1 → va_P D cls (wR cA a I1 A1) H1 → va_S AA s.heap H1 locs1 → W p l e R s m args below meth c H1 locs1 cells slots Q (F0 m (pc + 3) ls (.int r :: rest))) : W p l e R s m args below meth c H locs cells slots Q (F0 m pc ls (.int x1 :: rest)) :=
  va_calli (va_runS (As := [.int x1]) (rest := rest) S (c_TuneSetterModel_beginsItem l D cA a H.size x1 I A post h) ⟨callB_of 1 S.2.2.2.2 g_TuneSetterModel_beginsItem rfl rfl rfl (S.2.2.2.2 _ mi_TuneSetterModel) hlink ⟨by decide, by decide, by decide +kernel⟩ hR, S.2.2.2.2 _ mn_TuneSetterModel_beginsItem⟩ (preRS hK hD hA hS hP) rfl rfl hl1 rfl (lv_room hst) hdg hcs) hS (fun q _ z => AR_le hD hA hS q z) (fun q z => AR_le hD hA hS q z) (fun r u t H1 locs1 ht _ hp hB _ _ hS1 => kk r u.1 u.2 H1 locs1 hp (of_endR ht hB) hS1)
def wp_TuneSetterModel_full (I : Nat → Int32) (A : Nat → Nat → Int32) (post : Int32 → (Nat → Int32) → (Nat → Nat → Int32) → Prop) : Prop := (¬ (I 1) = 0 ∧ post (((384 : Int32) * (I 0)) / (I 1)) I A)
theorem d_TuneSetterModel_full_0 : decode b_TuneSetterModel_full 0 = .ok (.sipush 384, 3) := by decide +kernel
theorem d_TuneSetterModel_full_3 : decode b_TuneSetterModel_full 3 = .ok (.aload_n 0, 1) := by decide +kernel
theorem d_TuneSetterModel_full_4 : decode b_TuneSetterModel_full 4 = .ok (.getfield 7, 3) := by decide +kernel
theorem d_TuneSetterModel_full_7 : decode b_TuneSetterModel_full 7 = .ok (.imul, 1) := by decide +kernel
theorem d_TuneSetterModel_full_8 : decode b_TuneSetterModel_full 8 = .ok (.aload_n 0, 1) := by decide +kernel
theorem d_TuneSetterModel_full_9 : decode b_TuneSetterModel_full 9 = .ok (.getfield 13, 3) := by decide +kernel
theorem d_TuneSetterModel_full_12 : decode b_TuneSetterModel_full 12 = .ok (.idiv, 1) := by decide +kernel
theorem d_TuneSetterModel_full_13 : decode b_TuneSetterModel_full 13 = .ok (.ireturn, 1) := by decide +kernel
def w_TuneSetterModel_full : List Cond := .code y_TuneSetterModel_full b_TuneSetterModel_full 1 (some .int) :: WALL
theorem g_TuneSetterModel_full : GoodIn WALL w_TuneSetterModel_full := good_of mc_TuneSetterModel_full
set_option maxHeartbeats 4000000 in
set_option maxRecDepth 100000 in
theorem c_TuneSetterModel_full (l : Launch) (D : va_G) (cA a : Nat → Nat) (sz : Nat) (I : Nat → Int32) (A : Nat → Nat → Int32) (post : Int32 → (Nat → Int32) → (Nat → Nat → Int32) → Prop) (h : wp_TuneSetterModel_full I A post) : Met l y_TuneSetterModel_full w_TuneSetterModel_full ({ frames := 0, cells := 0, slots := 0, locals := 0 }) (va_Pc [.ref (a 0)] (PreR D cA a I A sz)) (va_Qi (fun r (u : StW) => post r u.1 u.2) (EndR D cA a) (AR a sz)) 0 0 (AR a sz) := by
  refine Met.ofW (cc := b_TuneSetterModel_full) (maxL := 1) (ret := (some .int)) (by decide) rfl ?_
  intro p e s m args below meth c s₁ B hml hv
  obtain ⟨rfl, hsz, hP, hK, hD0⟩ := hv
  have hx := B.exec
  have hb := B.bytes
  have hr := B.returns
  have hts := atoms_spec (ws := w_TuneSetterModel_full) B.pre
  have hw := wall_of hts
  have hown : s.vm.findClass R_TuneSetterModel = some m.cls := findClass_of_methodNamed B.named
  have hlocks := B.notSynchronized
  subst hsz
  have hD := hDR (sz := s.heap.size) hD0
  have hA : ∀ q : Nat, s.heap.size ≤ q → AR a s.heap.size q := fun q h => Or.inr h
  have hS : va_S (AR a s.heap.size) s.heap s.heap [] := va_S.rf
  have hl := lv_entry ([.ref (a 0)]) (n := 1) (Nat.le_of_ble_eq_true rfl)
  rw [lg_entry_eq]
  generalize (lg_sl ([.ref (a 0)]) ++ List.replicate (1 - (lg_sl ([.ref (a 0)])).length) Slot.unset).toArray = ls at hl ⊢
  have hl : lv_has ls 1 [(0, .ref (a 0))] := hl
  unfold wp_TuneSetterModel_full at h
  refine lv_sipush (v := 384) hx hb d_TuneSetterModel_full_0 sp_384 ?_
  refine lv_aload_n hx hb d_TuneSetterModel_full_3 rfl (lv_at hl 0 rfl) ?_
  refine gR_TuneSetterModel_n hx hb hw hown hK hP (hw _ m_TuneSetterModel_7) d_TuneSetterModel_full_4 ?_
  refine lv_imul hx hb d_TuneSetterModel_full_7 ?_
  refine lv_aload_n hx hb d_TuneSetterModel_full_8 rfl (lv_at hl 0 rfl) ?_
  refine gR_TuneSetterModel_d hx hb hw hown hK hP (hw _ m_TuneSetterModel_13) d_TuneSetterModel_full_9 ?_
  obtain ⟨hne, h⟩ := h
  refine lv_idiv hx hb d_TuneSetterModel_full_12 hne ?_
  exact W.iret hx hb hr (fun t ht hW => ⟨⟨_, (I, A), rfl, h, endR_of ht hP⟩, hS.F ht⟩) hS.2.2 d_TuneSetterModel_full_13
theorem k_TuneSetterModel_full {p : Program} {l : Launch} {e : Env} {R : Room} {s : State} {m : MethodId} {args : Array Value} {below : List Frame} {meth : Method} {c : Code} {H : Heap} {locs : List Loc} {cells slots : Nat} {Q : State → Prop} {cc : ByteArray} {pc nL idx : Nat} {own : String} {ls : Array Slot} {D : va_G} {cA a : Nat → Nat} {AA : Nat → Prop} {I : Nat → Int32} {A : Nat → Nat → Int32} {post : Int32 → (Nat → Int32) → (Nat → Nat → Int32) → Prop} {rest : List Value} (S : CallFix p m c cc nL s args WALL own) (hK : KR D cA a AA s) (hD : ∀ I A, va_D AA (wR cA a I A)) (hA : ∀ q : Nat, s.heap.size ≤ q → AA q) (hS : va_S AA s.heap H locs) (hP : va_P D cls (wR cA a I A) H) (hl1 : ls.size = nL) (hlink : (Cond.methodLink own idx y_TuneSetterModel_full).before args s = true) (hst : (rest.map fun v => v.category).sum ≤ 8) (hR : ({ frames := 0, cells := 0, slots := 0, locals := 0 } : Room).frames + 1 ≤ R.frames ∧ 8 + (1 + 11) + ({ frames := 0, cells := 0, slots := 0, locals := 0 } : Room).locals ≤ R.locals) (hcs : cells ≤ R.cells ∧ slots ≤ R.slots) (hdg : decode cc pc = .ok (.invokevirtual idx, 3)) (h : wp_TuneSetterModel_full I A post) (kk : ∀ (r : Int32) (I1 : Nat → Int32) (A1 : Nat → Nat → Int32) (H1 : Heap) (locs1 : List Loc), post r I1 A1 → va_P D cls (wR cA a I1 A1) H1 → va_S AA s.heap H1 locs1 → W p l e R s m args below meth c H1 locs1 cells slots Q (F0 m (pc + 3) ls (.int r :: rest))) : W p l e R s m args below meth c H locs cells slots Q (F0 m pc ls (.ref (a 0) :: rest)) :=
  va_calli (va_runV (As := []) (rest := rest) S (c_TuneSetterModel_full l D cA a H.size I A post h) ⟨callB_of 0 S.2.2.2.2 g_TuneSetterModel_full rfl rfl rfl (S.2.2.2.2 _ mi_TuneSetterModel) hlink ⟨by decide, by decide, by decide +kernel⟩ hR, S.2.2.2.2 _ mn_TuneSetterModel_full, S.2.2.2.2 _ ms_TuneSetterModel_full⟩ (preRV hK hD hA hS hP 0 rfl rfl) rfl rfl hl1 rfl (lv_room hst) hdg hcs) hS (fun q _ z => AR_le hD hA hS q z) (fun q z => AR_le hD hA hS q z) (fun r u t H1 locs1 ht _ hp hB _ _ hS1 => kk r u.1 u.2 H1 locs1 hp (of_endR ht hB) hS1)
def wp_TuneSetterModel_openItem (I : Nat → Int32) (A : Nat → Nat → Int32) (post : (Nat → Int32) → (Nat → Nat → Int32) → Prop) : Prop := (vp_in (I 8) 48 ∧ (vp_in (I 8) 48 ∧ (vp_in (I 8) 48 ∧ post (upd (upd (upd (upd I 8 ((I 8) + 1)) 11 0) 12 0) 15 0) (upd2 (upd2 (upd2 A 7 ((I 8).toNatClampNeg) 0) 8 ((I 8).toNatClampNeg) 0) 9 ((I 8).toNatClampNeg) 0))))
theorem d_TuneSetterModel_openItem_0 : decode b_TuneSetterModel_openItem 0 = .ok (.aload_n 0, 1) := by decide +kernel
theorem d_TuneSetterModel_openItem_1 : decode b_TuneSetterModel_openItem 1 = .ok (.getfield 41, 3) := by decide +kernel
theorem d_TuneSetterModel_openItem_4 : decode b_TuneSetterModel_openItem 4 = .ok (.aload_n 0, 1) := by decide +kernel
theorem d_TuneSetterModel_openItem_5 : decode b_TuneSetterModel_openItem 5 = .ok (.getfield 90, 3) := by decide +kernel
theorem d_TuneSetterModel_openItem_8 : decode b_TuneSetterModel_openItem 8 = .ok (.iconst 0, 1) := by decide +kernel
theorem d_TuneSetterModel_openItem_9 : decode b_TuneSetterModel_openItem 9 = .ok (.bastore, 1) := by decide +kernel
theorem d_TuneSetterModel_openItem_10 : decode b_TuneSetterModel_openItem 10 = .ok (.aload_n 0, 1) := by decide +kernel
theorem d_TuneSetterModel_openItem_11 : decode b_TuneSetterModel_openItem 11 = .ok (.getfield 45, 3) := by decide +kernel
theorem d_TuneSetterModel_openItem_14 : decode b_TuneSetterModel_openItem 14 = .ok (.aload_n 0, 1) := by decide +kernel
theorem d_TuneSetterModel_openItem_15 : decode b_TuneSetterModel_openItem 15 = .ok (.getfield 90, 3) := by decide +kernel
theorem d_TuneSetterModel_openItem_18 : decode b_TuneSetterModel_openItem 18 = .ok (.iconst 0, 1) := by decide +kernel
theorem d_TuneSetterModel_openItem_19 : decode b_TuneSetterModel_openItem 19 = .ok (.iastore, 1) := by decide +kernel
theorem d_TuneSetterModel_openItem_20 : decode b_TuneSetterModel_openItem 20 = .ok (.aload_n 0, 1) := by decide +kernel
theorem d_TuneSetterModel_openItem_21 : decode b_TuneSetterModel_openItem 21 = .ok (.getfield 48, 3) := by decide +kernel
theorem d_TuneSetterModel_openItem_24 : decode b_TuneSetterModel_openItem 24 = .ok (.aload_n 0, 1) := by decide +kernel
theorem d_TuneSetterModel_openItem_25 : decode b_TuneSetterModel_openItem 25 = .ok (.getfield 90, 3) := by decide +kernel
theorem d_TuneSetterModel_openItem_28 : decode b_TuneSetterModel_openItem 28 = .ok (.iconst 0, 1) := by decide +kernel
theorem d_TuneSetterModel_openItem_29 : decode b_TuneSetterModel_openItem 29 = .ok (.iastore, 1) := by decide +kernel
theorem d_TuneSetterModel_openItem_30 : decode b_TuneSetterModel_openItem 30 = .ok (.aload_n 0, 1) := by decide +kernel
theorem d_TuneSetterModel_openItem_31 : decode b_TuneSetterModel_openItem 31 = .ok (.dup, 1) := by decide +kernel
theorem d_TuneSetterModel_openItem_32 : decode b_TuneSetterModel_openItem 32 = .ok (.getfield 90, 3) := by decide +kernel
theorem d_TuneSetterModel_openItem_35 : decode b_TuneSetterModel_openItem 35 = .ok (.iconst 1, 1) := by decide +kernel
theorem d_TuneSetterModel_openItem_36 : decode b_TuneSetterModel_openItem 36 = .ok (.iadd, 1) := by decide +kernel
theorem d_TuneSetterModel_openItem_37 : decode b_TuneSetterModel_openItem 37 = .ok (.putfield 90, 3) := by decide +kernel
theorem d_TuneSetterModel_openItem_40 : decode b_TuneSetterModel_openItem 40 = .ok (.aload_n 0, 1) := by decide +kernel
theorem d_TuneSetterModel_openItem_41 : decode b_TuneSetterModel_openItem 41 = .ok (.iconst 0, 1) := by decide +kernel
theorem d_TuneSetterModel_openItem_42 : decode b_TuneSetterModel_openItem 42 = .ok (.putfield 140, 3) := by decide +kernel
theorem d_TuneSetterModel_openItem_45 : decode b_TuneSetterModel_openItem 45 = .ok (.aload_n 0, 1) := by decide +kernel
theorem d_TuneSetterModel_openItem_46 : decode b_TuneSetterModel_openItem 46 = .ok (.iconst 0, 1) := by decide +kernel
theorem d_TuneSetterModel_openItem_47 : decode b_TuneSetterModel_openItem 47 = .ok (.putfield 163, 3) := by decide +kernel
theorem d_TuneSetterModel_openItem_50 : decode b_TuneSetterModel_openItem 50 = .ok (.aload_n 0, 1) := by decide +kernel
theorem d_TuneSetterModel_openItem_51 : decode b_TuneSetterModel_openItem 51 = .ok (.iconst 0, 1) := by decide +kernel
theorem d_TuneSetterModel_openItem_52 : decode b_TuneSetterModel_openItem 52 = .ok (.putfield 217, 3) := by decide +kernel
theorem d_TuneSetterModel_openItem_55 : decode b_TuneSetterModel_openItem 55 = .ok (.return_, 1) := by decide +kernel
def w_TuneSetterModel_openItem : List Cond := .code y_TuneSetterModel_openItem b_TuneSetterModel_openItem 1 none :: WALL
theorem g_TuneSetterModel_openItem : GoodIn WALL w_TuneSetterModel_openItem := good_of mc_TuneSetterModel_openItem
set_option maxHeartbeats 4000000 in
set_option maxRecDepth 100000 in
theorem c_TuneSetterModel_openItem (l : Launch) (D : va_G) (cA a : Nat → Nat) (sz : Nat) (I : Nat → Int32) (A : Nat → Nat → Int32) (post : (Nat → Int32) → (Nat → Nat → Int32) → Prop) (h : wp_TuneSetterModel_openItem I A post) : Met l y_TuneSetterModel_openItem w_TuneSetterModel_openItem ({ frames := 0, cells := 0, slots := 0, locals := 0 }) (va_Pc [.ref (a 0)] (PreR D cA a I A sz)) (va_Qv (fun (u : StW) => post u.1 u.2) (EndR D cA a) (AR a sz)) 0 0 (AR a sz) := by
  refine Met.ofW (cc := b_TuneSetterModel_openItem) (maxL := 1) (ret := none) (by decide) rfl ?_
  intro p e s m args below meth c s₁ B hml hv
  obtain ⟨rfl, hsz, hP, hK, hD0⟩ := hv
  have hx := B.exec
  have hb := B.bytes
  have hr := B.returns
  have hts := atoms_spec (ws := w_TuneSetterModel_openItem) B.pre
  have hw := wall_of hts
  have hown : s.vm.findClass R_TuneSetterModel = some m.cls := findClass_of_methodNamed B.named
  have hlocks := B.notSynchronized
  subst hsz
  have hD := hDR (sz := s.heap.size) hD0
  have hA : ∀ q : Nat, s.heap.size ≤ q → AR a s.heap.size q := fun q h => Or.inr h
  have hS : va_S (AR a s.heap.size) s.heap s.heap [] := va_S.rf
  have hl := lv_entry ([.ref (a 0)]) (n := 1) (Nat.le_of_ble_eq_true rfl)
  rw [lg_entry_eq]
  generalize (lg_sl ([.ref (a 0)]) ++ List.replicate (1 - (lg_sl ([.ref (a 0)])).length) Slot.unset).toArray = ls at hl ⊢
  have hl : lv_has ls 1 [(0, .ref (a 0))] := hl
  unfold wp_TuneSetterModel_openItem at h
  refine lv_aload_n hx hb d_TuneSetterModel_openItem_0 rfl (lv_at hl 0 rfl) ?_
  refine gR_TuneSetterModel_tie hx hb hw hown hK hP (hw _ m_TuneSetterModel_41) d_TuneSetterModel_openItem_1 ?_
  refine lv_aload_n hx hb d_TuneSetterModel_openItem_4 rfl (lv_at hl 0 rfl) ?_
  refine gR_TuneSetterModel_items hx hb hw hown hK hP (hw _ m_TuneSetterModel_90) d_TuneSetterModel_openItem_5 ?_
  refine lv_iconst (v := 0) hx hb d_TuneSetterModel_openItem_8 ic_0 ?_
  obtain ⟨hin, h⟩ := h
  refine sR7 hx hb hK hD hS hP hin vz0 d_TuneSetterModel_openItem_9 (fun H locs hP hS => ?_)
  refine lv_aload_n hx hb d_TuneSetterModel_openItem_10 rfl (lv_at hl 0 rfl) ?_
  refine gR_TuneSetterModel_signs hx hb hw hown hK hP (hw _ m_TuneSetterModel_45) d_TuneSetterModel_openItem_11 ?_
  refine lv_aload_n hx hb d_TuneSetterModel_openItem_14 rfl (lv_at hl 0 rfl) ?_
  refine gR_TuneSetterModel_items hx hb hw hown hK hP (hw _ m_TuneSetterModel_90) d_TuneSetterModel_openItem_15 ?_
  refine lv_iconst (v := 0) hx hb d_TuneSetterModel_openItem_18 ic_0 ?_
  obtain ⟨hin, h⟩ := h
  refine sR8 hx hb hK hD hS hP hin d_TuneSetterModel_openItem_19 (fun H locs hP hS => ?_)
  refine lv_aload_n hx hb d_TuneSetterModel_openItem_20 rfl (lv_at hl 0 rfl) ?_
  refine gR_TuneSetterModel_many hx hb hw hown hK hP (hw _ m_TuneSetterModel_48) d_TuneSetterModel_openItem_21 ?_
  refine lv_aload_n hx hb d_TuneSetterModel_openItem_24 rfl (lv_at hl 0 rfl) ?_
  refine gR_TuneSetterModel_items hx hb hw hown hK hP (hw _ m_TuneSetterModel_90) d_TuneSetterModel_openItem_25 ?_
  refine lv_iconst (v := 0) hx hb d_TuneSetterModel_openItem_28 ic_0 ?_
  obtain ⟨hin, h⟩ := h
  refine sR9 hx hb hK hD hS hP hin d_TuneSetterModel_openItem_29 (fun H locs hP hS => ?_)
  refine lv_aload_n hx hb d_TuneSetterModel_openItem_30 rfl (lv_at hl 0 rfl) ?_
  refine lv_dup hx hb d_TuneSetterModel_openItem_31 rfl ?_
  refine gR_TuneSetterModel_items hx hb hw hown hK hP (hw _ m_TuneSetterModel_90) d_TuneSetterModel_openItem_32 ?_
  refine lv_iconst (v := 1) hx hb d_TuneSetterModel_openItem_35 ic_1 ?_
  refine lv_iadd hx hb d_TuneSetterModel_openItem_36 ?_
  refine pR_TuneSetterModel_items hx hb hw hown hK hD hS hP (hw _ m_TuneSetterModel_90) d_TuneSetterModel_openItem_37 (fun H locs hP hS => ?_)
  refine lv_aload_n hx hb d_TuneSetterModel_openItem_40 rfl (lv_at hl 0 rfl) ?_
  refine lv_iconst (v := 0) hx hb d_TuneSetterModel_openItem_41 ic_0 ?_
  refine pR_TuneSetterModel_chord hx hb hw hown hK hD hS hP (hw _ m_TuneSetterModel_140) vz0 d_TuneSetterModel_openItem_42 (fun H locs hP hS => ?_)
  refine lv_aload_n hx hb d_TuneSetterModel_openItem_45 rfl (lv_at hl 0 rfl) ?_
  refine lv_iconst (v := 0) hx hb d_TuneSetterModel_openItem_46 ic_0 ?_
  refine pR_TuneSetterModel_rest hx hb hw hown hK hD hS hP (hw _ m_TuneSetterModel_163) vz0 d_TuneSetterModel_openItem_47 (fun H locs hP hS => ?_)
  refine lv_aload_n hx hb d_TuneSetterModel_openItem_50 rfl (lv_at hl 0 rfl) ?_
  refine lv_iconst (v := 0) hx hb d_TuneSetterModel_openItem_51 ic_0 ?_
  refine pR_TuneSetterModel_signed hx hb hw hown hK hD hS hP (hw _ m_TuneSetterModel_217) vz0 d_TuneSetterModel_openItem_52 (fun H locs hP hS => ?_)
  exact W.vret hx hb hr (fun t ht hW => ⟨⟨((upd (upd (upd (upd I 8 ((I 8) + 1)) 11 0) 12 0) 15 0), (upd2 (upd2 (upd2 A 7 ((I 8).toNatClampNeg) 0) 8 ((I 8).toNatClampNeg) 0) 9 ((I 8).toNatClampNeg) 0)), rfl, h, endR_of ht hP⟩, hS.F ht⟩) hS.2.2 d_TuneSetterModel_openItem_55
theorem k_TuneSetterModel_openItem {p : Program} {l : Launch} {e : Env} {R : Room} {s : State} {m : MethodId} {args : Array Value} {below : List Frame} {meth : Method} {c : Code} {H : Heap} {locs : List Loc} {cells slots : Nat} {Q : State → Prop} {cc : ByteArray} {pc nL idx : Nat} {own : String} {ls : Array Slot} {D : va_G} {cA a : Nat → Nat} {AA : Nat → Prop} {I : Nat → Int32} {A : Nat → Nat → Int32} {post : (Nat → Int32) → (Nat → Nat → Int32) → Prop} {rest : List Value} (S : CallFix p m c cc nL s args WALL own) (hK : KR D cA a AA s) (hD : ∀ I A, va_D AA (wR cA a I A)) (hA : ∀ q : Nat, s.heap.size ≤ q → AA q) (hS : va_S AA s.heap H locs) (hP : va_P D cls (wR cA a I A) H) (hl1 : ls.size = nL) (hlink : (Cond.methodLink own idx y_TuneSetterModel_openItem).before args s = true) (hst : (rest.map fun v => v.category).sum ≤ 8) (hR : ({ frames := 0, cells := 0, slots := 0, locals := 0 } : Room).frames + 1 ≤ R.frames ∧ 8 + (1 + 11) + ({ frames := 0, cells := 0, slots := 0, locals := 0 } : Room).locals ≤ R.locals) (hcs : cells ≤ R.cells ∧ slots ≤ R.slots) (hdg : decode cc pc = .ok (.invokevirtual idx, 3)) (h : wp_TuneSetterModel_openItem I A post) (kk : ∀ (I1 : Nat → Int32) (A1 : Nat → Nat → Int32) (H1 : Heap) (locs1 : List Loc), post I1 A1 → va_P D cls (wR cA a I1 A1) H1 → va_S AA s.heap H1 locs1 → W p l e R s m args below meth c H1 locs1 cells slots Q (F0 m (pc + 3) ls rest)) : W p l e R s m args below meth c H locs cells slots Q (F0 m pc ls (.ref (a 0) :: rest)) :=
  va_callv (va_runV (As := []) (rest := rest) S (c_TuneSetterModel_openItem l D cA a H.size I A post h) ⟨callB_of 0 S.2.2.2.2 g_TuneSetterModel_openItem rfl rfl rfl (S.2.2.2.2 _ mi_TuneSetterModel) hlink ⟨by decide, by decide, by decide +kernel⟩ hR, S.2.2.2.2 _ mn_TuneSetterModel_openItem, S.2.2.2.2 _ ms_TuneSetterModel_openItem⟩ (preRV hK hD hA hS hP 0 rfl rfl) rfl rfl hl1 rfl (lv_room hst) hdg hcs) hS (fun q _ z => AR_le hD hA hS q z) (fun q z => AR_le hD hA hS q z) (fun u t H1 locs1 ht _ hp hB _ _ hS1 => kk u.1 u.2 H1 locs1 hp (of_endR ht hB) hS1)
def wp_TuneSetterModel_openLetter (x1 : Int32) (I : Nat → Int32) (A : Nat → Nat → Int32) (post : (Nat → Int32) → (Nat → Nat → Int32) → Prop) : Prop := (wp_TuneSetterModel_letterOf x1 I A (fun r2 I2 A2 => ((x1 < 97 → post (upd (upd (upd (upd I2 16 r2) 17 0) 18 0) 9 9) A2) ∧ (¬ x1 < 97 → post (upd (upd (upd (upd I2 16 r2) 17 1) 18 0) 9 9) A2))))
theorem d_TuneSetterModel_openLetter_0 : decode b_TuneSetterModel_openLetter 0 = .ok (.aload_n 0, 1) := by decide +kernel
theorem d_TuneSetterModel_openLetter_1 : decode b_TuneSetterModel_openLetter 1 = .ok (.iload_n 1, 1) := by decide +kernel
theorem d_TuneSetterModel_openLetter_2 : decode b_TuneSetterModel_openLetter 2 = .ok (.invokestatic 114, 3) := by decide +kernel
theorem d_TuneSetterModel_openLetter_5 : decode b_TuneSetterModel_openLetter 5 = .ok (.putfield 229, 3) := by decide +kernel
theorem d_TuneSetterModel_openLetter_8 : decode b_TuneSetterModel_openLetter 8 = .ok (.aload_n 0, 1) := by decide +kernel
theorem d_TuneSetterModel_openLetter_9 : decode b_TuneSetterModel_openLetter 9 = .ok (.iload_n 1, 1) := by decide +kernel
theorem d_TuneSetterModel_openLetter_10 : decode b_TuneSetterModel_openLetter 10 = .ok (.bipush 97, 2) := by decide +kernel
theorem d_TuneSetterModel_openLetter_12 : decode b_TuneSetterModel_openLetter 12 = .ok (.if_icmp .lt 7, 3) := by decide +kernel
theorem d_TuneSetterModel_openLetter_15 : decode b_TuneSetterModel_openLetter 15 = .ok (.iconst 1, 1) := by decide +kernel
theorem d_TuneSetterModel_openLetter_16 : decode b_TuneSetterModel_openLetter 16 = .ok (.goto 4, 3) := by decide +kernel
theorem d_TuneSetterModel_openLetter_19 : decode b_TuneSetterModel_openLetter 19 = .ok (.iconst 0, 1) := by decide +kernel
theorem d_TuneSetterModel_openLetter_20 : decode b_TuneSetterModel_openLetter 20 = .ok (.putfield 205, 3) := by decide +kernel
theorem d_TuneSetterModel_openLetter_23 : decode b_TuneSetterModel_openLetter 23 = .ok (.aload_n 0, 1) := by decide +kernel
theorem d_TuneSetterModel_openLetter_24 : decode b_TuneSetterModel_openLetter 24 = .ok (.iconst 0, 1) := by decide +kernel
theorem d_TuneSetterModel_openLetter_25 : decode b_TuneSetterModel_openLetter 25 = .ok (.putfield 122, 3) := by decide +kernel
theorem d_TuneSetterModel_openLetter_28 : decode b_TuneSetterModel_openLetter 28 = .ok (.aload_n 0, 1) := by decide +kernel
theorem d_TuneSetterModel_openLetter_29 : decode b_TuneSetterModel_openLetter 29 = .ok (.bipush 9, 2) := by decide +kernel
theorem d_TuneSetterModel_openLetter_31 : decode b_TuneSetterModel_openLetter 31 = .ok (.putfield 100, 3) := by decide +kernel
theorem d_TuneSetterModel_openLetter_34 : decode b_TuneSetterModel_openLetter 34 = .ok (.return_, 1) := by decide +kernel
def w_TuneSetterModel_openLetter : List Cond := .code y_TuneSetterModel_openLetter b_TuneSetterModel_openLetter 2 none :: WALL
theorem g_TuneSetterModel_openLetter : GoodIn WALL w_TuneSetterModel_openLetter := good_of mc_TuneSetterModel_openLetter
set_option maxHeartbeats 4000000 in
set_option maxRecDepth 100000 in
theorem c_TuneSetterModel_openLetter (l : Launch) (D : va_G) (cA a : Nat → Nat) (sz : Nat) (x1 : Int32) (I : Nat → Int32) (A : Nat → Nat → Int32) (post : (Nat → Int32) → (Nat → Nat → Int32) → Prop) (h : wp_TuneSetterModel_openLetter x1 I A post) : Met l y_TuneSetterModel_openLetter w_TuneSetterModel_openLetter ({ frames := 1, cells := 0, slots := 0, locals := 20 }) (va_Pc [.ref (a 0), .int x1] (PreR D cA a I A sz)) (va_Qv (fun (u : StW) => post u.1 u.2) (EndR D cA a) (AR a sz)) 0 0 (AR a sz) := by
  refine Met.ofW (cc := b_TuneSetterModel_openLetter) (maxL := 2) (ret := none) (by decide) rfl ?_
  intro p e s m args below meth c s₁ B hml hv
  obtain ⟨rfl, hsz, hP, hK, hD0⟩ := hv
  have hx := B.exec
  have hb := B.bytes
  have hr := B.returns
  have hts := atoms_spec (ws := w_TuneSetterModel_openLetter) B.pre
  have hw := wall_of hts
  have hown : s.vm.findClass R_TuneSetterModel = some m.cls := findClass_of_methodNamed B.named
  have hlocks := B.notSynchronized
  subst hsz
  have hD := hDR (sz := s.heap.size) hD0
  have hA : ∀ q : Nat, s.heap.size ≤ q → AR a s.heap.size q := fun q h => Or.inr h
  have hS : va_S (AR a s.heap.size) s.heap s.heap [] := va_S.rf
  have hl := lv_entry ([.ref (a 0), .int x1]) (n := 2) (Nat.le_of_ble_eq_true rfl)
  rw [lg_entry_eq]
  generalize (lg_sl ([.ref (a 0), .int x1]) ++ List.replicate (2 - (lg_sl ([.ref (a 0), .int x1])).length) Slot.unset).toArray = ls at hl ⊢
  have hl : lv_has ls 2 [(0, .ref (a 0)), (1, .int x1)] := hl
  unfold wp_TuneSetterModel_openLetter at h
  refine lv_aload_n hx hb d_TuneSetterModel_openLetter_0 rfl (lv_at hl 0 rfl) ?_
  refine lv_iload_n hx hb d_TuneSetterModel_openLetter_1 rfl (lv_at hl 1 rfl) ?_
  refine k_TuneSetterModel_letterOf x1 (rest := [.ref (a 0)]) ⟨hx, hb, hml, hown, hw⟩ hK hD hA hS hP hl.1 (hw _ m_TuneSetterModel_114) (Nat.le_of_ble_eq_true rfl) ⟨Nat.le_of_ble_eq_true rfl, Nat.le_of_ble_eq_true rfl⟩ ⟨Nat.zero_le _, Nat.zero_le _⟩ d_TuneSetterModel_openLetter_2 h (fun r2 I2 A2 H locs h hP hS => ?_)
  refine pR_TuneSetterModel_letter hx hb hw hown hK hD hS hP (hw _ m_TuneSetterModel_229) d_TuneSetterModel_openLetter_5 (fun H locs hP hS => ?_)
  refine lv_aload_n hx hb d_TuneSetterModel_openLetter_8 rfl (lv_at hl 0 rfl) ?_
  refine lv_iload_n hx hb d_TuneSetterModel_openLetter_9 rfl (lv_at hl 1 rfl) ?_
  refine lv_bipush (v := 97) hx hb d_TuneSetterModel_openLetter_10 bp_97 ?_
  refine lv_icmp_lt (tgt := 19) hx hb d_TuneSetterModel_openLetter_12 rfl (fun q => ?_) (fun q => ?_)
  · have h := h.1 q
    refine lv_iconst (v := 0) hx hb d_TuneSetterModel_openLetter_19 ic_0 ?_
    refine pR_TuneSetterModel_octave hx hb hw hown hK hD hS hP (hw _ m_TuneSetterModel_205) d_TuneSetterModel_openLetter_20 (fun H locs hP hS => ?_)
    refine lv_aload_n hx hb d_TuneSetterModel_openLetter_23 rfl (lv_at hl 0 rfl) ?_
    refine lv_iconst (v := 0) hx hb d_TuneSetterModel_openLetter_24 ic_0 ?_
    refine pR_TuneSetterModel_marks hx hb hw hown hK hD hS hP (hw _ m_TuneSetterModel_122) d_TuneSetterModel_openLetter_25 (fun H locs hP hS => ?_)
    refine lv_aload_n hx hb d_TuneSetterModel_openLetter_28 rfl (lv_at hl 0 rfl) ?_
    refine lv_bipush (v := 9) hx hb d_TuneSetterModel_openLetter_29 bp_9 ?_
    refine pR_TuneSetterModel_state hx hb hw hown hK hD hS hP (hw _ m_TuneSetterModel_100) d_TuneSetterModel_openLetter_31 (fun H locs hP hS => ?_)
    exact W.vret hx hb hr (fun t ht hW => ⟨⟨((upd (upd (upd (upd I2 16 r2) 17 0) 18 0) 9 9), A2), rfl, h, endR_of ht hP⟩, hS.F ht⟩) hS.2.2 d_TuneSetterModel_openLetter_34
  · have h := h.2 q
    refine lv_iconst (v := 1) hx hb d_TuneSetterModel_openLetter_15 ic_1 ?_
    refine lv_goto (tgt := 20) hx hb d_TuneSetterModel_openLetter_16 rfl ?_
    refine pR_TuneSetterModel_octave hx hb hw hown hK hD hS hP (hw _ m_TuneSetterModel_205) d_TuneSetterModel_openLetter_20 (fun H locs hP hS => ?_)
    refine lv_aload_n hx hb d_TuneSetterModel_openLetter_23 rfl (lv_at hl 0 rfl) ?_
    refine lv_iconst (v := 0) hx hb d_TuneSetterModel_openLetter_24 ic_0 ?_
    refine pR_TuneSetterModel_marks hx hb hw hown hK hD hS hP (hw _ m_TuneSetterModel_122) d_TuneSetterModel_openLetter_25 (fun H locs hP hS => ?_)
    refine lv_aload_n hx hb d_TuneSetterModel_openLetter_28 rfl (lv_at hl 0 rfl) ?_
    refine lv_bipush (v := 9) hx hb d_TuneSetterModel_openLetter_29 bp_9 ?_
    refine pR_TuneSetterModel_state hx hb hw hown hK hD hS hP (hw _ m_TuneSetterModel_100) d_TuneSetterModel_openLetter_31 (fun H locs hP hS => ?_)
    exact W.vret hx hb hr (fun t ht hW => ⟨⟨((upd (upd (upd (upd I2 16 r2) 17 1) 18 0) 9 9), A2), rfl, h, endR_of ht hP⟩, hS.F ht⟩) hS.2.2 d_TuneSetterModel_openLetter_34
theorem k_TuneSetterModel_openLetter {p : Program} {l : Launch} {e : Env} {R : Room} {s : State} {m : MethodId} {args : Array Value} {below : List Frame} {meth : Method} {c : Code} {H : Heap} {locs : List Loc} {cells slots : Nat} {Q : State → Prop} {cc : ByteArray} {pc nL idx : Nat} {own : String} {ls : Array Slot} {D : va_G} {cA a : Nat → Nat} {AA : Nat → Prop} {I : Nat → Int32} {A : Nat → Nat → Int32} {post : (Nat → Int32) → (Nat → Nat → Int32) → Prop} (x1 : Int32) {rest : List Value} (S : CallFix p m c cc nL s args WALL own) (hK : KR D cA a AA s) (hD : ∀ I A, va_D AA (wR cA a I A)) (hA : ∀ q : Nat, s.heap.size ≤ q → AA q) (hS : va_S AA s.heap H locs) (hP : va_P D cls (wR cA a I A) H) (hl1 : ls.size = nL) (hlink : (Cond.methodLink own idx y_TuneSetterModel_openLetter).before args s = true) (hst : (rest.map fun v => v.category).sum ≤ 8) (hR : ({ frames := 1, cells := 0, slots := 0, locals := 20 } : Room).frames + 1 ≤ R.frames ∧ 8 + (2 + 11) + ({ frames := 1, cells := 0, slots := 0, locals := 20 } : Room).locals ≤ R.locals) (hcs : cells ≤ R.cells ∧ slots ≤ R.slots) (hdg : decode cc pc = .ok (.invokevirtual idx, 3)) (h : wp_TuneSetterModel_openLetter x1 I A post) (kk : ∀ (I1 : Nat → Int32) (A1 : Nat → Nat → Int32) (H1 : Heap) (locs1 : List Loc), post I1 A1 → va_P D cls (wR cA a I1 A1) H1 → va_S AA s.heap H1 locs1 → W p l e R s m args below meth c H1 locs1 cells slots Q (F0 m (pc + 3) ls rest)) : W p l e R s m args below meth c H locs cells slots Q (F0 m pc ls (.int x1 :: .ref (a 0) :: rest)) :=
  va_callv (va_runV (As := [.int x1]) (rest := rest) S (c_TuneSetterModel_openLetter l D cA a H.size x1 I A post h) ⟨callB_of 1 S.2.2.2.2 g_TuneSetterModel_openLetter rfl rfl rfl (S.2.2.2.2 _ mi_TuneSetterModel) hlink ⟨by decide, by decide, by decide +kernel⟩ hR, S.2.2.2.2 _ mn_TuneSetterModel_openLetter, S.2.2.2.2 _ ms_TuneSetterModel_openLetter⟩ (preRV hK hD hA hS hP 0 rfl rfl) rfl rfl hl1 rfl (lv_room hst) hdg hcs) hS (fun q _ z => AR_le hD hA hS q z) (fun q z => AR_le hD hA hS q z) (fun u t H1 locs1 ht _ hp hB _ _ hS1 => kk u.1 u.2 H1 locs1 hp (of_endR ht hB) hS1)
def wp_TuneSetterModel_beginNote (x1 : Int32) (I : Nat → Int32) (A : Nat → Nat → Int32) (post : Int32 → (Nat → Int32) → (Nat → Nat → Int32) → Prop) : Prop := (wp_TuneSetterModel_letterOf x1 (upd I 15 0) A (fun r6 I6 A6 => ((r6 < 0 → (vp_in ((I6 8) - 1) 48 ∧ (vp_in ((I6 8) - 1) 48 ∧ ((x1 = 94 → post 0 (upd (upd (upd I6 15 1) 14 1) 9 8) (upd2 A6 8 (((I6 8) - 1).toNatClampNeg) ((A6 8 (((I6 8) - 1).toNatClampNeg)) + 1))) ∧ (¬ x1 = 94 → ((x1 = 95 → post 0 (upd (upd (upd I6 15 1) 14 (-1)) 9 8) (upd2 A6 8 (((I6 8) - 1).toNatClampNeg) ((A6 8 (((I6 8) - 1).toNatClampNeg)) + 1))) ∧ (¬ x1 = 95 → post 0 (upd (upd (upd I6 15 1) 14 0) 9 8) (upd2 A6 8 (((I6 8) - 1).toNatClampNeg) ((A6 8 (((I6 8) - 1).toNatClampNeg)) + 1))))))))) ∧ (¬ r6 < 0 → (wp_TuneSetterModel_openLetter x1 I6 A6 (fun I14 A14 => post 0 I14 A14))))))
theorem d_TuneSetterModel_beginNote_0 : decode b_TuneSetterModel_beginNote 0 = .ok (.aload_n 0, 1) := by decide +kernel
theorem d_TuneSetterModel_beginNote_1 : decode b_TuneSetterModel_beginNote 1 = .ok (.iconst 0, 1) := by decide +kernel
theorem d_TuneSetterModel_beginNote_2 : decode b_TuneSetterModel_beginNote 2 = .ok (.putfield 217, 3) := by decide +kernel
theorem d_TuneSetterModel_beginNote_5 : decode b_TuneSetterModel_beginNote 5 = .ok (.iload_n 1, 1) := by decide +kernel
theorem d_TuneSetterModel_beginNote_6 : decode b_TuneSetterModel_beginNote 6 = .ok (.invokestatic 114, 3) := by decide +kernel
theorem d_TuneSetterModel_beginNote_9 : decode b_TuneSetterModel_beginNote 9 = .ok (.ifCond .lt 10, 3) := by decide +kernel
theorem d_TuneSetterModel_beginNote_12 : decode b_TuneSetterModel_beginNote 12 = .ok (.aload_n 0, 1) := by decide +kernel
theorem d_TuneSetterModel_beginNote_13 : decode b_TuneSetterModel_beginNote 13 = .ok (.iload_n 1, 1) := by decide +kernel
theorem d_TuneSetterModel_beginNote_14 : decode b_TuneSetterModel_beginNote 14 = .ok (.invokevirtual 223, 3) := by decide +kernel
theorem d_TuneSetterModel_beginNote_17 : decode b_TuneSetterModel_beginNote 17 = .ok (.iconst 0, 1) := by decide +kernel
theorem d_TuneSetterModel_beginNote_18 : decode b_TuneSetterModel_beginNote 18 = .ok (.ireturn, 1) := by decide +kernel
theorem d_TuneSetterModel_beginNote_19 : decode b_TuneSetterModel_beginNote 19 = .ok (.aload_n 0, 1) := by decide +kernel
theorem d_TuneSetterModel_beginNote_20 : decode b_TuneSetterModel_beginNote 20 = .ok (.iconst 1, 1) := by decide +kernel
theorem d_TuneSetterModel_beginNote_21 : decode b_TuneSetterModel_beginNote 21 = .ok (.putfield 217, 3) := by decide +kernel
theorem d_TuneSetterModel_beginNote_24 : decode b_TuneSetterModel_beginNote 24 = .ok (.aload_n 0, 1) := by decide +kernel
theorem d_TuneSetterModel_beginNote_25 : decode b_TuneSetterModel_beginNote 25 = .ok (.getfield 45, 3) := by decide +kernel
theorem d_TuneSetterModel_beginNote_28 : decode b_TuneSetterModel_beginNote 28 = .ok (.aload_n 0, 1) := by decide +kernel
theorem d_TuneSetterModel_beginNote_29 : decode b_TuneSetterModel_beginNote 29 = .ok (.getfield 90, 3) := by decide +kernel
theorem d_TuneSetterModel_beginNote_32 : decode b_TuneSetterModel_beginNote 32 = .ok (.iconst 1, 1) := by decide +kernel
theorem d_TuneSetterModel_beginNote_33 : decode b_TuneSetterModel_beginNote 33 = .ok (.isub, 1) := by decide +kernel
theorem d_TuneSetterModel_beginNote_34 : decode b_TuneSetterModel_beginNote 34 = .ok (.dup2, 1) := by decide +kernel
theorem d_TuneSetterModel_beginNote_35 : decode b_TuneSetterModel_beginNote 35 = .ok (.iaload, 1) := by decide +kernel
theorem d_TuneSetterModel_beginNote_36 : decode b_TuneSetterModel_beginNote 36 = .ok (.iconst 1, 1) := by decide +kernel
theorem d_TuneSetterModel_beginNote_37 : decode b_TuneSetterModel_beginNote 37 = .ok (.iadd, 1) := by decide +kernel
theorem d_TuneSetterModel_beginNote_38 : decode b_TuneSetterModel_beginNote 38 = .ok (.iastore, 1) := by decide +kernel
theorem d_TuneSetterModel_beginNote_39 : decode b_TuneSetterModel_beginNote 39 = .ok (.aload_n 0, 1) := by decide +kernel
theorem d_TuneSetterModel_beginNote_40 : decode b_TuneSetterModel_beginNote 40 = .ok (.iload_n 1, 1) := by decide +kernel
theorem d_TuneSetterModel_beginNote_41 : decode b_TuneSetterModel_beginNote 41 = .ok (.bipush 94, 2) := by decide +kernel
theorem d_TuneSetterModel_beginNote_43 : decode b_TuneSetterModel_beginNote 43 = .ok (.if_icmp .ne 7, 3) := by decide +kernel
theorem d_TuneSetterModel_beginNote_46 : decode b_TuneSetterModel_beginNote 46 = .ok (.iconst 1, 1) := by decide +kernel
theorem d_TuneSetterModel_beginNote_47 : decode b_TuneSetterModel_beginNote 47 = .ok (.goto 14, 3) := by decide +kernel
theorem d_TuneSetterModel_beginNote_50 : decode b_TuneSetterModel_beginNote 50 = .ok (.iload_n 1, 1) := by decide +kernel
theorem d_TuneSetterModel_beginNote_51 : decode b_TuneSetterModel_beginNote 51 = .ok (.bipush 95, 2) := by decide +kernel
theorem d_TuneSetterModel_beginNote_53 : decode b_TuneSetterModel_beginNote 53 = .ok (.if_icmp .ne 7, 3) := by decide +kernel
theorem d_TuneSetterModel_beginNote_56 : decode b_TuneSetterModel_beginNote 56 = .ok (.iconst (-1), 1) := by decide +kernel
theorem d_TuneSetterModel_beginNote_57 : decode b_TuneSetterModel_beginNote 57 = .ok (.goto 4, 3) := by decide +kernel
theorem d_TuneSetterModel_beginNote_60 : decode b_TuneSetterModel_beginNote 60 = .ok (.iconst 0, 1) := by decide +kernel
theorem d_TuneSetterModel_beginNote_61 : decode b_TuneSetterModel_beginNote 61 = .ok (.putfield 226, 3) := by decide +kernel
theorem d_TuneSetterModel_beginNote_64 : decode b_TuneSetterModel_beginNote 64 = .ok (.aload_n 0, 1) := by decide +kernel
theorem d_TuneSetterModel_beginNote_65 : decode b_TuneSetterModel_beginNote 65 = .ok (.bipush 8, 2) := by decide +kernel
theorem d_TuneSetterModel_beginNote_67 : decode b_TuneSetterModel_beginNote 67 = .ok (.putfield 100, 3) := by decide +kernel
theorem d_TuneSetterModel_beginNote_70 : decode b_TuneSetterModel_beginNote 70 = .ok (.iconst 0, 1) := by decide +kernel
theorem d_TuneSetterModel_beginNote_71 : decode b_TuneSetterModel_beginNote 71 = .ok (.ireturn, 1) := by decide +kernel
def w_TuneSetterModel_beginNote : List Cond := .code y_TuneSetterModel_beginNote b_TuneSetterModel_beginNote 2 (some .int) :: WALL
theorem g_TuneSetterModel_beginNote : GoodIn WALL w_TuneSetterModel_beginNote := good_of mc_TuneSetterModel_beginNote
set_option maxHeartbeats 4000000 in
set_option maxRecDepth 100000 in
theorem c_TuneSetterModel_beginNote (l : Launch) (D : va_G) (cA a : Nat → Nat) (sz : Nat) (x1 : Int32) (I : Nat → Int32) (A : Nat → Nat → Int32) (post : Int32 → (Nat → Int32) → (Nat → Nat → Int32) → Prop) (h : wp_TuneSetterModel_beginNote x1 I A post) : Met l y_TuneSetterModel_beginNote w_TuneSetterModel_beginNote ({ frames := 2, cells := 0, slots := 0, locals := 41 }) (va_Pc [.ref (a 0), .int x1] (PreR D cA a I A sz)) (va_Qi (fun r (u : StW) => post r u.1 u.2) (EndR D cA a) (AR a sz)) 0 0 (AR a sz) := by
  refine Met.ofW (cc := b_TuneSetterModel_beginNote) (maxL := 2) (ret := (some .int)) (by decide) rfl ?_
  intro p e s m args below meth c s₁ B hml hv
  obtain ⟨rfl, hsz, hP, hK, hD0⟩ := hv
  have hx := B.exec
  have hb := B.bytes
  have hr := B.returns
  have hts := atoms_spec (ws := w_TuneSetterModel_beginNote) B.pre
  have hw := wall_of hts
  have hown : s.vm.findClass R_TuneSetterModel = some m.cls := findClass_of_methodNamed B.named
  have hlocks := B.notSynchronized
  subst hsz
  have hD := hDR (sz := s.heap.size) hD0
  have hA : ∀ q : Nat, s.heap.size ≤ q → AR a s.heap.size q := fun q h => Or.inr h
  have hS : va_S (AR a s.heap.size) s.heap s.heap [] := va_S.rf
  have hl := lv_entry ([.ref (a 0), .int x1]) (n := 2) (Nat.le_of_ble_eq_true rfl)
  rw [lg_entry_eq]
  generalize (lg_sl ([.ref (a 0), .int x1]) ++ List.replicate (2 - (lg_sl ([.ref (a 0), .int x1])).length) Slot.unset).toArray = ls at hl ⊢
  have hl : lv_has ls 2 [(0, .ref (a 0)), (1, .int x1)] := hl
  unfold wp_TuneSetterModel_beginNote at h
  refine lv_aload_n hx hb d_TuneSetterModel_beginNote_0 rfl (lv_at hl 0 rfl) ?_
  refine lv_iconst (v := 0) hx hb d_TuneSetterModel_beginNote_1 ic_0 ?_
  refine pR_TuneSetterModel_signed hx hb hw hown hK hD hS hP (hw _ m_TuneSetterModel_217) vz0 d_TuneSetterModel_beginNote_2 (fun H locs hP hS => ?_)
  refine lv_iload_n hx hb d_TuneSetterModel_beginNote_5 rfl (lv_at hl 1 rfl) ?_
  refine k_TuneSetterModel_letterOf x1 (rest := []) ⟨hx, hb, hml, hown, hw⟩ hK hD hA hS hP hl.1 (hw _ m_TuneSetterModel_114) (Nat.le_of_ble_eq_true rfl) ⟨Nat.le_of_ble_eq_true rfl, Nat.le_of_ble_eq_true rfl⟩ ⟨Nat.zero_le _, Nat.zero_le _⟩ d_TuneSetterModel_beginNote_6 h (fun r6 I6 A6 H locs h hP hS => ?_)
  refine lv_if_lt (tgt := 19) hx hb d_TuneSetterModel_beginNote_9 rfl (fun q => ?_) (fun q => ?_)
  · have h := h.1 q
    refine lv_aload_n hx hb d_TuneSetterModel_beginNote_19 rfl (lv_at hl 0 rfl) ?_
    refine lv_iconst (v := 1) hx hb d_TuneSetterModel_beginNote_20 ic_1 ?_
    refine pR_TuneSetterModel_signed hx hb hw hown hK hD hS hP (hw _ m_TuneSetterModel_217) vz1 d_TuneSetterModel_beginNote_21 (fun H locs hP hS => ?_)
    refine lv_aload_n hx hb d_TuneSetterModel_beginNote_24 rfl (lv_at hl 0 rfl) ?_
    refine gR_TuneSetterModel_signs hx hb hw hown hK hP (hw _ m_TuneSetterModel_45) d_TuneSetterModel_beginNote_25 ?_
    refine lv_aload_n hx hb d_TuneSetterModel_beginNote_28 rfl (lv_at hl 0 rfl) ?_
    refine gR_TuneSetterModel_items hx hb hw hown hK hP (hw _ m_TuneSetterModel_90) d_TuneSetterModel_beginNote_29 ?_
    refine lv_iconst (v := 1) hx hb d_TuneSetterModel_beginNote_32 ic_1 ?_
    refine lv_isub hx hb d_TuneSetterModel_beginNote_33 ?_
    refine lv_dup2_11 hx hb d_TuneSetterModel_beginNote_34 rfl rfl ?_
    obtain ⟨hin, h⟩ := h
    refine lR8 hx hb hK hP hin d_TuneSetterModel_beginNote_35 ?_
    refine lv_iconst (v := 1) hx hb d_TuneSetterModel_beginNote_36 ic_1 ?_
    refine lv_iadd hx hb d_TuneSetterModel_beginNote_37 ?_
    obtain ⟨hin, h⟩ := h
    refine sR8 hx hb hK hD hS hP hin d_TuneSetterModel_beginNote_38 (fun H locs hP hS => ?_)
    refine lv_aload_n hx hb d_TuneSetterModel_beginNote_39 rfl (lv_at hl 0 rfl) ?_
    refine lv_iload_n hx hb d_TuneSetterModel_beginNote_40 rfl (lv_at hl 1 rfl) ?_
    refine lv_bipush (v := 94) hx hb d_TuneSetterModel_beginNote_41 bp_94 ?_
    refine lv_icmp_ne (tgt := 50) hx hb d_TuneSetterModel_beginNote_43 rfl (fun q => ?_) (fun q => ?_)
    · have h := h.2 q
      refine lv_iload_n hx hb d_TuneSetterModel_beginNote_50 rfl (lv_at hl 1 rfl) ?_
      refine lv_bipush (v := 95) hx hb d_TuneSetterModel_beginNote_51 bp_95 ?_
      refine lv_icmp_ne (tgt := 60) hx hb d_TuneSetterModel_beginNote_53 rfl (fun q => ?_) (fun q => ?_)
      · have h := h.2 q
        refine lv_iconst (v := 0) hx hb d_TuneSetterModel_beginNote_60 ic_0 ?_
        refine pR_TuneSetterModel_sign hx hb hw hown hK hD hS hP (hw _ m_TuneSetterModel_226) d_TuneSetterModel_beginNote_61 (fun H locs hP hS => ?_)
        refine lv_aload_n hx hb d_TuneSetterModel_beginNote_64 rfl (lv_at hl 0 rfl) ?_
        refine lv_bipush (v := 8) hx hb d_TuneSetterModel_beginNote_65 bp_8 ?_
        refine pR_TuneSetterModel_state hx hb hw hown hK hD hS hP (hw _ m_TuneSetterModel_100) d_TuneSetterModel_beginNote_67 (fun H locs hP hS => ?_)
        refine lv_iconst (v := 0) hx hb d_TuneSetterModel_beginNote_70 ic_0 ?_
        exact W.iret hx hb hr (fun t ht hW => ⟨⟨_, ((upd (upd (upd I6 15 1) 14 0) 9 8), (upd2 A6 8 (((I6 8) - 1).toNatClampNeg) ((A6 8 (((I6 8) - 1).toNatClampNeg)) + 1))), rfl, h, endR_of ht hP⟩, hS.F ht⟩) hS.2.2 d_TuneSetterModel_beginNote_71
      · have h := h.1 q
        refine lv_iconst (v := (-1)) hx hb d_TuneSetterModel_beginNote_56 ic_m1 ?_
        refine lv_goto (tgt := 61) hx hb d_TuneSetterModel_beginNote_57 rfl ?_
        refine pR_TuneSetterModel_sign hx hb hw hown hK hD hS hP (hw _ m_TuneSetterModel_226) d_TuneSetterModel_beginNote_61 (fun H locs hP hS => ?_)
        refine lv_aload_n hx hb d_TuneSetterModel_beginNote_64 rfl (lv_at hl 0 rfl) ?_
        refine lv_bipush (v := 8) hx hb d_TuneSetterModel_beginNote_65 bp_8 ?_
        refine pR_TuneSetterModel_state hx hb hw hown hK hD hS hP (hw _ m_TuneSetterModel_100) d_TuneSetterModel_beginNote_67 (fun H locs hP hS => ?_)
        refine lv_iconst (v := 0) hx hb d_TuneSetterModel_beginNote_70 ic_0 ?_
        exact W.iret hx hb hr (fun t ht hW => ⟨⟨_, ((upd (upd (upd I6 15 1) 14 (-1)) 9 8), (upd2 A6 8 (((I6 8) - 1).toNatClampNeg) ((A6 8 (((I6 8) - 1).toNatClampNeg)) + 1))), rfl, h, endR_of ht hP⟩, hS.F ht⟩) hS.2.2 d_TuneSetterModel_beginNote_71
    · have h := h.1 q
      refine lv_iconst (v := 1) hx hb d_TuneSetterModel_beginNote_46 ic_1 ?_
      refine lv_goto (tgt := 61) hx hb d_TuneSetterModel_beginNote_47 rfl ?_
      refine pR_TuneSetterModel_sign hx hb hw hown hK hD hS hP (hw _ m_TuneSetterModel_226) d_TuneSetterModel_beginNote_61 (fun H locs hP hS => ?_)
      refine lv_aload_n hx hb d_TuneSetterModel_beginNote_64 rfl (lv_at hl 0 rfl) ?_
      refine lv_bipush (v := 8) hx hb d_TuneSetterModel_beginNote_65 bp_8 ?_
      refine pR_TuneSetterModel_state hx hb hw hown hK hD hS hP (hw _ m_TuneSetterModel_100) d_TuneSetterModel_beginNote_67 (fun H locs hP hS => ?_)
      refine lv_iconst (v := 0) hx hb d_TuneSetterModel_beginNote_70 ic_0 ?_
      exact W.iret hx hb hr (fun t ht hW => ⟨⟨_, ((upd (upd (upd I6 15 1) 14 1) 9 8), (upd2 A6 8 (((I6 8) - 1).toNatClampNeg) ((A6 8 (((I6 8) - 1).toNatClampNeg)) + 1))), rfl, h, endR_of ht hP⟩, hS.F ht⟩) hS.2.2 d_TuneSetterModel_beginNote_71
  · have h := h.2 q
    refine lv_aload_n hx hb d_TuneSetterModel_beginNote_12 rfl (lv_at hl 0 rfl) ?_
    refine lv_iload_n hx hb d_TuneSetterModel_beginNote_13 rfl (lv_at hl 1 rfl) ?_
    refine k_TuneSetterModel_openLetter x1 (rest := []) ⟨hx, hb, hml, hown, hw⟩ hK hD hA hS hP hl.1 (hw _ m_TuneSetterModel_223) (Nat.le_of_ble_eq_true rfl) ⟨Nat.le_of_ble_eq_true rfl, Nat.le_of_ble_eq_true rfl⟩ ⟨Nat.zero_le _, Nat.zero_le _⟩ d_TuneSetterModel_beginNote_14 h (fun I14 A14 H locs h hP hS => ?_)
    refine lv_iconst (v := 0) hx hb d_TuneSetterModel_beginNote_17 ic_0 ?_
    exact W.iret hx hb hr (fun t ht hW => ⟨⟨_, (I14, A14), rfl, h, endR_of ht hP⟩, hS.F ht⟩) hS.2.2 d_TuneSetterModel_beginNote_18
theorem k_TuneSetterModel_beginNote {p : Program} {l : Launch} {e : Env} {R : Room} {s : State} {m : MethodId} {args : Array Value} {below : List Frame} {meth : Method} {c : Code} {H : Heap} {locs : List Loc} {cells slots : Nat} {Q : State → Prop} {cc : ByteArray} {pc nL idx : Nat} {own : String} {ls : Array Slot} {D : va_G} {cA a : Nat → Nat} {AA : Nat → Prop} {I : Nat → Int32} {A : Nat → Nat → Int32} {post : Int32 → (Nat → Int32) → (Nat → Nat → Int32) → Prop} (x1 : Int32) {rest : List Value} (S : CallFix p m c cc nL s args WALL own) (hK : KR D cA a AA s) (hD : ∀ I A, va_D AA (wR cA a I A)) (hA : ∀ q : Nat, s.heap.size ≤ q → AA q) (hS : va_S AA s.heap H locs) (hP : va_P D cls (wR cA a I A) H) (hl1 : ls.size = nL) (hlink : (Cond.methodLink own idx y_TuneSetterModel_beginNote).before args s = true) (hst : (rest.map fun v => v.category).sum ≤ 8) (hR : ({ frames := 2, cells := 0, slots := 0, locals := 41 } : Room).frames + 1 ≤ R.frames ∧ 8 + (2 + 11) + ({ frames := 2, cells := 0, slots := 0, locals := 41 } : Room).locals ≤ R.locals) (hcs : cells ≤ R.cells ∧ slots ≤ R.slots) (hdg : decode cc pc = .ok (.invokevirtual idx, 3)) (h : wp_TuneSetterModel_beginNote x1 I A post) (kk : ∀ (r : Int32) (I1 : Nat → Int32) (A1 : Nat → Nat → Int32) (H1 : Heap) (locs1 : List Loc), post r I1 A1 → va_P D cls (wR cA a I1 A1) H1 → va_S AA s.heap H1 locs1 → W p l e R s m args below meth c H1 locs1 cells slots Q (F0 m (pc + 3) ls (.int r :: rest))) : W p l e R s m args below meth c H locs cells slots Q (F0 m pc ls (.int x1 :: .ref (a 0) :: rest)) :=
  va_calli (va_runV (As := [.int x1]) (rest := rest) S (c_TuneSetterModel_beginNote l D cA a H.size x1 I A post h) ⟨callB_of 1 S.2.2.2.2 g_TuneSetterModel_beginNote rfl rfl rfl (S.2.2.2.2 _ mi_TuneSetterModel) hlink ⟨by decide, by decide, by decide +kernel⟩ hR, S.2.2.2.2 _ mn_TuneSetterModel_beginNote, S.2.2.2.2 _ ms_TuneSetterModel_beginNote⟩ (preRV hK hD hA hS hP 0 rfl rfl) rfl rfl hl1 rfl (lv_room hst) hdg hcs) hS (fun q _ z => AR_le hD hA hS q z) (fun q z => AR_le hD hA hS q z) (fun r u t H1 locs1 ht _ hp hB _ _ hS1 => kk r u.1 u.2 H1 locs1 hp (of_endR ht hB) hS1)
def wp_TuneSetterModel_core (x1 : Int32) (I : Nat → Int32) (A : Nat → Nat → Int32) (post : Int32 → (Nat → Int32) → (Nat → Nat → Int32) → Prop) : Prop := ((x1 = 91 → post 0 (upd (upd I 11 1) 9 10) A) ∧ (¬ x1 = 91 → ((x1 = 122 → (wp_TuneSetterModel_openNumber (upd I 12 1) A (fun I31 A31 => post 0 I31 A31))) ∧ (¬ x1 = 122 → (wp_TuneSetterModel_beginsNote x1 I A (fun r37 I37 A37 => ((r37 = 0 → post (-2) I37 A37) ∧ (¬ r37 = 0 → (wp_TuneSetterModel_beginNote x1 I37 A37 (fun r45 I45 A45 => post r45 I45 A45))))))))))
theorem d_TuneSetterModel_core_0 : decode b_TuneSetterModel_core 0 = .ok (.iload_n 1, 1) := by decide +kernel
theorem d_TuneSetterModel_core_1 : decode b_TuneSetterModel_core 1 = .ok (.bipush 91, 2) := by decide +kernel
theorem d_TuneSetterModel_core_3 : decode b_TuneSetterModel_core 3 = .ok (.if_icmp .ne 16, 3) := by decide +kernel
theorem d_TuneSetterModel_core_6 : decode b_TuneSetterModel_core 6 = .ok (.aload_n 0, 1) := by decide +kernel
theorem d_TuneSetterModel_core_7 : decode b_TuneSetterModel_core 7 = .ok (.iconst 1, 1) := by decide +kernel
theorem d_TuneSetterModel_core_8 : decode b_TuneSetterModel_core 8 = .ok (.putfield 140, 3) := by decide +kernel
theorem d_TuneSetterModel_core_11 : decode b_TuneSetterModel_core 11 = .ok (.aload_n 0, 1) := by decide +kernel
theorem d_TuneSetterModel_core_12 : decode b_TuneSetterModel_core 12 = .ok (.bipush 10, 2) := by decide +kernel
theorem d_TuneSetterModel_core_14 : decode b_TuneSetterModel_core 14 = .ok (.putfield 100, 3) := by decide +kernel
theorem d_TuneSetterModel_core_17 : decode b_TuneSetterModel_core 17 = .ok (.iconst 0, 1) := by decide +kernel
theorem d_TuneSetterModel_core_18 : decode b_TuneSetterModel_core 18 = .ok (.ireturn, 1) := by decide +kernel
theorem d_TuneSetterModel_core_19 : decode b_TuneSetterModel_core 19 = .ok (.iload_n 1, 1) := by decide +kernel
theorem d_TuneSetterModel_core_20 : decode b_TuneSetterModel_core 20 = .ok (.bipush 122, 2) := by decide +kernel
theorem d_TuneSetterModel_core_22 : decode b_TuneSetterModel_core 22 = .ok (.if_icmp .ne 14, 3) := by decide +kernel
theorem d_TuneSetterModel_core_25 : decode b_TuneSetterModel_core 25 = .ok (.aload_n 0, 1) := by decide +kernel
theorem d_TuneSetterModel_core_26 : decode b_TuneSetterModel_core 26 = .ok (.iconst 1, 1) := by decide +kernel
theorem d_TuneSetterModel_core_27 : decode b_TuneSetterModel_core 27 = .ok (.putfield 163, 3) := by decide +kernel
theorem d_TuneSetterModel_core_30 : decode b_TuneSetterModel_core 30 = .ok (.aload_n 0, 1) := by decide +kernel
theorem d_TuneSetterModel_core_31 : decode b_TuneSetterModel_core 31 = .ok (.invokevirtual 143, 3) := by decide +kernel
theorem d_TuneSetterModel_core_34 : decode b_TuneSetterModel_core 34 = .ok (.iconst 0, 1) := by decide +kernel
theorem d_TuneSetterModel_core_35 : decode b_TuneSetterModel_core 35 = .ok (.ireturn, 1) := by decide +kernel
theorem d_TuneSetterModel_core_36 : decode b_TuneSetterModel_core 36 = .ok (.iload_n 1, 1) := by decide +kernel
theorem d_TuneSetterModel_core_37 : decode b_TuneSetterModel_core 37 = .ok (.invokestatic 118, 3) := by decide +kernel
theorem d_TuneSetterModel_core_40 : decode b_TuneSetterModel_core 40 = .ok (.ifCond .eq 11, 3) := by decide +kernel
theorem d_TuneSetterModel_core_43 : decode b_TuneSetterModel_core 43 = .ok (.aload_n 0, 1) := by decide +kernel
theorem d_TuneSetterModel_core_44 : decode b_TuneSetterModel_core 44 = .ok (.iload_n 1, 1) := by decide +kernel
theorem d_TuneSetterModel_core_45 : decode b_TuneSetterModel_core 45 = .ok (.invokevirtual 220, 3) := by decide +kernel
theorem d_TuneSetterModel_core_48 : decode b_TuneSetterModel_core 48 = .ok (.goto 5, 3) := by decide +kernel
theorem d_TuneSetterModel_core_51 : decode b_TuneSetterModel_core 51 = .ok (.bipush (-2), 2) := by decide +kernel
theorem d_TuneSetterModel_core_53 : decode b_TuneSetterModel_core 53 = .ok (.ireturn, 1) := by decide +kernel
def w_TuneSetterModel_core : List Cond := .code y_TuneSetterModel_core b_TuneSetterModel_core 2 (some .int) :: WALL
theorem g_TuneSetterModel_core : GoodIn WALL w_TuneSetterModel_core := good_of mc_TuneSetterModel_core
set_option maxHeartbeats 4000000 in
set_option maxRecDepth 100000 in
theorem c_TuneSetterModel_core (l : Launch) (D : va_G) (cA a : Nat → Nat) (sz : Nat) (x1 : Int32) (I : Nat → Int32) (A : Nat → Nat → Int32) (post : Int32 → (Nat → Int32) → (Nat → Nat → Int32) → Prop) (h : wp_TuneSetterModel_core x1 I A post) : Met l y_TuneSetterModel_core w_TuneSetterModel_core ({ frames := 3, cells := 0, slots := 0, locals := 62 }) (va_Pc [.ref (a 0), .int x1] (PreR D cA a I A sz)) (va_Qi (fun r (u : StW) => post r u.1 u.2) (EndR D cA a) (AR a sz)) 0 0 (AR a sz) := by
  refine Met.ofW (cc := b_TuneSetterModel_core) (maxL := 2) (ret := (some .int)) (by decide) rfl ?_
  intro p e s m args below meth c s₁ B hml hv
  obtain ⟨rfl, hsz, hP, hK, hD0⟩ := hv
  have hx := B.exec
  have hb := B.bytes
  have hr := B.returns
  have hts := atoms_spec (ws := w_TuneSetterModel_core) B.pre
  have hw := wall_of hts
  have hown : s.vm.findClass R_TuneSetterModel = some m.cls := findClass_of_methodNamed B.named
  have hlocks := B.notSynchronized
  subst hsz
  have hD := hDR (sz := s.heap.size) hD0
  have hA : ∀ q : Nat, s.heap.size ≤ q → AR a s.heap.size q := fun q h => Or.inr h
  have hS : va_S (AR a s.heap.size) s.heap s.heap [] := va_S.rf
  have hl := lv_entry ([.ref (a 0), .int x1]) (n := 2) (Nat.le_of_ble_eq_true rfl)
  rw [lg_entry_eq]
  generalize (lg_sl ([.ref (a 0), .int x1]) ++ List.replicate (2 - (lg_sl ([.ref (a 0), .int x1])).length) Slot.unset).toArray = ls at hl ⊢
  have hl : lv_has ls 2 [(0, .ref (a 0)), (1, .int x1)] := hl
  unfold wp_TuneSetterModel_core at h
  refine lv_iload_n hx hb d_TuneSetterModel_core_0 rfl (lv_at hl 1 rfl) ?_
  refine lv_bipush (v := 91) hx hb d_TuneSetterModel_core_1 bp_91 ?_
  refine lv_icmp_ne (tgt := 19) hx hb d_TuneSetterModel_core_3 rfl (fun q => ?_) (fun q => ?_)
  · have h := h.2 q
    refine lv_iload_n hx hb d_TuneSetterModel_core_19 rfl (lv_at hl 1 rfl) ?_
    refine lv_bipush (v := 122) hx hb d_TuneSetterModel_core_20 bp_122 ?_
    refine lv_icmp_ne (tgt := 36) hx hb d_TuneSetterModel_core_22 rfl (fun q => ?_) (fun q => ?_)
    · have h := h.2 q
      refine lv_iload_n hx hb d_TuneSetterModel_core_36 rfl (lv_at hl 1 rfl) ?_
      refine k_TuneSetterModel_beginsNote x1 (rest := []) ⟨hx, hb, hml, hown, hw⟩ hK hD hA hS hP hl.1 (hw _ m_TuneSetterModel_118) (Nat.le_of_ble_eq_true rfl) ⟨Nat.le_of_ble_eq_true rfl, Nat.le_of_ble_eq_true rfl⟩ ⟨Nat.zero_le _, Nat.zero_le _⟩ d_TuneSetterModel_core_37 h (fun r37 I37 A37 H locs h hP hS => ?_)
      refine lv_if_eq (tgt := 51) hx hb d_TuneSetterModel_core_40 rfl (fun q => ?_) (fun q => ?_)
      · have h := h.1 q
        refine lv_bipush (v := (-2)) hx hb d_TuneSetterModel_core_51 bp_m2 ?_
        exact W.iret hx hb hr (fun t ht hW => ⟨⟨_, (I37, A37), rfl, h, endR_of ht hP⟩, hS.F ht⟩) hS.2.2 d_TuneSetterModel_core_53
      · have h := h.2 q
        refine lv_aload_n hx hb d_TuneSetterModel_core_43 rfl (lv_at hl 0 rfl) ?_
        refine lv_iload_n hx hb d_TuneSetterModel_core_44 rfl (lv_at hl 1 rfl) ?_
        refine k_TuneSetterModel_beginNote x1 (rest := []) ⟨hx, hb, hml, hown, hw⟩ hK hD hA hS hP hl.1 (hw _ m_TuneSetterModel_220) (Nat.le_of_ble_eq_true rfl) ⟨Nat.le_of_ble_eq_true rfl, Nat.le_of_ble_eq_true rfl⟩ ⟨Nat.zero_le _, Nat.zero_le _⟩ d_TuneSetterModel_core_45 h (fun r45 I45 A45 H locs h hP hS => ?_)
        refine lv_goto (tgt := 53) hx hb d_TuneSetterModel_core_48 rfl ?_
        exact W.iret hx hb hr (fun t ht hW => ⟨⟨_, (I45, A45), rfl, h, endR_of ht hP⟩, hS.F ht⟩) hS.2.2 d_TuneSetterModel_core_53
    · have h := h.1 q
      refine lv_aload_n hx hb d_TuneSetterModel_core_25 rfl (lv_at hl 0 rfl) ?_
      refine lv_iconst (v := 1) hx hb d_TuneSetterModel_core_26 ic_1 ?_
      refine pR_TuneSetterModel_rest hx hb hw hown hK hD hS hP (hw _ m_TuneSetterModel_163) vz1 d_TuneSetterModel_core_27 (fun H locs hP hS => ?_)
      refine lv_aload_n hx hb d_TuneSetterModel_core_30 rfl (lv_at hl 0 rfl) ?_
      refine k_TuneSetterModel_openNumber (rest := []) ⟨hx, hb, hml, hown, hw⟩ hK hD hA hS hP hl.1 (hw _ m_TuneSetterModel_143) (Nat.le_of_ble_eq_true rfl) ⟨Nat.le_of_ble_eq_true rfl, Nat.le_of_ble_eq_true rfl⟩ ⟨Nat.zero_le _, Nat.zero_le _⟩ d_TuneSetterModel_core_31 h (fun I31 A31 H locs h hP hS => ?_)
      refine lv_iconst (v := 0) hx hb d_TuneSetterModel_core_34 ic_0 ?_
      exact W.iret hx hb hr (fun t ht hW => ⟨⟨_, (I31, A31), rfl, h, endR_of ht hP⟩, hS.F ht⟩) hS.2.2 d_TuneSetterModel_core_35
  · have h := h.1 q
    refine lv_aload_n hx hb d_TuneSetterModel_core_6 rfl (lv_at hl 0 rfl) ?_
    refine lv_iconst (v := 1) hx hb d_TuneSetterModel_core_7 ic_1 ?_
    refine pR_TuneSetterModel_chord hx hb hw hown hK hD hS hP (hw _ m_TuneSetterModel_140) vz1 d_TuneSetterModel_core_8 (fun H locs hP hS => ?_)
    refine lv_aload_n hx hb d_TuneSetterModel_core_11 rfl (lv_at hl 0 rfl) ?_
    refine lv_bipush (v := 10) hx hb d_TuneSetterModel_core_12 bp_10 ?_
    refine pR_TuneSetterModel_state hx hb hw hown hK hD hS hP (hw _ m_TuneSetterModel_100) d_TuneSetterModel_core_14 (fun H locs hP hS => ?_)
    refine lv_iconst (v := 0) hx hb d_TuneSetterModel_core_17 ic_0 ?_
    exact W.iret hx hb hr (fun t ht hW => ⟨⟨_, ((upd (upd I 11 1) 9 10), A), rfl, h, endR_of ht hP⟩, hS.F ht⟩) hS.2.2 d_TuneSetterModel_core_18
theorem k_TuneSetterModel_core {p : Program} {l : Launch} {e : Env} {R : Room} {s : State} {m : MethodId} {args : Array Value} {below : List Frame} {meth : Method} {c : Code} {H : Heap} {locs : List Loc} {cells slots : Nat} {Q : State → Prop} {cc : ByteArray} {pc nL idx : Nat} {own : String} {ls : Array Slot} {D : va_G} {cA a : Nat → Nat} {AA : Nat → Prop} {I : Nat → Int32} {A : Nat → Nat → Int32} {post : Int32 → (Nat → Int32) → (Nat → Nat → Int32) → Prop} (x1 : Int32) {rest : List Value} (S : CallFix p m c cc nL s args WALL own) (hK : KR D cA a AA s) (hD : ∀ I A, va_D AA (wR cA a I A)) (hA : ∀ q : Nat, s.heap.size ≤ q → AA q) (hS : va_S AA s.heap H locs) (hP : va_P D cls (wR cA a I A) H) (hl1 : ls.size = nL) (hlink : (Cond.methodLink own idx y_TuneSetterModel_core).before args s = true) (hst : (rest.map fun v => v.category).sum ≤ 8) (hR : ({ frames := 3, cells := 0, slots := 0, locals := 62 } : Room).frames + 1 ≤ R.frames ∧ 8 + (2 + 11) + ({ frames := 3, cells := 0, slots := 0, locals := 62 } : Room).locals ≤ R.locals) (hcs : cells ≤ R.cells ∧ slots ≤ R.slots) (hdg : decode cc pc = .ok (.invokevirtual idx, 3)) (h : wp_TuneSetterModel_core x1 I A post) (kk : ∀ (r : Int32) (I1 : Nat → Int32) (A1 : Nat → Nat → Int32) (H1 : Heap) (locs1 : List Loc), post r I1 A1 → va_P D cls (wR cA a I1 A1) H1 → va_S AA s.heap H1 locs1 → W p l e R s m args below meth c H1 locs1 cells slots Q (F0 m (pc + 3) ls (.int r :: rest))) : W p l e R s m args below meth c H locs cells slots Q (F0 m pc ls (.int x1 :: .ref (a 0) :: rest)) :=
  va_calli (va_runV (As := [.int x1]) (rest := rest) S (c_TuneSetterModel_core l D cA a H.size x1 I A post h) ⟨callB_of 1 S.2.2.2.2 g_TuneSetterModel_core rfl rfl rfl (S.2.2.2.2 _ mi_TuneSetterModel) hlink ⟨by decide, by decide, by decide +kernel⟩ hR, S.2.2.2.2 _ mn_TuneSetterModel_core, S.2.2.2.2 _ ms_TuneSetterModel_core⟩ (preRV hK hD hA hS hP 0 rfl rfl) rfl rfl hl1 rfl (lv_room hst) hdg hcs) hS (fun q _ z => AR_le hD hA hS q z) (fun q z => AR_le hD hA hS q z) (fun r u t H1 locs1 ht _ hp hB _ _ hS1 => kk r u.1 u.2 H1 locs1 hp (of_endR ht hB) hS1)
def wp_TuneSetterModel_beginItem_23 (post : Int32 → (Nat → Int32) → (Nat → Nat → Int32) → Prop) (y1 : Int32) (I : Nat → Int32) (A : Nat → Nat → Int32) : Prop := (((I 8) = 48 → post (-6) I A) ∧ (¬ (I 8) = 48 → (wp_TuneSetterModel_openItem I A (fun I36 A36 => ((y1 = 40 → post 0 (upd (upd I36 13 3) 9 6) A36) ∧ (¬ y1 = 40 → (wp_TuneSetterModel_core y1 I36 A36 (fun r60 I60 A60 => post r60 I60 A60))))))))
def wp_TuneSetterModel_beginItem (x1 : Int32) (I : Nat → Int32) (A : Nat → Nat → Int32) (post : Int32 → (Nat → Int32) → (Nat → Nat → Int32) → Prop) : Prop := (wp_TuneSetterModel_beginsItem x1 I A (fun r1 I1 A1 => ((r1 = 0 → post (-2) I1 A1) ∧ (¬ r1 = 0 → ((x1 = 40 → (((I1 13) ≤ 0 → wp_TuneSetterModel_beginItem_23 post x1 I1 A1) ∧ (¬ (I1 13) ≤ 0 → post (-2) I1 A1))) ∧ (¬ x1 = 40 → wp_TuneSetterModel_beginItem_23 post x1 I1 A1))))))
theorem d_TuneSetterModel_beginItem_0 : decode b_TuneSetterModel_beginItem 0 = .ok (.iload_n 1, 1) := by decide +kernel
theorem d_TuneSetterModel_beginItem_1 : decode b_TuneSetterModel_beginItem 1 = .ok (.invokestatic 211, 3) := by decide +kernel
theorem d_TuneSetterModel_beginItem_4 : decode b_TuneSetterModel_beginItem 4 = .ok (.ifCond .eq 16, 3) := by decide +kernel
theorem d_TuneSetterModel_beginItem_7 : decode b_TuneSetterModel_beginItem 7 = .ok (.iload_n 1, 1) := by decide +kernel
theorem d_TuneSetterModel_beginItem_8 : decode b_TuneSetterModel_beginItem 8 = .ok (.bipush 40, 2) := by decide +kernel
theorem d_TuneSetterModel_beginItem_10 : decode b_TuneSetterModel_beginItem 10 = .ok (.if_icmp .ne 13, 3) := by decide +kernel
theorem d_TuneSetterModel_beginItem_13 : decode b_TuneSetterModel_beginItem 13 = .ok (.aload_n 0, 1) := by decide +kernel
theorem d_TuneSetterModel_beginItem_14 : decode b_TuneSetterModel_beginItem 14 = .ok (.getfield 103, 3) := by decide +kernel
theorem d_TuneSetterModel_beginItem_17 : decode b_TuneSetterModel_beginItem 17 = .ok (.ifCond .le 6, 3) := by decide +kernel
theorem d_TuneSetterModel_beginItem_20 : decode b_TuneSetterModel_beginItem 20 = .ok (.bipush (-2), 2) := by decide +kernel
theorem d_TuneSetterModel_beginItem_22 : decode b_TuneSetterModel_beginItem 22 = .ok (.ireturn, 1) := by decide +kernel
theorem d_TuneSetterModel_beginItem_23 : decode b_TuneSetterModel_beginItem 23 = .ok (.aload_n 0, 1) := by decide +kernel
theorem d_TuneSetterModel_beginItem_24 : decode b_TuneSetterModel_beginItem 24 = .ok (.getfield 90, 3) := by decide +kernel
theorem d_TuneSetterModel_beginItem_27 : decode b_TuneSetterModel_beginItem 27 = .ok (.bipush 48, 2) := by decide +kernel
theorem d_TuneSetterModel_beginItem_29 : decode b_TuneSetterModel_beginItem 29 = .ok (.if_icmp .ne 6, 3) := by decide +kernel
theorem d_TuneSetterModel_beginItem_32 : decode b_TuneSetterModel_beginItem 32 = .ok (.bipush (-6), 2) := by decide +kernel
theorem d_TuneSetterModel_beginItem_34 : decode b_TuneSetterModel_beginItem 34 = .ok (.ireturn, 1) := by decide +kernel
theorem d_TuneSetterModel_beginItem_35 : decode b_TuneSetterModel_beginItem 35 = .ok (.aload_n 0, 1) := by decide +kernel
theorem d_TuneSetterModel_beginItem_36 : decode b_TuneSetterModel_beginItem 36 = .ok (.invokevirtual 190, 3) := by decide +kernel
theorem d_TuneSetterModel_beginItem_39 : decode b_TuneSetterModel_beginItem 39 = .ok (.iload_n 1, 1) := by decide +kernel
theorem d_TuneSetterModel_beginItem_40 : decode b_TuneSetterModel_beginItem 40 = .ok (.bipush 40, 2) := by decide +kernel
theorem d_TuneSetterModel_beginItem_42 : decode b_TuneSetterModel_beginItem 42 = .ok (.if_icmp .ne 16, 3) := by decide +kernel
theorem d_TuneSetterModel_beginItem_45 : decode b_TuneSetterModel_beginItem 45 = .ok (.aload_n 0, 1) := by decide +kernel
theorem d_TuneSetterModel_beginItem_46 : decode b_TuneSetterModel_beginItem 46 = .ok (.iconst 3, 1) := by decide +kernel
theorem d_TuneSetterModel_beginItem_47 : decode b_TuneSetterModel_beginItem 47 = .ok (.putfield 103, 3) := by decide +kernel
theorem d_TuneSetterModel_beginItem_50 : decode b_TuneSetterModel_beginItem 50 = .ok (.aload_n 0, 1) := by decide +kernel
theorem d_TuneSetterModel_beginItem_51 : decode b_TuneSetterModel_beginItem 51 = .ok (.bipush 6, 2) := by decide +kernel
theorem d_TuneSetterModel_beginItem_53 : decode b_TuneSetterModel_beginItem 53 = .ok (.putfield 100, 3) := by decide +kernel
theorem d_TuneSetterModel_beginItem_56 : decode b_TuneSetterModel_beginItem 56 = .ok (.iconst 0, 1) := by decide +kernel
theorem d_TuneSetterModel_beginItem_57 : decode b_TuneSetterModel_beginItem 57 = .ok (.ireturn, 1) := by decide +kernel
theorem d_TuneSetterModel_beginItem_58 : decode b_TuneSetterModel_beginItem 58 = .ok (.aload_n 0, 1) := by decide +kernel
theorem d_TuneSetterModel_beginItem_59 : decode b_TuneSetterModel_beginItem 59 = .ok (.iload_n 1, 1) := by decide +kernel
theorem d_TuneSetterModel_beginItem_60 : decode b_TuneSetterModel_beginItem 60 = .ok (.invokevirtual 199, 3) := by decide +kernel
theorem d_TuneSetterModel_beginItem_63 : decode b_TuneSetterModel_beginItem 63 = .ok (.ireturn, 1) := by decide +kernel
def w_TuneSetterModel_beginItem : List Cond := .code y_TuneSetterModel_beginItem b_TuneSetterModel_beginItem 2 (some .int) :: WALL
theorem g_TuneSetterModel_beginItem : GoodIn WALL w_TuneSetterModel_beginItem := good_of mc_TuneSetterModel_beginItem
set_option maxHeartbeats 4000000 in
set_option maxRecDepth 100000 in
theorem c_TuneSetterModel_beginItem (l : Launch) (D : va_G) (cA a : Nat → Nat) (sz : Nat) (x1 : Int32) (I : Nat → Int32) (A : Nat → Nat → Int32) (post : Int32 → (Nat → Int32) → (Nat → Nat → Int32) → Prop) (h : wp_TuneSetterModel_beginItem x1 I A post) : Met l y_TuneSetterModel_beginItem w_TuneSetterModel_beginItem ({ frames := 4, cells := 0, slots := 0, locals := 83 }) (va_Pc [.ref (a 0), .int x1] (PreR D cA a I A sz)) (va_Qi (fun r (u : StW) => post r u.1 u.2) (EndR D cA a) (AR a sz)) 0 0 (AR a sz) := by
  refine Met.ofW (cc := b_TuneSetterModel_beginItem) (maxL := 2) (ret := (some .int)) (by decide) rfl ?_
  intro p e s m args below meth c s₁ B hml hv
  obtain ⟨rfl, hsz, hP, hK, hD0⟩ := hv
  have hx := B.exec
  have hb := B.bytes
  have hr := B.returns
  have hts := atoms_spec (ws := w_TuneSetterModel_beginItem) B.pre
  have hw := wall_of hts
  have hown : s.vm.findClass R_TuneSetterModel = some m.cls := findClass_of_methodNamed B.named
  have hlocks := B.notSynchronized
  subst hsz
  have hD := hDR (sz := s.heap.size) hD0
  have hA : ∀ q : Nat, s.heap.size ≤ q → AR a s.heap.size q := fun q h => Or.inr h
  have hS : va_S (AR a s.heap.size) s.heap s.heap [] := va_S.rf
  have j23 : ∀ (y1 : Int32) (I : Nat → Int32) (A : Nat → Nat → Int32) (H : Heap) (locs : List Loc) (ls : Array Slot), wp_TuneSetterModel_beginItem_23 post y1 I A → va_P D cls (wR cA a I A) H → va_S (AR a s.heap.size) s.heap H locs → lv_has ls 2 [(0, .ref (a 0)), (1, .int y1)] → W p l e (headSpec w_TuneSetterModel_beginItem ({ frames := 4, cells := 0, slots := 0, locals := 83 })).room s m [.ref (a 0), .int x1].toArray below meth c H locs 0 0 (MQ below (va_Qi (fun r (u : StW) => post r u.1 u.2) (EndR D cA a) (AR a s.heap.size)) [.ref (a 0), .int x1].toArray s 0 0 (AR a s.heap.size)) (F0 m 23 ls []) := by
    intro y1 I A H locs ls h hP hS hl
    unfold wp_TuneSetterModel_beginItem_23 at h
    refine lv_aload_n hx hb d_TuneSetterModel_beginItem_23 rfl (lv_at hl 0 rfl) ?_
    refine gR_TuneSetterModel_items hx hb hw hown hK hP (hw _ m_TuneSetterModel_90) d_TuneSetterModel_beginItem_24 ?_
    refine lv_bipush (v := 48) hx hb d_TuneSetterModel_beginItem_27 bp_48 ?_
    refine lv_icmp_ne (tgt := 35) hx hb d_TuneSetterModel_beginItem_29 rfl (fun q => ?_) (fun q => ?_)
    · have h := h.2 q
      refine lv_aload_n hx hb d_TuneSetterModel_beginItem_35 rfl (lv_at hl 0 rfl) ?_
      refine k_TuneSetterModel_openItem (rest := []) ⟨hx, hb, hml, hown, hw⟩ hK hD hA hS hP hl.1 (hw _ m_TuneSetterModel_190) (Nat.le_of_ble_eq_true rfl) ⟨Nat.le_of_ble_eq_true rfl, Nat.le_of_ble_eq_true rfl⟩ ⟨Nat.zero_le _, Nat.zero_le _⟩ d_TuneSetterModel_beginItem_36 h (fun I36 A36 H locs h hP hS => ?_)
      refine lv_iload_n hx hb d_TuneSetterModel_beginItem_39 rfl (lv_at hl 1 rfl) ?_
      refine lv_bipush (v := 40) hx hb d_TuneSetterModel_beginItem_40 bp_40 ?_
      refine lv_icmp_ne (tgt := 58) hx hb d_TuneSetterModel_beginItem_42 rfl (fun q => ?_) (fun q => ?_)
      · have h := h.2 q
        refine lv_aload_n hx hb d_TuneSetterModel_beginItem_58 rfl (lv_at hl 0 rfl) ?_
        refine lv_iload_n hx hb d_TuneSetterModel_beginItem_59 rfl (lv_at hl 1 rfl) ?_
        refine k_TuneSetterModel_core y1 (rest := []) ⟨hx, hb, hml, hown, hw⟩ hK hD hA hS hP hl.1 (hw _ m_TuneSetterModel_199) (Nat.le_of_ble_eq_true rfl) ⟨Nat.le_of_ble_eq_true rfl, Nat.le_of_ble_eq_true rfl⟩ ⟨Nat.zero_le _, Nat.zero_le _⟩ d_TuneSetterModel_beginItem_60 h (fun r60 I60 A60 H locs h hP hS => ?_)
        exact W.iret hx hb hr (fun t ht hW => ⟨⟨_, (I60, A60), rfl, h, endR_of ht hP⟩, hS.F ht⟩) hS.2.2 d_TuneSetterModel_beginItem_63
      · have h := h.1 q
        refine lv_aload_n hx hb d_TuneSetterModel_beginItem_45 rfl (lv_at hl 0 rfl) ?_
        refine lv_iconst (v := 3) hx hb d_TuneSetterModel_beginItem_46 ic_3 ?_
        refine pR_TuneSetterModel_triplet hx hb hw hown hK hD hS hP (hw _ m_TuneSetterModel_103) d_TuneSetterModel_beginItem_47 (fun H locs hP hS => ?_)
        refine lv_aload_n hx hb d_TuneSetterModel_beginItem_50 rfl (lv_at hl 0 rfl) ?_
        refine lv_bipush (v := 6) hx hb d_TuneSetterModel_beginItem_51 bp_6 ?_
        refine pR_TuneSetterModel_state hx hb hw hown hK hD hS hP (hw _ m_TuneSetterModel_100) d_TuneSetterModel_beginItem_53 (fun H locs hP hS => ?_)
        refine lv_iconst (v := 0) hx hb d_TuneSetterModel_beginItem_56 ic_0 ?_
        exact W.iret hx hb hr (fun t ht hW => ⟨⟨_, ((upd (upd I36 13 3) 9 6), A36), rfl, h, endR_of ht hP⟩, hS.F ht⟩) hS.2.2 d_TuneSetterModel_beginItem_57
    · have h := h.1 q
      refine lv_bipush (v := (-6)) hx hb d_TuneSetterModel_beginItem_32 bp_m6 ?_
      exact W.iret hx hb hr (fun t ht hW => ⟨⟨_, (I, A), rfl, h, endR_of ht hP⟩, hS.F ht⟩) hS.2.2 d_TuneSetterModel_beginItem_34
  have hl := lv_entry ([.ref (a 0), .int x1]) (n := 2) (Nat.le_of_ble_eq_true rfl)
  rw [lg_entry_eq]
  generalize (lg_sl ([.ref (a 0), .int x1]) ++ List.replicate (2 - (lg_sl ([.ref (a 0), .int x1])).length) Slot.unset).toArray = ls at hl ⊢
  have hl : lv_has ls 2 [(0, .ref (a 0)), (1, .int x1)] := hl
  unfold wp_TuneSetterModel_beginItem at h
  refine lv_iload_n hx hb d_TuneSetterModel_beginItem_0 rfl (lv_at hl 1 rfl) ?_
  refine k_TuneSetterModel_beginsItem x1 (rest := []) ⟨hx, hb, hml, hown, hw⟩ hK hD hA hS hP hl.1 (hw _ m_TuneSetterModel_211) (Nat.le_of_ble_eq_true rfl) ⟨Nat.le_of_ble_eq_true rfl, Nat.le_of_ble_eq_true rfl⟩ ⟨Nat.zero_le _, Nat.zero_le _⟩ d_TuneSetterModel_beginItem_1 h (fun r1 I1 A1 H locs h hP hS => ?_)
  refine lv_if_eq (tgt := 20) hx hb d_TuneSetterModel_beginItem_4 rfl (fun q => ?_) (fun q => ?_)
  · have h := h.1 q
    refine lv_bipush (v := (-2)) hx hb d_TuneSetterModel_beginItem_20 bp_m2 ?_
    exact W.iret hx hb hr (fun t ht hW => ⟨⟨_, (I1, A1), rfl, h, endR_of ht hP⟩, hS.F ht⟩) hS.2.2 d_TuneSetterModel_beginItem_22
  · have h := h.2 q
    refine lv_iload_n hx hb d_TuneSetterModel_beginItem_7 rfl (lv_at hl 1 rfl) ?_
    refine lv_bipush (v := 40) hx hb d_TuneSetterModel_beginItem_8 bp_40 ?_
    refine lv_icmp_ne (tgt := 23) hx hb d_TuneSetterModel_beginItem_10 rfl (fun q => ?_) (fun q => ?_)
    · have h := h.2 q
      exact j23 x1 I1 A1 _ _ _ h hP hS (lv_sub hl [0, 1] rfl)
    · have h := h.1 q
      refine lv_aload_n hx hb d_TuneSetterModel_beginItem_13 rfl (lv_at hl 0 rfl) ?_
      refine gR_TuneSetterModel_triplet hx hb hw hown hK hP (hw _ m_TuneSetterModel_103) d_TuneSetterModel_beginItem_14 ?_
      refine lv_if_le (tgt := 23) hx hb d_TuneSetterModel_beginItem_17 rfl (fun q => ?_) (fun q => ?_)
      · have h := h.1 q
        exact j23 x1 I1 A1 _ _ _ h hP hS (lv_sub hl [0, 1] rfl)
      · have h := h.2 q
        refine lv_bipush (v := (-2)) hx hb d_TuneSetterModel_beginItem_20 bp_m2 ?_
        exact W.iret hx hb hr (fun t ht hW => ⟨⟨_, (I1, A1), rfl, h, endR_of ht hP⟩, hS.F ht⟩) hS.2.2 d_TuneSetterModel_beginItem_22
theorem k_TuneSetterModel_beginItem {p : Program} {l : Launch} {e : Env} {R : Room} {s : State} {m : MethodId} {args : Array Value} {below : List Frame} {meth : Method} {c : Code} {H : Heap} {locs : List Loc} {cells slots : Nat} {Q : State → Prop} {cc : ByteArray} {pc nL idx : Nat} {own : String} {ls : Array Slot} {D : va_G} {cA a : Nat → Nat} {AA : Nat → Prop} {I : Nat → Int32} {A : Nat → Nat → Int32} {post : Int32 → (Nat → Int32) → (Nat → Nat → Int32) → Prop} (x1 : Int32) {rest : List Value} (S : CallFix p m c cc nL s args WALL own) (hK : KR D cA a AA s) (hD : ∀ I A, va_D AA (wR cA a I A)) (hA : ∀ q : Nat, s.heap.size ≤ q → AA q) (hS : va_S AA s.heap H locs) (hP : va_P D cls (wR cA a I A) H) (hl1 : ls.size = nL) (hlink : (Cond.methodLink own idx y_TuneSetterModel_beginItem).before args s = true) (hst : (rest.map fun v => v.category).sum ≤ 8) (hR : ({ frames := 4, cells := 0, slots := 0, locals := 83 } : Room).frames + 1 ≤ R.frames ∧ 8 + (2 + 11) + ({ frames := 4, cells := 0, slots := 0, locals := 83 } : Room).locals ≤ R.locals) (hcs : cells ≤ R.cells ∧ slots ≤ R.slots) (hdg : decode cc pc = .ok (.invokevirtual idx, 3)) (h : wp_TuneSetterModel_beginItem x1 I A post) (kk : ∀ (r : Int32) (I1 : Nat → Int32) (A1 : Nat → Nat → Int32) (H1 : Heap) (locs1 : List Loc), post r I1 A1 → va_P D cls (wR cA a I1 A1) H1 → va_S AA s.heap H1 locs1 → W p l e R s m args below meth c H1 locs1 cells slots Q (F0 m (pc + 3) ls (.int r :: rest))) : W p l e R s m args below meth c H locs cells slots Q (F0 m pc ls (.int x1 :: .ref (a 0) :: rest)) :=
  va_calli (va_runV (As := [.int x1]) (rest := rest) S (c_TuneSetterModel_beginItem l D cA a H.size x1 I A post h) ⟨callB_of 1 S.2.2.2.2 g_TuneSetterModel_beginItem rfl rfl rfl (S.2.2.2.2 _ mi_TuneSetterModel) hlink ⟨by decide, by decide, by decide +kernel⟩ hR, S.2.2.2.2 _ mn_TuneSetterModel_beginItem, S.2.2.2.2 _ ms_TuneSetterModel_beginItem⟩ (preRV hK hD hA hS hP 0 rfl rfl) rfl rfl hl1 rfl (lv_room hst) hdg hcs) hS (fun q _ z => AR_le hD hA hS q z) (fun q z => AR_le hD hA hS q z) (fun r u t H1 locs1 ht _ hp hB _ _ hS1 => kk r u.1 u.2 H1 locs1 hp (of_endR ht hB) hS1)
def wp_TuneSetterModel_beginBar_186 (post : Int32 → (Nat → Int32) → (Nat → Nat → Int32) → Prop) : Nat → Int32 → Int32 → (Nat → Int32) → (Nat → Nat → Int32) → Prop
  | 0, _, _, _, _ => False
  | n + 1, y1, y4, I, A => ((112 ≤ y4 → ((y1 = 91 → post 0 (upd I 9 4) A) ∧ (¬ y1 = 91 → (wp_TuneSetterModel_beginItem y1 I A (fun r223 I223 A223 => post r223 I223 A223))))) ∧ (¬ 112 ≤ y4 → (vp_in y4 112 ∧ (∀ v202 : Int32, v202 = y4 + 1 → wp_TuneSetterModel_beginBar_186 post n y1 v202 I (upd2 A 11 (y4.toNatClampNeg) 9)))))
def wp_TuneSetterModel_beginBar_123 (post : Int32 → (Nat → Int32) → (Nat → Nat → Int32) → Prop) (y1 : Int32) (I : Nat → Int32) (A : Nat → Nat → Int32) : Prop := (vp_in (I 5) 9 ∧ (vp_in (I 5) 8 ∧ (vp_in (I 5) 8 ∧ (vp_in ((I 5) + 1) 9 ∧ (∃ n186, wp_TuneSetterModel_beginBar_186 post n186 y1 0 (upd (upd I 5 ((I 5) + 1)) 13 0) (upd2 (upd2 (upd2 (upd2 A 2 ((I 5).toNatClampNeg) (I 8)) 3 ((I 5).toNatClampNeg) 0) 4 ((I 5).toNatClampNeg) 0) 5 (((I 5) + 1).toNatClampNeg) 0))))))
def wp_TuneSetterModel_beginBar_105 (post : Int32 → (Nat → Int32) → (Nat → Nat → Int32) → Prop) (y1 : Int32) (I : Nat → Int32) (A : Nat → Nat → Int32) : Prop := (((0 : Int32) = 0 → (((I 8) = 48 → post (-6) I A) ∧ (¬ (I 8) = 48 → wp_TuneSetterModel_beginBar_123 post y1 I A))) ∧ (¬ (0 : Int32) = 0 → wp_TuneSetterModel_beginBar_123 post y1 I A))
def wp_TuneSetterModel_beginBar_47 (post : Int32 → (Nat → Int32) → (Nat → Nat → Int32) → Prop) (y1 : Int32) (y2 : Int32) (I : Nat → Int32) (A : Nat → Nat → Int32) : Prop := (((I 5) = 8 → post (-6) I A) ∧ (¬ (I 5) = 8 → ((y1 = 91 → (((I 4) ≤ (y2 + 1) → wp_TuneSetterModel_beginBar_105 post y1 I A) ∧ (¬ (I 4) ≤ (y2 + 1) → (vp_in (y2 + 1) 121 ∧ (((A 1 ((y2 + 1).toNatClampNeg)) = 49 → (((1 : Int32) = 0 → (((I 8) = 48 → post (-6) I A) ∧ (¬ (I 8) = 48 → wp_TuneSetterModel_beginBar_123 post y1 I A))) ∧ (¬ (1 : Int32) = 0 → wp_TuneSetterModel_beginBar_123 post y1 I A))) ∧ (¬ (A 1 ((y2 + 1).toNatClampNeg)) = 49 → (vp_in (y2 + 1) 121 ∧ (((A 1 ((y2 + 1).toNatClampNeg)) = 50 → (((1 : Int32) = 0 → (((I 8) = 48 → post (-6) I A) ∧ (¬ (I 8) = 48 → wp_TuneSetterModel_beginBar_123 post y1 I A))) ∧ (¬ (1 : Int32) = 0 → wp_TuneSetterModel_beginBar_123 post y1 I A))) ∧ (¬ (A 1 ((y2 + 1).toNatClampNeg)) = 50 → wp_TuneSetterModel_beginBar_105 post y1 I A))))))))) ∧ (¬ y1 = 91 → wp_TuneSetterModel_beginBar_105 post y1 I A))))
def wp_TuneSetterModel_beginBar (x1 : Int32) (x2 : Int32) (I : Nat → Int32) (A : Nat → Nat → Int32) (post : Int32 → (Nat → Int32) → (Nat → Nat → Int32) → Prop) : Prop := (wp_TuneSetterModel_beginsItem x1 I A (fun r1 I1 A1 => ((r1 = 0 → post (-2) I1 A1) ∧ (¬ r1 = 0 → (((I1 5) ≤ 1 → wp_TuneSetterModel_beginBar_47 post x1 x2 I1 A1) ∧ (¬ (I1 5) ≤ 1 → (vp_in ((I1 5) - 1) 8 ∧ (wp_TuneSetterModel_full I1 A1 (fun r30 I30 A30 => ((r30 ≤ (A1 4 (((I1 5) - 1).toNatClampNeg)) → wp_TuneSetterModel_beginBar_47 post x1 x2 I30 A30) ∧ (¬ r30 ≤ (A1 4 (((I1 5) - 1).toNatClampNeg)) → post (-5) (upd I30 7 (I30 10)) A30)))))))))))
theorem d_TuneSetterModel_beginBar_0 : decode b_TuneSetterModel_beginBar 0 = .ok (.iload_n 1, 1) := by decide +kernel
theorem d_TuneSetterModel_beginBar_1 : decode b_TuneSetterModel_beginBar 1 = .ok (.invokestatic 211, 3) := by decide +kernel
theorem d_TuneSetterModel_beginBar_4 : decode b_TuneSetterModel_beginBar 4 = .ok (.ifCond .ne 6, 3) := by decide +kernel
theorem d_TuneSetterModel_beginBar_7 : decode b_TuneSetterModel_beginBar 7 = .ok (.bipush (-2), 2) := by decide +kernel
theorem d_TuneSetterModel_beginBar_9 : decode b_TuneSetterModel_beginBar 9 = .ok (.ireturn, 1) := by decide +kernel
theorem d_TuneSetterModel_beginBar_10 : decode b_TuneSetterModel_beginBar 10 = .ok (.aload_n 0, 1) := by decide +kernel
theorem d_TuneSetterModel_beginBar_11 : decode b_TuneSetterModel_beginBar 11 = .ok (.getfield 87, 3) := by decide +kernel
theorem d_TuneSetterModel_beginBar_14 : decode b_TuneSetterModel_beginBar 14 = .ok (.iconst 1, 1) := by decide +kernel
theorem d_TuneSetterModel_beginBar_15 : decode b_TuneSetterModel_beginBar 15 = .ok (.if_icmp .le 32, 3) := by decide +kernel
theorem d_TuneSetterModel_beginBar_18 : decode b_TuneSetterModel_beginBar 18 = .ok (.aload_n 0, 1) := by decide +kernel
theorem d_TuneSetterModel_beginBar_19 : decode b_TuneSetterModel_beginBar 19 = .ok (.getfield 32, 3) := by decide +kernel
theorem d_TuneSetterModel_beginBar_22 : decode b_TuneSetterModel_beginBar 22 = .ok (.aload_n 0, 1) := by decide +kernel
theorem d_TuneSetterModel_beginBar_23 : decode b_TuneSetterModel_beginBar 23 = .ok (.getfield 87, 3) := by decide +kernel
theorem d_TuneSetterModel_beginBar_26 : decode b_TuneSetterModel_beginBar 26 = .ok (.iconst 1, 1) := by decide +kernel
theorem d_TuneSetterModel_beginBar_27 : decode b_TuneSetterModel_beginBar 27 = .ok (.isub, 1) := by decide +kernel
theorem d_TuneSetterModel_beginBar_28 : decode b_TuneSetterModel_beginBar 28 = .ok (.iaload, 1) := by decide +kernel
theorem d_TuneSetterModel_beginBar_29 : decode b_TuneSetterModel_beginBar 29 = .ok (.aload_n 0, 1) := by decide +kernel
theorem d_TuneSetterModel_beginBar_30 : decode b_TuneSetterModel_beginBar 30 = .ok (.invokevirtual 214, 3) := by decide +kernel
theorem d_TuneSetterModel_beginBar_33 : decode b_TuneSetterModel_beginBar 33 = .ok (.if_icmp .ge 14, 3) := by decide +kernel
theorem d_TuneSetterModel_beginBar_36 : decode b_TuneSetterModel_beginBar 36 = .ok (.aload_n 0, 1) := by decide +kernel
theorem d_TuneSetterModel_beginBar_37 : decode b_TuneSetterModel_beginBar 37 = .ok (.aload_n 0, 1) := by decide +kernel
theorem d_TuneSetterModel_beginBar_38 : decode b_TuneSetterModel_beginBar 38 = .ok (.getfield 208, 3) := by decide +kernel
theorem d_TuneSetterModel_beginBar_41 : decode b_TuneSetterModel_beginBar 41 = .ok (.putfield 23, 3) := by decide +kernel
theorem d_TuneSetterModel_beginBar_44 : decode b_TuneSetterModel_beginBar 44 = .ok (.bipush (-5), 2) := by decide +kernel
theorem d_TuneSetterModel_beginBar_46 : decode b_TuneSetterModel_beginBar 46 = .ok (.ireturn, 1) := by decide +kernel
theorem d_TuneSetterModel_beginBar_47 : decode b_TuneSetterModel_beginBar 47 = .ok (.aload_n 0, 1) := by decide +kernel
theorem d_TuneSetterModel_beginBar_48 : decode b_TuneSetterModel_beginBar 48 = .ok (.getfield 87, 3) := by decide +kernel
theorem d_TuneSetterModel_beginBar_51 : decode b_TuneSetterModel_beginBar 51 = .ok (.bipush 8, 2) := by decide +kernel
theorem d_TuneSetterModel_beginBar_53 : decode b_TuneSetterModel_beginBar 53 = .ok (.if_icmp .ne 6, 3) := by decide +kernel
theorem d_TuneSetterModel_beginBar_56 : decode b_TuneSetterModel_beginBar 56 = .ok (.bipush (-6), 2) := by decide +kernel
theorem d_TuneSetterModel_beginBar_58 : decode b_TuneSetterModel_beginBar 58 = .ok (.ireturn, 1) := by decide +kernel
theorem d_TuneSetterModel_beginBar_59 : decode b_TuneSetterModel_beginBar 59 = .ok (.iload_n 1, 1) := by decide +kernel
theorem d_TuneSetterModel_beginBar_60 : decode b_TuneSetterModel_beginBar 60 = .ok (.bipush 91, 2) := by decide +kernel
theorem d_TuneSetterModel_beginBar_62 : decode b_TuneSetterModel_beginBar 62 = .ok (.if_icmp .ne 43, 3) := by decide +kernel
theorem d_TuneSetterModel_beginBar_65 : decode b_TuneSetterModel_beginBar 65 = .ok (.iload_n 2, 1) := by decide +kernel
theorem d_TuneSetterModel_beginBar_66 : decode b_TuneSetterModel_beginBar 66 = .ok (.iconst 1, 1) := by decide +kernel
theorem d_TuneSetterModel_beginBar_67 : decode b_TuneSetterModel_beginBar 67 = .ok (.iadd, 1) := by decide +kernel
theorem d_TuneSetterModel_beginBar_68 : decode b_TuneSetterModel_beginBar 68 = .ok (.aload_n 0, 1) := by decide +kernel
theorem d_TuneSetterModel_beginBar_69 : decode b_TuneSetterModel_beginBar 69 = .ok (.getfield 84, 3) := by decide +kernel
theorem d_TuneSetterModel_beginBar_72 : decode b_TuneSetterModel_beginBar 72 = .ok (.if_icmp .ge 33, 3) := by decide +kernel
theorem d_TuneSetterModel_beginBar_75 : decode b_TuneSetterModel_beginBar 75 = .ok (.aload_n 0, 1) := by decide +kernel
theorem d_TuneSetterModel_beginBar_76 : decode b_TuneSetterModel_beginBar 76 = .ok (.getfield 19, 3) := by decide +kernel
theorem d_TuneSetterModel_beginBar_79 : decode b_TuneSetterModel_beginBar 79 = .ok (.iload_n 2, 1) := by decide +kernel
theorem d_TuneSetterModel_beginBar_80 : decode b_TuneSetterModel_beginBar 80 = .ok (.iconst 1, 1) := by decide +kernel
theorem d_TuneSetterModel_beginBar_81 : decode b_TuneSetterModel_beginBar 81 = .ok (.iadd, 1) := by decide +kernel
theorem d_TuneSetterModel_beginBar_82 : decode b_TuneSetterModel_beginBar 82 = .ok (.iaload, 1) := by decide +kernel
theorem d_TuneSetterModel_beginBar_83 : decode b_TuneSetterModel_beginBar 83 = .ok (.bipush 49, 2) := by decide +kernel
theorem d_TuneSetterModel_beginBar_85 : decode b_TuneSetterModel_beginBar 85 = .ok (.if_icmp .eq 16, 3) := by decide +kernel
theorem d_TuneSetterModel_beginBar_88 : decode b_TuneSetterModel_beginBar 88 = .ok (.aload_n 0, 1) := by decide +kernel
theorem d_TuneSetterModel_beginBar_89 : decode b_TuneSetterModel_beginBar 89 = .ok (.getfield 19, 3) := by decide +kernel
theorem d_TuneSetterModel_beginBar_92 : decode b_TuneSetterModel_beginBar 92 = .ok (.iload_n 2, 1) := by decide +kernel
theorem d_TuneSetterModel_beginBar_93 : decode b_TuneSetterModel_beginBar 93 = .ok (.iconst 1, 1) := by decide +kernel
theorem d_TuneSetterModel_beginBar_94 : decode b_TuneSetterModel_beginBar 94 = .ok (.iadd, 1) := by decide +kernel
theorem d_TuneSetterModel_beginBar_95 : decode b_TuneSetterModel_beginBar 95 = .ok (.iaload, 1) := by decide +kernel
theorem d_TuneSetterModel_beginBar_96 : decode b_TuneSetterModel_beginBar 96 = .ok (.bipush 50, 2) := by decide +kernel
theorem d_TuneSetterModel_beginBar_98 : decode b_TuneSetterModel_beginBar 98 = .ok (.if_icmp .ne 7, 3) := by decide +kernel
theorem d_TuneSetterModel_beginBar_101 : decode b_TuneSetterModel_beginBar 101 = .ok (.iconst 1, 1) := by decide +kernel
theorem d_TuneSetterModel_beginBar_102 : decode b_TuneSetterModel_beginBar 102 = .ok (.goto 4, 3) := by decide +kernel
theorem d_TuneSetterModel_beginBar_105 : decode b_TuneSetterModel_beginBar 105 = .ok (.iconst 0, 1) := by decide +kernel
theorem d_TuneSetterModel_beginBar_106 : decode b_TuneSetterModel_beginBar 106 = .ok (.istore_n 3, 1) := by decide +kernel
theorem d_TuneSetterModel_beginBar_107 : decode b_TuneSetterModel_beginBar 107 = .ok (.iload_n 3, 1) := by decide +kernel
theorem d_TuneSetterModel_beginBar_108 : decode b_TuneSetterModel_beginBar 108 = .ok (.ifCond .ne 15, 3) := by decide +kernel
theorem d_TuneSetterModel_beginBar_111 : decode b_TuneSetterModel_beginBar 111 = .ok (.aload_n 0, 1) := by decide +kernel
theorem d_TuneSetterModel_beginBar_112 : decode b_TuneSetterModel_beginBar 112 = .ok (.getfield 90, 3) := by decide +kernel
theorem d_TuneSetterModel_beginBar_115 : decode b_TuneSetterModel_beginBar 115 = .ok (.bipush 48, 2) := by decide +kernel
theorem d_TuneSetterModel_beginBar_117 : decode b_TuneSetterModel_beginBar 117 = .ok (.if_icmp .ne 6, 3) := by decide +kernel
theorem d_TuneSetterModel_beginBar_120 : decode b_TuneSetterModel_beginBar 120 = .ok (.bipush (-6), 2) := by decide +kernel
theorem d_TuneSetterModel_beginBar_122 : decode b_TuneSetterModel_beginBar 122 = .ok (.ireturn, 1) := by decide +kernel
theorem d_TuneSetterModel_beginBar_123 : decode b_TuneSetterModel_beginBar 123 = .ok (.aload_n 0, 1) := by decide +kernel
theorem d_TuneSetterModel_beginBar_124 : decode b_TuneSetterModel_beginBar 124 = .ok (.getfield 26, 3) := by decide +kernel
theorem d_TuneSetterModel_beginBar_127 : decode b_TuneSetterModel_beginBar 127 = .ok (.aload_n 0, 1) := by decide +kernel
theorem d_TuneSetterModel_beginBar_128 : decode b_TuneSetterModel_beginBar 128 = .ok (.getfield 87, 3) := by decide +kernel
theorem d_TuneSetterModel_beginBar_131 : decode b_TuneSetterModel_beginBar 131 = .ok (.aload_n 0, 1) := by decide +kernel
theorem d_TuneSetterModel_beginBar_132 : decode b_TuneSetterModel_beginBar 132 = .ok (.getfield 90, 3) := by decide +kernel
theorem d_TuneSetterModel_beginBar_135 : decode b_TuneSetterModel_beginBar 135 = .ok (.iastore, 1) := by decide +kernel
theorem d_TuneSetterModel_beginBar_136 : decode b_TuneSetterModel_beginBar 136 = .ok (.aload_n 0, 1) := by decide +kernel
theorem d_TuneSetterModel_beginBar_137 : decode b_TuneSetterModel_beginBar 137 = .ok (.getfield 29, 3) := by decide +kernel
theorem d_TuneSetterModel_beginBar_140 : decode b_TuneSetterModel_beginBar 140 = .ok (.aload_n 0, 1) := by decide +kernel
theorem d_TuneSetterModel_beginBar_141 : decode b_TuneSetterModel_beginBar 141 = .ok (.getfield 87, 3) := by decide +kernel
theorem d_TuneSetterModel_beginBar_144 : decode b_TuneSetterModel_beginBar 144 = .ok (.iconst 0, 1) := by decide +kernel
theorem d_TuneSetterModel_beginBar_145 : decode b_TuneSetterModel_beginBar 145 = .ok (.iastore, 1) := by decide +kernel
theorem d_TuneSetterModel_beginBar_146 : decode b_TuneSetterModel_beginBar 146 = .ok (.aload_n 0, 1) := by decide +kernel
theorem d_TuneSetterModel_beginBar_147 : decode b_TuneSetterModel_beginBar 147 = .ok (.getfield 32, 3) := by decide +kernel
theorem d_TuneSetterModel_beginBar_150 : decode b_TuneSetterModel_beginBar 150 = .ok (.aload_n 0, 1) := by decide +kernel
theorem d_TuneSetterModel_beginBar_151 : decode b_TuneSetterModel_beginBar 151 = .ok (.getfield 87, 3) := by decide +kernel
theorem d_TuneSetterModel_beginBar_154 : decode b_TuneSetterModel_beginBar 154 = .ok (.iconst 0, 1) := by decide +kernel
theorem d_TuneSetterModel_beginBar_155 : decode b_TuneSetterModel_beginBar 155 = .ok (.iastore, 1) := by decide +kernel
theorem d_TuneSetterModel_beginBar_156 : decode b_TuneSetterModel_beginBar 156 = .ok (.aload_n 0, 1) := by decide +kernel
theorem d_TuneSetterModel_beginBar_157 : decode b_TuneSetterModel_beginBar 157 = .ok (.getfield 35, 3) := by decide +kernel
theorem d_TuneSetterModel_beginBar_160 : decode b_TuneSetterModel_beginBar 160 = .ok (.aload_n 0, 1) := by decide +kernel
theorem d_TuneSetterModel_beginBar_161 : decode b_TuneSetterModel_beginBar 161 = .ok (.getfield 87, 3) := by decide +kernel
theorem d_TuneSetterModel_beginBar_164 : decode b_TuneSetterModel_beginBar 164 = .ok (.iconst 1, 1) := by decide +kernel
theorem d_TuneSetterModel_beginBar_165 : decode b_TuneSetterModel_beginBar 165 = .ok (.iadd, 1) := by decide +kernel
theorem d_TuneSetterModel_beginBar_166 : decode b_TuneSetterModel_beginBar 166 = .ok (.iconst 0, 1) := by decide +kernel
theorem d_TuneSetterModel_beginBar_167 : decode b_TuneSetterModel_beginBar 167 = .ok (.iastore, 1) := by decide +kernel
theorem d_TuneSetterModel_beginBar_168 : decode b_TuneSetterModel_beginBar 168 = .ok (.aload_n 0, 1) := by decide +kernel
theorem d_TuneSetterModel_beginBar_169 : decode b_TuneSetterModel_beginBar 169 = .ok (.dup, 1) := by decide +kernel
theorem d_TuneSetterModel_beginBar_170 : decode b_TuneSetterModel_beginBar 170 = .ok (.getfield 87, 3) := by decide +kernel
theorem d_TuneSetterModel_beginBar_173 : decode b_TuneSetterModel_beginBar 173 = .ok (.iconst 1, 1) := by decide +kernel
theorem d_TuneSetterModel_beginBar_174 : decode b_TuneSetterModel_beginBar 174 = .ok (.iadd, 1) := by decide +kernel
theorem d_TuneSetterModel_beginBar_175 : decode b_TuneSetterModel_beginBar 175 = .ok (.putfield 87, 3) := by decide +kernel
theorem d_TuneSetterModel_beginBar_178 : decode b_TuneSetterModel_beginBar 178 = .ok (.aload_n 0, 1) := by decide +kernel
theorem d_TuneSetterModel_beginBar_179 : decode b_TuneSetterModel_beginBar 179 = .ok (.iconst 0, 1) := by decide +kernel
theorem d_TuneSetterModel_beginBar_180 : decode b_TuneSetterModel_beginBar 180 = .ok (.putfield 103, 3) := by decide +kernel
theorem d_TuneSetterModel_beginBar_183 : decode b_TuneSetterModel_beginBar 183 = .ok (.iconst 0, 1) := by decide +kernel
theorem d_TuneSetterModel_beginBar_184 : decode b_TuneSetterModel_beginBar 184 = .ok (.istore 4, 2) := by decide +kernel
theorem d_TuneSetterModel_beginBar_186 : decode b_TuneSetterModel_beginBar 186 = .ok (.iload 4, 2) := by decide +kernel
theorem d_TuneSetterModel_beginBar_188 : decode b_TuneSetterModel_beginBar 188 = .ok (.bipush 112, 2) := by decide +kernel
theorem d_TuneSetterModel_beginBar_190 : decode b_TuneSetterModel_beginBar 190 = .ok (.if_icmp .ge 18, 3) := by decide +kernel
theorem d_TuneSetterModel_beginBar_193 : decode b_TuneSetterModel_beginBar 193 = .ok (.aload_n 0, 1) := by decide +kernel
theorem d_TuneSetterModel_beginBar_194 : decode b_TuneSetterModel_beginBar 194 = .ok (.getfield 54, 3) := by decide +kernel
theorem d_TuneSetterModel_beginBar_197 : decode b_TuneSetterModel_beginBar 197 = .ok (.iload 4, 2) := by decide +kernel
theorem d_TuneSetterModel_beginBar_199 : decode b_TuneSetterModel_beginBar 199 = .ok (.bipush 9, 2) := by decide +kernel
theorem d_TuneSetterModel_beginBar_201 : decode b_TuneSetterModel_beginBar 201 = .ok (.iastore, 1) := by decide +kernel
theorem d_TuneSetterModel_beginBar_202 : decode b_TuneSetterModel_beginBar 202 = .ok (.iinc 4 1, 3) := by decide +kernel
theorem d_TuneSetterModel_beginBar_205 : decode b_TuneSetterModel_beginBar 205 = .ok (.goto (-19), 3) := by decide +kernel
theorem d_TuneSetterModel_beginBar_208 : decode b_TuneSetterModel_beginBar 208 = .ok (.iload_n 1, 1) := by decide +kernel
theorem d_TuneSetterModel_beginBar_209 : decode b_TuneSetterModel_beginBar 209 = .ok (.bipush 91, 2) := by decide +kernel
theorem d_TuneSetterModel_beginBar_211 : decode b_TuneSetterModel_beginBar 211 = .ok (.if_icmp .ne 10, 3) := by decide +kernel
theorem d_TuneSetterModel_beginBar_214 : decode b_TuneSetterModel_beginBar 214 = .ok (.aload_n 0, 1) := by decide +kernel
theorem d_TuneSetterModel_beginBar_215 : decode b_TuneSetterModel_beginBar 215 = .ok (.iconst 4, 1) := by decide +kernel
theorem d_TuneSetterModel_beginBar_216 : decode b_TuneSetterModel_beginBar 216 = .ok (.putfield 100, 3) := by decide +kernel
theorem d_TuneSetterModel_beginBar_219 : decode b_TuneSetterModel_beginBar 219 = .ok (.iconst 0, 1) := by decide +kernel
theorem d_TuneSetterModel_beginBar_220 : decode b_TuneSetterModel_beginBar 220 = .ok (.ireturn, 1) := by decide +kernel
theorem d_TuneSetterModel_beginBar_221 : decode b_TuneSetterModel_beginBar 221 = .ok (.aload_n 0, 1) := by decide +kernel
theorem d_TuneSetterModel_beginBar_222 : decode b_TuneSetterModel_beginBar 222 = .ok (.iload_n 1, 1) := by decide +kernel
theorem d_TuneSetterModel_beginBar_223 : decode b_TuneSetterModel_beginBar 223 = .ok (.invokevirtual 196, 3) := by decide +kernel
theorem d_TuneSetterModel_beginBar_226 : decode b_TuneSetterModel_beginBar 226 = .ok (.ireturn, 1) := by decide +kernel
def w_TuneSetterModel_beginBar : List Cond := .code y_TuneSetterModel_beginBar b_TuneSetterModel_beginBar 5 (some .int) :: WALL
theorem g_TuneSetterModel_beginBar : GoodIn WALL w_TuneSetterModel_beginBar := good_of mc_TuneSetterModel_beginBar
set_option maxHeartbeats 4000000 in
set_option maxRecDepth 100000 in
theorem c_TuneSetterModel_beginBar (l : Launch) (D : va_G) (cA a : Nat → Nat) (sz : Nat) (x1 : Int32) (x2 : Int32) (I : Nat → Int32) (A : Nat → Nat → Int32) (post : Int32 → (Nat → Int32) → (Nat → Nat → Int32) → Prop) (h : wp_TuneSetterModel_beginBar x1 x2 I A post) : Met l y_TuneSetterModel_beginBar w_TuneSetterModel_beginBar ({ frames := 5, cells := 0, slots := 0, locals := 104 }) (va_Pc [.ref (a 0), .int x1, .int x2] (PreR D cA a I A sz)) (va_Qi (fun r (u : StW) => post r u.1 u.2) (EndR D cA a) (AR a sz)) 0 0 (AR a sz) := by
  refine Met.ofW (cc := b_TuneSetterModel_beginBar) (maxL := 5) (ret := (some .int)) (by decide) rfl ?_
  intro p e s m args below meth c s₁ B hml hv
  obtain ⟨rfl, hsz, hP, hK, hD0⟩ := hv
  have hx := B.exec
  have hb := B.bytes
  have hr := B.returns
  have hts := atoms_spec (ws := w_TuneSetterModel_beginBar) B.pre
  have hw := wall_of hts
  have hown : s.vm.findClass R_TuneSetterModel = some m.cls := findClass_of_methodNamed B.named
  have hlocks := B.notSynchronized
  subst hsz
  have hD := hDR (sz := s.heap.size) hD0
  have hA : ∀ q : Nat, s.heap.size ≤ q → AR a s.heap.size q := fun q h => Or.inr h
  have hS : va_S (AR a s.heap.size) s.heap s.heap [] := va_S.rf
  have j186 : ∀ n : Nat, ∀ (y1 : Int32) (y4 : Int32) (I : Nat → Int32) (A : Nat → Nat → Int32) (H : Heap) (locs : List Loc) (ls : Array Slot), wp_TuneSetterModel_beginBar_186 post n y1 y4 I A → va_P D cls (wR cA a I A) H → va_S (AR a s.heap.size) s.heap H locs → lv_has ls 5 [(0, .ref (a 0)), (1, .int y1), (4, .int y4)] → W p l e (headSpec w_TuneSetterModel_beginBar ({ frames := 5, cells := 0, slots := 0, locals := 104 })).room s m [.ref (a 0), .int x1, .int x2].toArray below meth c H locs 0 0 (MQ below (va_Qi (fun r (u : StW) => post r u.1 u.2) (EndR D cA a) (AR a s.heap.size)) [.ref (a 0), .int x1, .int x2].toArray s 0 0 (AR a s.heap.size)) (F0 m 186 ls []) := by
    intro n
    induction n with
    | zero =>
      intro y1 y4 I A H locs ls h hP hS hl
      exact False.elim h
    | succ n ih =>
      intro y1 y4 I A H locs ls h hP hS hl
      unfold wp_TuneSetterModel_beginBar_186 at h
      refine lv_iload hx hb d_TuneSetterModel_beginBar_186 (lv_at hl 2 rfl) ?_
      refine lv_bipush (v := 112) hx hb d_TuneSetterModel_beginBar_188 bp_112 ?_
      refine lv_icmp_ge (tgt := 208) hx hb d_TuneSetterModel_beginBar_190 rfl (fun q => ?_) (fun q => ?_)
      · have h := h.1 q
        refine lv_iload_n hx hb d_TuneSetterModel_beginBar_208 rfl (lv_at hl 1 rfl) ?_
        refine lv_bipush (v := 91) hx hb d_TuneSetterModel_beginBar_209 bp_91 ?_
        refine lv_icmp_ne (tgt := 221) hx hb d_TuneSetterModel_beginBar_211 rfl (fun q => ?_) (fun q => ?_)
        · have h := h.2 q
          refine lv_aload_n hx hb d_TuneSetterModel_beginBar_221 rfl (lv_at hl 0 rfl) ?_
          refine lv_iload_n hx hb d_TuneSetterModel_beginBar_222 rfl (lv_at hl 1 rfl) ?_
          refine k_TuneSetterModel_beginItem y1 (rest := []) ⟨hx, hb, hml, hown, hw⟩ hK hD hA hS hP hl.1 (hw _ m_TuneSetterModel_196) (Nat.le_of_ble_eq_true rfl) ⟨Nat.le_of_ble_eq_true rfl, Nat.le_of_ble_eq_true rfl⟩ ⟨Nat.zero_le _, Nat.zero_le _⟩ d_TuneSetterModel_beginBar_223 h (fun r223 I223 A223 H locs h hP hS => ?_)
          exact W.iret hx hb hr (fun t ht hW => ⟨⟨_, (I223, A223), rfl, h, endR_of ht hP⟩, hS.F ht⟩) hS.2.2 d_TuneSetterModel_beginBar_226
        · have h := h.1 q
          refine lv_aload_n hx hb d_TuneSetterModel_beginBar_214 rfl (lv_at hl 0 rfl) ?_
          refine lv_iconst (v := 4) hx hb d_TuneSetterModel_beginBar_215 ic_4 ?_
          refine pR_TuneSetterModel_state hx hb hw hown hK hD hS hP (hw _ m_TuneSetterModel_100) d_TuneSetterModel_beginBar_216 (fun H locs hP hS => ?_)
          refine lv_iconst (v := 0) hx hb d_TuneSetterModel_beginBar_219 ic_0 ?_
          exact W.iret hx hb hr (fun t ht hW => ⟨⟨_, ((upd I 9 4), A), rfl, h, endR_of ht hP⟩, hS.F ht⟩) hS.2.2 d_TuneSetterModel_beginBar_220
      · have h := h.2 q
        refine lv_aload_n hx hb d_TuneSetterModel_beginBar_193 rfl (lv_at hl 0 rfl) ?_
        refine gR_TuneSetterModel_heard hx hb hw hown hK hP (hw _ m_TuneSetterModel_54) d_TuneSetterModel_beginBar_194 ?_
        refine lv_iload hx hb d_TuneSetterModel_beginBar_197 (lv_at hl 2 rfl) ?_
        refine lv_bipush (v := 9) hx hb d_TuneSetterModel_beginBar_199 bp_9 ?_
        obtain ⟨hin, h⟩ := h
        refine sR11 hx hb hK hD hS hP hin d_TuneSetterModel_beginBar_201 (fun H locs hP hS => ?_)
        obtain ⟨v202, ev202⟩ : ∃ z : Int32, z = y4 + 1 := ⟨_, rfl⟩
        have h := h v202 ev202
        refine lv_iinc (k := 2) (v := v202) (lv' := [(4, .int v202), (0, .ref (a 0)), (1, .int y1)]) hx hb d_TuneSetterModel_beginBar_202 hl rfl (by rw [ev202, ic_1]) (by decide) rfl (fun ls hl => ?_)
        refine lv_goto (tgt := 186) hx hb d_TuneSetterModel_beginBar_205 rfl ?_
        exact ih y1 v202 I (upd2 A 11 (y4.toNatClampNeg) 9) _ _ _ h hP hS (lv_sub hl [1, 2, 0] rfl)
  have j123 : ∀ (y1 : Int32) (I : Nat → Int32) (A : Nat → Nat → Int32) (H : Heap) (locs : List Loc) (ls : Array Slot), wp_TuneSetterModel_beginBar_123 post y1 I A → va_P D cls (wR cA a I A) H → va_S (AR a s.heap.size) s.heap H locs → lv_has ls 5 [(0, .ref (a 0)), (1, .int y1)] → W p l e (headSpec w_TuneSetterModel_beginBar ({ frames := 5, cells := 0, slots := 0, locals := 104 })).room s m [.ref (a 0), .int x1, .int x2].toArray below meth c H locs 0 0 (MQ below (va_Qi (fun r (u : StW) => post r u.1 u.2) (EndR D cA a) (AR a s.heap.size)) [.ref (a 0), .int x1, .int x2].toArray s 0 0 (AR a s.heap.size)) (F0 m 123 ls []) := by
    intro y1 I A H locs ls h hP hS hl
    unfold wp_TuneSetterModel_beginBar_123 at h
    refine lv_aload_n hx hb d_TuneSetterModel_beginBar_123 rfl (lv_at hl 0 rfl) ?_
    refine gR_TuneSetterModel_firstItem hx hb hw hown hK hP (hw _ m_TuneSetterModel_26) d_TuneSetterModel_beginBar_124 ?_
    refine lv_aload_n hx hb d_TuneSetterModel_beginBar_127 rfl (lv_at hl 0 rfl) ?_
    refine gR_TuneSetterModel_bars hx hb hw hown hK hP (hw _ m_TuneSetterModel_87) d_TuneSetterModel_beginBar_128 ?_
    refine lv_aload_n hx hb d_TuneSetterModel_beginBar_131 rfl (lv_at hl 0 rfl) ?_
    refine gR_TuneSetterModel_items hx hb hw hown hK hP (hw _ m_TuneSetterModel_90) d_TuneSetterModel_beginBar_132 ?_
    obtain ⟨hin, h⟩ := h
    refine sR2 hx hb hK hD hS hP hin d_TuneSetterModel_beginBar_135 (fun H locs hP hS => ?_)
    refine lv_aload_n hx hb d_TuneSetterModel_beginBar_136 rfl (lv_at hl 0 rfl) ?_
    refine gR_TuneSetterModel_ending hx hb hw hown hK hP (hw _ m_TuneSetterModel_29) d_TuneSetterModel_beginBar_137 ?_
    refine lv_aload_n hx hb d_TuneSetterModel_beginBar_140 rfl (lv_at hl 0 rfl) ?_
    refine gR_TuneSetterModel_bars hx hb hw hown hK hP (hw _ m_TuneSetterModel_87) d_TuneSetterModel_beginBar_141 ?_
    refine lv_iconst (v := 0) hx hb d_TuneSetterModel_beginBar_144 ic_0 ?_
    obtain ⟨hin, h⟩ := h
    refine sR3 hx hb hK hD hS hP hin d_TuneSetterModel_beginBar_145 (fun H locs hP hS => ?_)
    refine lv_aload_n hx hb d_TuneSetterModel_beginBar_146 rfl (lv_at hl 0 rfl) ?_
    refine gR_TuneSetterModel_barTicks hx hb hw hown hK hP (hw _ m_TuneSetterModel_32) d_TuneSetterModel_beginBar_147 ?_
    refine lv_aload_n hx hb d_TuneSetterModel_beginBar_150 rfl (lv_at hl 0 rfl) ?_
    refine gR_TuneSetterModel_bars hx hb hw hown hK hP (hw _ m_TuneSetterModel_87) d_TuneSetterModel_beginBar_151 ?_
    refine lv_iconst (v := 0) hx hb d_TuneSetterModel_beginBar_154 ic_0 ?_
    obtain ⟨hin, h⟩ := h
    refine sR4 hx hb hK hD hS hP hin d_TuneSetterModel_beginBar_155 (fun H locs hP hS => ?_)
    refine lv_aload_n hx hb d_TuneSetterModel_beginBar_156 rfl (lv_at hl 0 rfl) ?_
    refine gR_TuneSetterModel_line hx hb hw hown hK hP (hw _ m_TuneSetterModel_35) d_TuneSetterModel_beginBar_157 ?_
    refine lv_aload_n hx hb d_TuneSetterModel_beginBar_160 rfl (lv_at hl 0 rfl) ?_
    refine gR_TuneSetterModel_bars hx hb hw hown hK hP (hw _ m_TuneSetterModel_87) d_TuneSetterModel_beginBar_161 ?_
    refine lv_iconst (v := 1) hx hb d_TuneSetterModel_beginBar_164 ic_1 ?_
    refine lv_iadd hx hb d_TuneSetterModel_beginBar_165 ?_
    refine lv_iconst (v := 0) hx hb d_TuneSetterModel_beginBar_166 ic_0 ?_
    obtain ⟨hin, h⟩ := h
    refine sR5 hx hb hK hD hS hP hin d_TuneSetterModel_beginBar_167 (fun H locs hP hS => ?_)
    refine lv_aload_n hx hb d_TuneSetterModel_beginBar_168 rfl (lv_at hl 0 rfl) ?_
    refine lv_dup hx hb d_TuneSetterModel_beginBar_169 rfl ?_
    refine gR_TuneSetterModel_bars hx hb hw hown hK hP (hw _ m_TuneSetterModel_87) d_TuneSetterModel_beginBar_170 ?_
    refine lv_iconst (v := 1) hx hb d_TuneSetterModel_beginBar_173 ic_1 ?_
    refine lv_iadd hx hb d_TuneSetterModel_beginBar_174 ?_
    refine pR_TuneSetterModel_bars hx hb hw hown hK hD hS hP (hw _ m_TuneSetterModel_87) d_TuneSetterModel_beginBar_175 (fun H locs hP hS => ?_)
    refine lv_aload_n hx hb d_TuneSetterModel_beginBar_178 rfl (lv_at hl 0 rfl) ?_
    refine lv_iconst (v := 0) hx hb d_TuneSetterModel_beginBar_179 ic_0 ?_
    refine pR_TuneSetterModel_triplet hx hb hw hown hK hD hS hP (hw _ m_TuneSetterModel_103) d_TuneSetterModel_beginBar_180 (fun H locs hP hS => ?_)
    refine lv_iconst (v := 0) hx hb d_TuneSetterModel_beginBar_183 ic_0 ?_
    refine lv_istore (lv' := [(4, .int 0), (0, .ref (a 0)), (1, .int y1)]) hx hb d_TuneSetterModel_beginBar_184 hl (by decide) rfl (fun ls hl => ?_)
    obtain ⟨n186, h⟩ := h
    exact j186 n186 y1 0 (upd (upd I 5 ((I 5) + 1)) 13 0) (upd2 (upd2 (upd2 (upd2 A 2 ((I 5).toNatClampNeg) (I 8)) 3 ((I 5).toNatClampNeg) 0) 4 ((I 5).toNatClampNeg) 0) 5 (((I 5) + 1).toNatClampNeg) 0) _ _ _ h hP hS (lv_sub hl [1, 2, 0] rfl)
  have j105 : ∀ (y1 : Int32) (I : Nat → Int32) (A : Nat → Nat → Int32) (H : Heap) (locs : List Loc) (ls : Array Slot), wp_TuneSetterModel_beginBar_105 post y1 I A → va_P D cls (wR cA a I A) H → va_S (AR a s.heap.size) s.heap H locs → lv_has ls 5 [(0, .ref (a 0)), (1, .int y1)] → W p l e (headSpec w_TuneSetterModel_beginBar ({ frames := 5, cells := 0, slots := 0, locals := 104 })).room s m [.ref (a 0), .int x1, .int x2].toArray below meth c H locs 0 0 (MQ below (va_Qi (fun r (u : StW) => post r u.1 u.2) (EndR D cA a) (AR a s.heap.size)) [.ref (a 0), .int x1, .int x2].toArray s 0 0 (AR a s.heap.size)) (F0 m 105 ls []) := by
    intro y1 I A H locs ls h hP hS hl
    unfold wp_TuneSetterModel_beginBar_105 at h
    refine lv_iconst (v := 0) hx hb d_TuneSetterModel_beginBar_105 ic_0 ?_
    refine lv_istore_n (lv' := [(3, .int 0), (0, .ref (a 0)), (1, .int y1)]) hx hb d_TuneSetterModel_beginBar_106 rfl hl (by decide) rfl (fun ls hl => ?_)
    refine lv_iload_n hx hb d_TuneSetterModel_beginBar_107 rfl (lv_at hl 0 rfl) ?_
    refine lv_if_ne (tgt := 123) hx hb d_TuneSetterModel_beginBar_108 rfl (fun q => ?_) (fun q => ?_)
    · have h := h.2 q
      exact j123 y1 I A _ _ _ h hP hS (lv_sub hl [1, 2] rfl)
    · have h := h.1 q
      refine lv_aload_n hx hb d_TuneSetterModel_beginBar_111 rfl (lv_at hl 1 rfl) ?_
      refine gR_TuneSetterModel_items hx hb hw hown hK hP (hw _ m_TuneSetterModel_90) d_TuneSetterModel_beginBar_112 ?_
      refine lv_bipush (v := 48) hx hb d_TuneSetterModel_beginBar_115 bp_48 ?_
      refine lv_icmp_ne (tgt := 123) hx hb d_TuneSetterModel_beginBar_117 rfl (fun q => ?_) (fun q => ?_)
      · have h := h.2 q
        exact j123 y1 I A _ _ _ h hP hS (lv_sub hl [1, 2] rfl)
      · have h := h.1 q
        refine lv_bipush (v := (-6)) hx hb d_TuneSetterModel_beginBar_120 bp_m6 ?_
        exact W.iret hx hb hr (fun t ht hW => ⟨⟨_, (I, A), rfl, h, endR_of ht hP⟩, hS.F ht⟩) hS.2.2 d_TuneSetterModel_beginBar_122
  have j47 : ∀ (y1 : Int32) (y2 : Int32) (I : Nat → Int32) (A : Nat → Nat → Int32) (H : Heap) (locs : List Loc) (ls : Array Slot), wp_TuneSetterModel_beginBar_47 post y1 y2 I A → va_P D cls (wR cA a I A) H → va_S (AR a s.heap.size) s.heap H locs → lv_has ls 5 [(0, .ref (a 0)), (1, .int y1), (2, .int y2)] → W p l e (headSpec w_TuneSetterModel_beginBar ({ frames := 5, cells := 0, slots := 0, locals := 104 })).room s m [.ref (a 0), .int x1, .int x2].toArray below meth c H locs 0 0 (MQ below (va_Qi (fun r (u : StW) => post r u.1 u.2) (EndR D cA a) (AR a s.heap.size)) [.ref (a 0), .int x1, .int x2].toArray s 0 0 (AR a s.heap.size)) (F0 m 47 ls []) := by
    intro y1 y2 I A H locs ls h hP hS hl
    unfold wp_TuneSetterModel_beginBar_47 at h
    refine lv_aload_n hx hb d_TuneSetterModel_beginBar_47 rfl (lv_at hl 0 rfl) ?_
    refine gR_TuneSetterModel_bars hx hb hw hown hK hP (hw _ m_TuneSetterModel_87) d_TuneSetterModel_beginBar_48 ?_
    refine lv_bipush (v := 8) hx hb d_TuneSetterModel_beginBar_51 bp_8 ?_
    refine lv_icmp_ne (tgt := 59) hx hb d_TuneSetterModel_beginBar_53 rfl (fun q => ?_) (fun q => ?_)
    · have h := h.2 q
      refine lv_iload_n hx hb d_TuneSetterModel_beginBar_59 rfl (lv_at hl 1 rfl) ?_
      refine lv_bipush (v := 91) hx hb d_TuneSetterModel_beginBar_60 bp_91 ?_
      refine lv_icmp_ne (tgt := 105) hx hb d_TuneSetterModel_beginBar_62 rfl (fun q => ?_) (fun q => ?_)
      · have h := h.2 q
        exact j105 y1 I A _ _ _ h hP hS (lv_sub hl [0, 1] rfl)
      · have h := h.1 q
        refine lv_iload_n hx hb d_TuneSetterModel_beginBar_65 rfl (lv_at hl 2 rfl) ?_
        refine lv_iconst (v := 1) hx hb d_TuneSetterModel_beginBar_66 ic_1 ?_
        refine lv_iadd hx hb d_TuneSetterModel_beginBar_67 ?_
        refine lv_aload_n hx hb d_TuneSetterModel_beginBar_68 rfl (lv_at hl 0 rfl) ?_
        refine gR_TuneSetterModel_size hx hb hw hown hK hP (hw _ m_TuneSetterModel_84) d_TuneSetterModel_beginBar_69 ?_
        refine lv_icmp_ge (tgt := 105) hx hb d_TuneSetterModel_beginBar_72 rfl (fun q => ?_) (fun q => ?_)
        · have h := h.1 q
          exact j105 y1 I A _ _ _ h hP hS (lv_sub hl [0, 1] rfl)
        · have h := h.2 q
          refine lv_aload_n hx hb d_TuneSetterModel_beginBar_75 rfl (lv_at hl 0 rfl) ?_
          refine gR_TuneSetterModel_text hx hb hw hown hK hP (hw _ m_TuneSetterModel_19) d_TuneSetterModel_beginBar_76 ?_
          refine lv_iload_n hx hb d_TuneSetterModel_beginBar_79 rfl (lv_at hl 2 rfl) ?_
          refine lv_iconst (v := 1) hx hb d_TuneSetterModel_beginBar_80 ic_1 ?_
          refine lv_iadd hx hb d_TuneSetterModel_beginBar_81 ?_
          obtain ⟨hin, h⟩ := h
          refine lR1 hx hb hK hP hin d_TuneSetterModel_beginBar_82 ?_
          refine lv_bipush (v := 49) hx hb d_TuneSetterModel_beginBar_83 bp_49 ?_
          refine lv_icmp_eq (tgt := 101) hx hb d_TuneSetterModel_beginBar_85 rfl (fun q => ?_) (fun q => ?_)
          · have h := h.1 q
            refine lv_iconst (v := 1) hx hb d_TuneSetterModel_beginBar_101 ic_1 ?_
            refine lv_goto (tgt := 106) hx hb d_TuneSetterModel_beginBar_102 rfl ?_
            refine lv_istore_n (lv' := [(3, .int 1), (0, .ref (a 0)), (1, .int y1), (2, .int y2)]) hx hb d_TuneSetterModel_beginBar_106 rfl hl (by decide) rfl (fun ls hl => ?_)
            refine lv_iload_n hx hb d_TuneSetterModel_beginBar_107 rfl (lv_at hl 0 rfl) ?_
            refine lv_if_ne (tgt := 123) hx hb d_TuneSetterModel_beginBar_108 rfl (fun q => ?_) (fun q => ?_)
            · have h := h.2 q
              exact j123 y1 I A _ _ _ h hP hS (lv_sub hl [1, 2] rfl)
            · have h := h.1 q
              refine lv_aload_n hx hb d_TuneSetterModel_beginBar_111 rfl (lv_at hl 1 rfl) ?_
              refine gR_TuneSetterModel_items hx hb hw hown hK hP (hw _ m_TuneSetterModel_90) d_TuneSetterModel_beginBar_112 ?_
              refine lv_bipush (v := 48) hx hb d_TuneSetterModel_beginBar_115 bp_48 ?_
              refine lv_icmp_ne (tgt := 123) hx hb d_TuneSetterModel_beginBar_117 rfl (fun q => ?_) (fun q => ?_)
              · have h := h.2 q
                exact j123 y1 I A _ _ _ h hP hS (lv_sub hl [1, 2] rfl)
              · have h := h.1 q
                refine lv_bipush (v := (-6)) hx hb d_TuneSetterModel_beginBar_120 bp_m6 ?_
                exact W.iret hx hb hr (fun t ht hW => ⟨⟨_, (I, A), rfl, h, endR_of ht hP⟩, hS.F ht⟩) hS.2.2 d_TuneSetterModel_beginBar_122
          · have h := h.2 q
            refine lv_aload_n hx hb d_TuneSetterModel_beginBar_88 rfl (lv_at hl 0 rfl) ?_
            refine gR_TuneSetterModel_text hx hb hw hown hK hP (hw _ m_TuneSetterModel_19) d_TuneSetterModel_beginBar_89 ?_
            refine lv_iload_n hx hb d_TuneSetterModel_beginBar_92 rfl (lv_at hl 2 rfl) ?_
            refine lv_iconst (v := 1) hx hb d_TuneSetterModel_beginBar_93 ic_1 ?_
            refine lv_iadd hx hb d_TuneSetterModel_beginBar_94 ?_
            obtain ⟨hin, h⟩ := h
            refine lR1 hx hb hK hP hin d_TuneSetterModel_beginBar_95 ?_
            refine lv_bipush (v := 50) hx hb d_TuneSetterModel_beginBar_96 bp_50 ?_
            refine lv_icmp_ne (tgt := 105) hx hb d_TuneSetterModel_beginBar_98 rfl (fun q => ?_) (fun q => ?_)
            · have h := h.2 q
              exact j105 y1 I A _ _ _ h hP hS (lv_sub hl [0, 1] rfl)
            · have h := h.1 q
              refine lv_iconst (v := 1) hx hb d_TuneSetterModel_beginBar_101 ic_1 ?_
              refine lv_goto (tgt := 106) hx hb d_TuneSetterModel_beginBar_102 rfl ?_
              refine lv_istore_n (lv' := [(3, .int 1), (0, .ref (a 0)), (1, .int y1), (2, .int y2)]) hx hb d_TuneSetterModel_beginBar_106 rfl hl (by decide) rfl (fun ls hl => ?_)
              refine lv_iload_n hx hb d_TuneSetterModel_beginBar_107 rfl (lv_at hl 0 rfl) ?_
              refine lv_if_ne (tgt := 123) hx hb d_TuneSetterModel_beginBar_108 rfl (fun q => ?_) (fun q => ?_)
              · have h := h.2 q
                exact j123 y1 I A _ _ _ h hP hS (lv_sub hl [1, 2] rfl)
              · have h := h.1 q
                refine lv_aload_n hx hb d_TuneSetterModel_beginBar_111 rfl (lv_at hl 1 rfl) ?_
                refine gR_TuneSetterModel_items hx hb hw hown hK hP (hw _ m_TuneSetterModel_90) d_TuneSetterModel_beginBar_112 ?_
                refine lv_bipush (v := 48) hx hb d_TuneSetterModel_beginBar_115 bp_48 ?_
                refine lv_icmp_ne (tgt := 123) hx hb d_TuneSetterModel_beginBar_117 rfl (fun q => ?_) (fun q => ?_)
                · have h := h.2 q
                  exact j123 y1 I A _ _ _ h hP hS (lv_sub hl [1, 2] rfl)
                · have h := h.1 q
                  refine lv_bipush (v := (-6)) hx hb d_TuneSetterModel_beginBar_120 bp_m6 ?_
                  exact W.iret hx hb hr (fun t ht hW => ⟨⟨_, (I, A), rfl, h, endR_of ht hP⟩, hS.F ht⟩) hS.2.2 d_TuneSetterModel_beginBar_122
    · have h := h.1 q
      refine lv_bipush (v := (-6)) hx hb d_TuneSetterModel_beginBar_56 bp_m6 ?_
      exact W.iret hx hb hr (fun t ht hW => ⟨⟨_, (I, A), rfl, h, endR_of ht hP⟩, hS.F ht⟩) hS.2.2 d_TuneSetterModel_beginBar_58
  have hl := lv_entry ([.ref (a 0), .int x1, .int x2]) (n := 5) (Nat.le_of_ble_eq_true rfl)
  rw [lg_entry_eq]
  generalize (lg_sl ([.ref (a 0), .int x1, .int x2]) ++ List.replicate (5 - (lg_sl ([.ref (a 0), .int x1, .int x2])).length) Slot.unset).toArray = ls at hl ⊢
  have hl : lv_has ls 5 [(0, .ref (a 0)), (1, .int x1), (2, .int x2)] := hl
  unfold wp_TuneSetterModel_beginBar at h
  refine lv_iload_n hx hb d_TuneSetterModel_beginBar_0 rfl (lv_at hl 1 rfl) ?_
  refine k_TuneSetterModel_beginsItem x1 (rest := []) ⟨hx, hb, hml, hown, hw⟩ hK hD hA hS hP hl.1 (hw _ m_TuneSetterModel_211) (Nat.le_of_ble_eq_true rfl) ⟨Nat.le_of_ble_eq_true rfl, Nat.le_of_ble_eq_true rfl⟩ ⟨Nat.zero_le _, Nat.zero_le _⟩ d_TuneSetterModel_beginBar_1 h (fun r1 I1 A1 H locs h hP hS => ?_)
  refine lv_if_ne (tgt := 10) hx hb d_TuneSetterModel_beginBar_4 rfl (fun q => ?_) (fun q => ?_)
  · have h := h.2 q
    refine lv_aload_n hx hb d_TuneSetterModel_beginBar_10 rfl (lv_at hl 0 rfl) ?_
    refine gR_TuneSetterModel_bars hx hb hw hown hK hP (hw _ m_TuneSetterModel_87) d_TuneSetterModel_beginBar_11 ?_
    refine lv_iconst (v := 1) hx hb d_TuneSetterModel_beginBar_14 ic_1 ?_
    refine lv_icmp_le (tgt := 47) hx hb d_TuneSetterModel_beginBar_15 rfl (fun q => ?_) (fun q => ?_)
    · have h := h.1 q
      exact j47 x1 x2 I1 A1 _ _ _ h hP hS (lv_sub hl [0, 1, 2] rfl)
    · have h := h.2 q
      refine lv_aload_n hx hb d_TuneSetterModel_beginBar_18 rfl (lv_at hl 0 rfl) ?_
      refine gR_TuneSetterModel_barTicks hx hb hw hown hK hP (hw _ m_TuneSetterModel_32) d_TuneSetterModel_beginBar_19 ?_
      refine lv_aload_n hx hb d_TuneSetterModel_beginBar_22 rfl (lv_at hl 0 rfl) ?_
      refine gR_TuneSetterModel_bars hx hb hw hown hK hP (hw _ m_TuneSetterModel_87) d_TuneSetterModel_beginBar_23 ?_
      refine lv_iconst (v := 1) hx hb d_TuneSetterModel_beginBar_26 ic_1 ?_
      refine lv_isub hx hb d_TuneSetterModel_beginBar_27 ?_
      obtain ⟨hin, h⟩ := h
      refine lR4 hx hb hK hP hin d_TuneSetterModel_beginBar_28 ?_
      refine lv_aload_n hx hb d_TuneSetterModel_beginBar_29 rfl (lv_at hl 0 rfl) ?_
      refine k_TuneSetterModel_full (rest := [.int (A1 4 (((I1 5) - 1).toNatClampNeg))]) ⟨hx, hb, hml, hown, hw⟩ hK hD hA hS hP hl.1 (hw _ m_TuneSetterModel_214) (Nat.le_of_ble_eq_true rfl) ⟨Nat.le_of_ble_eq_true rfl, Nat.le_of_ble_eq_true rfl⟩ ⟨Nat.zero_le _, Nat.zero_le _⟩ d_TuneSetterModel_beginBar_30 h (fun r30 I30 A30 H locs h hP hS => ?_)
      refine lv_icmp_ge (tgt := 47) hx hb d_TuneSetterModel_beginBar_33 rfl (fun q => ?_) (fun q => ?_)
      · have h := h.1 q
        exact j47 x1 x2 I30 A30 _ _ _ h hP hS (lv_sub hl [0, 1, 2] rfl)
      · have h := h.2 q
        refine lv_aload_n hx hb d_TuneSetterModel_beginBar_36 rfl (lv_at hl 0 rfl) ?_
        refine lv_aload_n hx hb d_TuneSetterModel_beginBar_37 rfl (lv_at hl 0 rfl) ?_
        refine gR_TuneSetterModel_lineStart hx hb hw hown hK hP (hw _ m_TuneSetterModel_208) d_TuneSetterModel_beginBar_38 ?_
        refine pR_TuneSetterModel_place hx hb hw hown hK hD hS hP (hw _ m_TuneSetterModel_23) d_TuneSetterModel_beginBar_41 (fun H locs hP hS => ?_)
        refine lv_bipush (v := (-5)) hx hb d_TuneSetterModel_beginBar_44 bp_m5 ?_
        exact W.iret hx hb hr (fun t ht hW => ⟨⟨_, ((upd I30 7 (I30 10)), A30), rfl, h, endR_of ht hP⟩, hS.F ht⟩) hS.2.2 d_TuneSetterModel_beginBar_46
  · have h := h.1 q
    refine lv_bipush (v := (-2)) hx hb d_TuneSetterModel_beginBar_7 bp_m2 ?_
    exact W.iret hx hb hr (fun t ht hW => ⟨⟨_, (I1, A1), rfl, h, endR_of ht hP⟩, hS.F ht⟩) hS.2.2 d_TuneSetterModel_beginBar_9
theorem k_TuneSetterModel_beginBar {p : Program} {l : Launch} {e : Env} {R : Room} {s : State} {m : MethodId} {args : Array Value} {below : List Frame} {meth : Method} {c : Code} {H : Heap} {locs : List Loc} {cells slots : Nat} {Q : State → Prop} {cc : ByteArray} {pc nL idx : Nat} {own : String} {ls : Array Slot} {D : va_G} {cA a : Nat → Nat} {AA : Nat → Prop} {I : Nat → Int32} {A : Nat → Nat → Int32} {post : Int32 → (Nat → Int32) → (Nat → Nat → Int32) → Prop} (x1 : Int32) (x2 : Int32) {rest : List Value} (S : CallFix p m c cc nL s args WALL own) (hK : KR D cA a AA s) (hD : ∀ I A, va_D AA (wR cA a I A)) (hA : ∀ q : Nat, s.heap.size ≤ q → AA q) (hS : va_S AA s.heap H locs) (hP : va_P D cls (wR cA a I A) H) (hl1 : ls.size = nL) (hlink : (Cond.methodLink own idx y_TuneSetterModel_beginBar).before args s = true) (hst : (rest.map fun v => v.category).sum ≤ 8) (hR : ({ frames := 5, cells := 0, slots := 0, locals := 104 } : Room).frames + 1 ≤ R.frames ∧ 8 + (5 + 11) + ({ frames := 5, cells := 0, slots := 0, locals := 104 } : Room).locals ≤ R.locals) (hcs : cells ≤ R.cells ∧ slots ≤ R.slots) (hdg : decode cc pc = .ok (.invokevirtual idx, 3)) (h : wp_TuneSetterModel_beginBar x1 x2 I A post) (kk : ∀ (r : Int32) (I1 : Nat → Int32) (A1 : Nat → Nat → Int32) (H1 : Heap) (locs1 : List Loc), post r I1 A1 → va_P D cls (wR cA a I1 A1) H1 → va_S AA s.heap H1 locs1 → W p l e R s m args below meth c H1 locs1 cells slots Q (F0 m (pc + 3) ls (.int r :: rest))) : W p l e R s m args below meth c H locs cells slots Q (F0 m pc ls (.int x2 :: .int x1 :: .ref (a 0) :: rest)) :=
  va_calli (va_runV (As := [.int x1, .int x2]) (rest := rest) S (c_TuneSetterModel_beginBar l D cA a H.size x1 x2 I A post h) ⟨callB_of 2 S.2.2.2.2 g_TuneSetterModel_beginBar rfl rfl rfl (S.2.2.2.2 _ mi_TuneSetterModel) hlink ⟨by decide, by decide, by decide +kernel⟩ hR, S.2.2.2.2 _ mn_TuneSetterModel_beginBar, S.2.2.2.2 _ ms_TuneSetterModel_beginBar⟩ (preRV hK hD hA hS hP 0 rfl rfl) rfl rfl hl1 rfl (lv_room hst) hdg hcs) hS (fun q _ z => AR_le hD hA hS q z) (fun q z => AR_le hD hA hS q z) (fun r u t H1 locs1 ht _ hp hB _ _ hS1 => kk r u.1 u.2 H1 locs1 hp (of_endR ht hB) hS1)
def wp_TuneSetterModel_behind (x1 : Int32) (x2 : Int32) (I : Nat → Int32) (A : Nat → Nat → Int32) (post : Int32 → (Nat → Int32) → (Nat → Nat → Int32) → Prop) : Prop := ((x1 = 32 → post 0 I A) ∧ (¬ x1 = 32 → ((x1 = (-1) → (((I 5) ≤ 0 → (wp_TuneSetterModel_beginBar x1 x2 I A (fun r23 I23 A23 => post r23 I23 A23))) ∧ (¬ (I 5) ≤ 0 → post 0 I A))) ∧ (¬ x1 = (-1) → (wp_TuneSetterModel_beginBar x1 x2 I A (fun r23 I23 A23 => post r23 I23 A23))))))
theorem d_TuneSetterModel_behind_0 : decode b_TuneSetterModel_behind 0 = .ok (.iload_n 1, 1) := by decide +kernel
theorem d_TuneSetterModel_behind_1 : decode b_TuneSetterModel_behind 1 = .ok (.bipush 32, 2) := by decide +kernel
theorem d_TuneSetterModel_behind_3 : decode b_TuneSetterModel_behind 3 = .ok (.if_icmp .eq 15, 3) := by decide +kernel
theorem d_TuneSetterModel_behind_6 : decode b_TuneSetterModel_behind 6 = .ok (.iload_n 1, 1) := by decide +kernel
theorem d_TuneSetterModel_behind_7 : decode b_TuneSetterModel_behind 7 = .ok (.iconst (-1), 1) := by decide +kernel
theorem d_TuneSetterModel_behind_8 : decode b_TuneSetterModel_behind 8 = .ok (.if_icmp .ne 12, 3) := by decide +kernel
theorem d_TuneSetterModel_behind_11 : decode b_TuneSetterModel_behind 11 = .ok (.aload_n 0, 1) := by decide +kernel
theorem d_TuneSetterModel_behind_12 : decode b_TuneSetterModel_behind 12 = .ok (.getfield 87, 3) := by decide +kernel
theorem d_TuneSetterModel_behind_15 : decode b_TuneSetterModel_behind 15 = .ok (.ifCond .le 5, 3) := by decide +kernel
theorem d_TuneSetterModel_behind_18 : decode b_TuneSetterModel_behind 18 = .ok (.iconst 0, 1) := by decide +kernel
theorem d_TuneSetterModel_behind_19 : decode b_TuneSetterModel_behind 19 = .ok (.ireturn, 1) := by decide +kernel
theorem d_TuneSetterModel_behind_20 : decode b_TuneSetterModel_behind 20 = .ok (.aload_n 0, 1) := by decide +kernel
theorem d_TuneSetterModel_behind_21 : decode b_TuneSetterModel_behind 21 = .ok (.iload_n 1, 1) := by decide +kernel
theorem d_TuneSetterModel_behind_22 : decode b_TuneSetterModel_behind 22 = .ok (.iload_n 2, 1) := by decide +kernel
theorem d_TuneSetterModel_behind_23 : decode b_TuneSetterModel_behind 23 = .ok (.invokevirtual 181, 3) := by decide +kernel
theorem d_TuneSetterModel_behind_26 : decode b_TuneSetterModel_behind 26 = .ok (.ireturn, 1) := by decide +kernel
def w_TuneSetterModel_behind : List Cond := .code y_TuneSetterModel_behind b_TuneSetterModel_behind 3 (some .int) :: WALL
theorem g_TuneSetterModel_behind : GoodIn WALL w_TuneSetterModel_behind := good_of mc_TuneSetterModel_behind
set_option maxHeartbeats 4000000 in
set_option maxRecDepth 100000 in
theorem c_TuneSetterModel_behind (l : Launch) (D : va_G) (cA a : Nat → Nat) (sz : Nat) (x1 : Int32) (x2 : Int32) (I : Nat → Int32) (A : Nat → Nat → Int32) (post : Int32 → (Nat → Int32) → (Nat → Nat → Int32) → Prop) (h : wp_TuneSetterModel_behind x1 x2 I A post) : Met l y_TuneSetterModel_behind w_TuneSetterModel_behind ({ frames := 6, cells := 0, slots := 0, locals := 128 }) (va_Pc [.ref (a 0), .int x1, .int x2] (PreR D cA a I A sz)) (va_Qi (fun r (u : StW) => post r u.1 u.2) (EndR D cA a) (AR a sz)) 0 0 (AR a sz) := by
  refine Met.ofW (cc := b_TuneSetterModel_behind) (maxL := 3) (ret := (some .int)) (by decide) rfl ?_
  intro p e s m args below meth c s₁ B hml hv
  obtain ⟨rfl, hsz, hP, hK, hD0⟩ := hv
  have hx := B.exec
  have hb := B.bytes
  have hr := B.returns
  have hts := atoms_spec (ws := w_TuneSetterModel_behind) B.pre
  have hw := wall_of hts
  have hown : s.vm.findClass R_TuneSetterModel = some m.cls := findClass_of_methodNamed B.named
  have hlocks := B.notSynchronized
  subst hsz
  have hD := hDR (sz := s.heap.size) hD0
  have hA : ∀ q : Nat, s.heap.size ≤ q → AR a s.heap.size q := fun q h => Or.inr h
  have hS : va_S (AR a s.heap.size) s.heap s.heap [] := va_S.rf
  have hl := lv_entry ([.ref (a 0), .int x1, .int x2]) (n := 3) (Nat.le_of_ble_eq_true rfl)
  rw [lg_entry_eq]
  generalize (lg_sl ([.ref (a 0), .int x1, .int x2]) ++ List.replicate (3 - (lg_sl ([.ref (a 0), .int x1, .int x2])).length) Slot.unset).toArray = ls at hl ⊢
  have hl : lv_has ls 3 [(0, .ref (a 0)), (1, .int x1), (2, .int x2)] := hl
  unfold wp_TuneSetterModel_behind at h
  refine lv_iload_n hx hb d_TuneSetterModel_behind_0 rfl (lv_at hl 1 rfl) ?_
  refine lv_bipush (v := 32) hx hb d_TuneSetterModel_behind_1 bp_32 ?_
  refine lv_icmp_eq (tgt := 18) hx hb d_TuneSetterModel_behind_3 rfl (fun q => ?_) (fun q => ?_)
  · have h := h.1 q
    refine lv_iconst (v := 0) hx hb d_TuneSetterModel_behind_18 ic_0 ?_
    exact W.iret hx hb hr (fun t ht hW => ⟨⟨_, (I, A), rfl, h, endR_of ht hP⟩, hS.F ht⟩) hS.2.2 d_TuneSetterModel_behind_19
  · have h := h.2 q
    refine lv_iload_n hx hb d_TuneSetterModel_behind_6 rfl (lv_at hl 1 rfl) ?_
    refine lv_iconst (v := (-1)) hx hb d_TuneSetterModel_behind_7 ic_m1 ?_
    refine lv_icmp_ne (tgt := 20) hx hb d_TuneSetterModel_behind_8 rfl (fun q => ?_) (fun q => ?_)
    · have h := h.2 q
      refine lv_aload_n hx hb d_TuneSetterModel_behind_20 rfl (lv_at hl 0 rfl) ?_
      refine lv_iload_n hx hb d_TuneSetterModel_behind_21 rfl (lv_at hl 1 rfl) ?_
      refine lv_iload_n hx hb d_TuneSetterModel_behind_22 rfl (lv_at hl 2 rfl) ?_
      refine k_TuneSetterModel_beginBar x1 x2 (rest := []) ⟨hx, hb, hml, hown, hw⟩ hK hD hA hS hP hl.1 (hw _ m_TuneSetterModel_181) (Nat.le_of_ble_eq_true rfl) ⟨Nat.le_of_ble_eq_true rfl, Nat.le_of_ble_eq_true rfl⟩ ⟨Nat.zero_le _, Nat.zero_le _⟩ d_TuneSetterModel_behind_23 h (fun r23 I23 A23 H locs h hP hS => ?_)
      exact W.iret hx hb hr (fun t ht hW => ⟨⟨_, (I23, A23), rfl, h, endR_of ht hP⟩, hS.F ht⟩) hS.2.2 d_TuneSetterModel_behind_26
    · have h := h.1 q
      refine lv_aload_n hx hb d_TuneSetterModel_behind_11 rfl (lv_at hl 0 rfl) ?_
      refine gR_TuneSetterModel_bars hx hb hw hown hK hP (hw _ m_TuneSetterModel_87) d_TuneSetterModel_behind_12 ?_
      refine lv_if_le (tgt := 20) hx hb d_TuneSetterModel_behind_15 rfl (fun q => ?_) (fun q => ?_)
      · have h := h.1 q
        refine lv_aload_n hx hb d_TuneSetterModel_behind_20 rfl (lv_at hl 0 rfl) ?_
        refine lv_iload_n hx hb d_TuneSetterModel_behind_21 rfl (lv_at hl 1 rfl) ?_
        refine lv_iload_n hx hb d_TuneSetterModel_behind_22 rfl (lv_at hl 2 rfl) ?_
        refine k_TuneSetterModel_beginBar x1 x2 (rest := []) ⟨hx, hb, hml, hown, hw⟩ hK hD hA hS hP hl.1 (hw _ m_TuneSetterModel_181) (Nat.le_of_ble_eq_true rfl) ⟨Nat.le_of_ble_eq_true rfl, Nat.le_of_ble_eq_true rfl⟩ ⟨Nat.zero_le _, Nat.zero_le _⟩ d_TuneSetterModel_behind_23 h (fun r23 I23 A23 H locs h hP hS => ?_)
        exact W.iret hx hb hr (fun t ht hW => ⟨⟨_, (I23, A23), rfl, h, endR_of ht hP⟩, hS.F ht⟩) hS.2.2 d_TuneSetterModel_behind_26
      · have h := h.2 q
        refine lv_iconst (v := 0) hx hb d_TuneSetterModel_behind_18 ic_0 ?_
        exact W.iret hx hb hr (fun t ht hW => ⟨⟨_, (I, A), rfl, h, endR_of ht hP⟩, hS.F ht⟩) hS.2.2 d_TuneSetterModel_behind_19
theorem k_TuneSetterModel_behind {p : Program} {l : Launch} {e : Env} {R : Room} {s : State} {m : MethodId} {args : Array Value} {below : List Frame} {meth : Method} {c : Code} {H : Heap} {locs : List Loc} {cells slots : Nat} {Q : State → Prop} {cc : ByteArray} {pc nL idx : Nat} {own : String} {ls : Array Slot} {D : va_G} {cA a : Nat → Nat} {AA : Nat → Prop} {I : Nat → Int32} {A : Nat → Nat → Int32} {post : Int32 → (Nat → Int32) → (Nat → Nat → Int32) → Prop} (x1 : Int32) (x2 : Int32) {rest : List Value} (S : CallFix p m c cc nL s args WALL own) (hK : KR D cA a AA s) (hD : ∀ I A, va_D AA (wR cA a I A)) (hA : ∀ q : Nat, s.heap.size ≤ q → AA q) (hS : va_S AA s.heap H locs) (hP : va_P D cls (wR cA a I A) H) (hl1 : ls.size = nL) (hlink : (Cond.methodLink own idx y_TuneSetterModel_behind).before args s = true) (hst : (rest.map fun v => v.category).sum ≤ 8) (hR : ({ frames := 6, cells := 0, slots := 0, locals := 128 } : Room).frames + 1 ≤ R.frames ∧ 8 + (3 + 11) + ({ frames := 6, cells := 0, slots := 0, locals := 128 } : Room).locals ≤ R.locals) (hcs : cells ≤ R.cells ∧ slots ≤ R.slots) (hdg : decode cc pc = .ok (.invokevirtual idx, 3)) (h : wp_TuneSetterModel_behind x1 x2 I A post) (kk : ∀ (r : Int32) (I1 : Nat → Int32) (A1 : Nat → Nat → Int32) (H1 : Heap) (locs1 : List Loc), post r I1 A1 → va_P D cls (wR cA a I1 A1) H1 → va_S AA s.heap H1 locs1 → W p l e R s m args below meth c H1 locs1 cells slots Q (F0 m (pc + 3) ls (.int r :: rest))) : W p l e R s m args below meth c H locs cells slots Q (F0 m pc ls (.int x2 :: .int x1 :: .ref (a 0) :: rest)) :=
  va_calli (va_runV (As := [.int x1, .int x2]) (rest := rest) S (c_TuneSetterModel_behind l D cA a H.size x1 x2 I A post h) ⟨callB_of 2 S.2.2.2.2 g_TuneSetterModel_behind rfl rfl rfl (S.2.2.2.2 _ mi_TuneSetterModel) hlink ⟨by decide, by decide, by decide +kernel⟩ hR, S.2.2.2.2 _ mn_TuneSetterModel_behind, S.2.2.2.2 _ ms_TuneSetterModel_behind⟩ (preRV hK hD hA hS hP 0 rfl rfl) rfl rfl hl1 rfl (lv_room hst) hdg hcs) hS (fun q _ z => AR_le hD hA hS q z) (fun q z => AR_le hD hA hS q z) (fun r u t H1 locs1 ht _ hp hB _ _ hS1 => kk r u.1 u.2 H1 locs1 hp (of_endR ht hB) hS1)

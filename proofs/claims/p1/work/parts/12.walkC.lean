def wp_Tune_widen (x1 : Int32) (I : Nat → Int32) (A : Nat → Nat → Int32) (post : (Nat → Int32) → (Nat → Nat → Int32) → Prop) : Prop := (((I 0) ≤ 0 → post I A) ∧ (¬ (I 0) ≤ 0 → (vp_in ((I 0) - 1) 8 ∧ (vp_in ((I 0) - 1) 8 ∧ post I (upd2 A 7 (((I 0) - 1).toNatClampNeg) ((A 7 (((I 0) - 1).toNatClampNeg)) + x1))))))
theorem d_Tune_widen_0 : decode b_Tune_widen 0 = .ok (.aload_n 0, 1) := by decide +kernel
theorem d_Tune_widen_1 : decode b_Tune_widen 1 = .ok (.getfield 40, 3) := by decide +kernel
theorem d_Tune_widen_4 : decode b_Tune_widen 4 = .ok (.ifCond .le 18, 3) := by decide +kernel
theorem d_Tune_widen_7 : decode b_Tune_widen 7 = .ok (.aload_n 0, 1) := by decide +kernel
theorem d_Tune_widen_8 : decode b_Tune_widen 8 = .ok (.getfield 21, 3) := by decide +kernel
theorem d_Tune_widen_11 : decode b_Tune_widen 11 = .ok (.aload_n 0, 1) := by decide +kernel
theorem d_Tune_widen_12 : decode b_Tune_widen 12 = .ok (.getfield 40, 3) := by decide +kernel
theorem d_Tune_widen_15 : decode b_Tune_widen 15 = .ok (.iconst 1, 1) := by decide +kernel
theorem d_Tune_widen_16 : decode b_Tune_widen 16 = .ok (.isub, 1) := by decide +kernel
theorem d_Tune_widen_17 : decode b_Tune_widen 17 = .ok (.dup2, 1) := by decide +kernel
theorem d_Tune_widen_18 : decode b_Tune_widen 18 = .ok (.iaload, 1) := by decide +kernel
theorem d_Tune_widen_19 : decode b_Tune_widen 19 = .ok (.iload_n 1, 1) := by decide +kernel
theorem d_Tune_widen_20 : decode b_Tune_widen 20 = .ok (.iadd, 1) := by decide +kernel
theorem d_Tune_widen_21 : decode b_Tune_widen 21 = .ok (.iastore, 1) := by decide +kernel
theorem d_Tune_widen_22 : decode b_Tune_widen 22 = .ok (.return_, 1) := by decide +kernel
def w_Tune_widen : List Cond := .code y_Tune_widen b_Tune_widen 2 none :: WALL
theorem g_Tune_widen : GoodIn WALL w_Tune_widen := good_of mc_Tune_widen
set_option maxHeartbeats 4000000 in
set_option maxRecDepth 100000 in
theorem c_Tune_widen (l : Launch) (D : va_G) (cA a : Nat → Nat) (sz : Nat) (x1 : Int32) (I : Nat → Int32) (A : Nat → Nat → Int32) (post : (Nat → Int32) → (Nat → Nat → Int32) → Prop) (h : wp_Tune_widen x1 I A post) : Met l y_Tune_widen w_Tune_widen ({ frames := 0, cells := 0, slots := 0, locals := 0 }) (va_Pc [.ref (a 3), .int x1] (PreC D cA a I A sz)) (va_Qv (fun (u : StW) => post u.1 u.2) (EndC D cA a) (AC a sz)) 0 0 (AC a sz) := by
  refine Met.ofW (cc := b_Tune_widen) (maxL := 2) (ret := none) (by decide) rfl ?_
  intro p e s m args below meth c s₁ B hml hv
  obtain ⟨rfl, hsz, hP, hK, hD0⟩ := hv
  have hx := B.exec
  have hb := B.bytes
  have hr := B.returns
  have hts := atoms_spec (ws := w_Tune_widen) B.pre
  have hw := wall_of hts
  have hown : s.vm.findClass R_Tune = some m.cls := findClass_of_methodNamed B.named
  have hlocks := B.notSynchronized
  subst hsz
  have hD := hDC (sz := s.heap.size) hD0
  have hA : ∀ q : Nat, s.heap.size ≤ q → AC a s.heap.size q := fun q h => Or.inr h
  have hS : va_S (AC a s.heap.size) s.heap s.heap [] := va_S.rf
  have hl := lv_entry ([.ref (a 3), .int x1]) (n := 2) (Nat.le_of_ble_eq_true rfl)
  rw [lg_entry_eq]
  generalize (lg_sl ([.ref (a 3), .int x1]) ++ List.replicate (2 - (lg_sl ([.ref (a 3), .int x1])).length) Slot.unset).toArray = ls at hl ⊢
  have hl : lv_has ls 2 [(0, .ref (a 3)), (1, .int x1)] := hl
  unfold wp_Tune_widen at h
  refine lv_aload_n hx hb d_Tune_widen_0 rfl (lv_at hl 0 rfl) ?_
  refine gC_Tune_barCount hx hb hw hown hK hP (hw _ m_Tune_40) d_Tune_widen_1 ?_
  refine lv_if_le (tgt := 22) hx hb d_Tune_widen_4 rfl (fun q => ?_) (fun q => ?_)
  · have h := h.1 q
    exact W.vret hx hb hr (fun t ht hW => ⟨⟨(I, A), rfl, h, endC_of ht hP⟩, hS.F ht⟩) hS.2.2 d_Tune_widen_22
  · have h := h.2 q
    refine lv_aload_n hx hb d_Tune_widen_7 rfl (lv_at hl 0 rfl) ?_
    refine gC_Tune_barWidth hx hb hw hown hK hP (hw _ m_Tune_21) d_Tune_widen_8 ?_
    refine lv_aload_n hx hb d_Tune_widen_11 rfl (lv_at hl 0 rfl) ?_
    refine gC_Tune_barCount hx hb hw hown hK hP (hw _ m_Tune_40) d_Tune_widen_12 ?_
    refine lv_iconst (v := 1) hx hb d_Tune_widen_15 ic_1 ?_
    refine lv_isub hx hb d_Tune_widen_16 ?_
    refine lv_dup2_11 hx hb d_Tune_widen_17 rfl rfl ?_
    obtain ⟨hin, h⟩ := h
    refine lC7 hx hb hK hP hin d_Tune_widen_18 ?_
    refine lv_iload_n hx hb d_Tune_widen_19 rfl (lv_at hl 1 rfl) ?_
    refine lv_iadd hx hb d_Tune_widen_20 ?_
    obtain ⟨hin, h⟩ := h
    refine sC7 hx hb hK hD hS hP hin d_Tune_widen_21 (fun H locs hP hS => ?_)
    exact W.vret hx hb hr (fun t ht hW => ⟨⟨(I, (upd2 A 7 (((I 0) - 1).toNatClampNeg) ((A 7 (((I 0) - 1).toNatClampNeg)) + x1))), rfl, h, endC_of ht hP⟩, hS.F ht⟩) hS.2.2 d_Tune_widen_22
theorem k_Tune_widen {p : Program} {l : Launch} {e : Env} {R : Room} {s : State} {m : MethodId} {args : Array Value} {below : List Frame} {meth : Method} {c : Code} {H : Heap} {locs : List Loc} {cells slots : Nat} {Q : State → Prop} {cc : ByteArray} {pc nL idx : Nat} {own : String} {ls : Array Slot} {D : va_G} {cA a : Nat → Nat} {AA : Nat → Prop} {I : Nat → Int32} {A : Nat → Nat → Int32} {post : (Nat → Int32) → (Nat → Nat → Int32) → Prop} (x1 : Int32) {rest : List Value} (S : CallFix p m c cc nL s args WALL own) (hK : KC D cA a AA s) (hD : ∀ I A, va_D AA (wC cA a I A)) (hA : ∀ q : Nat, s.heap.size ≤ q → AA q) (hS : va_S AA s.heap H locs) (hP : va_P D cls (wC cA a I A) H) (hl1 : ls.size = nL) (hlink : (Cond.methodLink own idx y_Tune_widen).before args s = true) (hst : (rest.map fun v => v.category).sum ≤ 8) (hR : ({ frames := 0, cells := 0, slots := 0, locals := 0 } : Room).frames + 1 ≤ R.frames ∧ 8 + (2 + 11) + ({ frames := 0, cells := 0, slots := 0, locals := 0 } : Room).locals ≤ R.locals) (hcs : cells ≤ R.cells ∧ slots ≤ R.slots) (hdg : decode cc pc = .ok (.invokevirtual idx, 3)) (h : wp_Tune_widen x1 I A post) (kk : ∀ (I1 : Nat → Int32) (A1 : Nat → Nat → Int32) (H1 : Heap) (locs1 : List Loc), post I1 A1 → va_P D cls (wC cA a I1 A1) H1 → va_S AA s.heap H1 locs1 → W p l e R s m args below meth c H1 locs1 cells slots Q (F0 m (pc + 3) ls rest)) : W p l e R s m args below meth c H locs cells slots Q (F0 m pc ls (.int x1 :: .ref (a 3) :: rest)) :=
  va_callv (va_runV (As := [.int x1]) (rest := rest) S (c_Tune_widen l D cA a H.size x1 I A post h) ⟨callB_of 1 S.2.2.2.2 g_Tune_widen rfl rfl rfl (S.2.2.2.2 _ mi_Tune) hlink ⟨by decide, by decide, by decide +kernel⟩ hR, S.2.2.2.2 _ mn_Tune_widen, S.2.2.2.2 _ ms_Tune_widen⟩ (preCV hK hD hA hS hP 3 rfl rfl) rfl rfl hl1 rfl (lv_room hst) hdg hcs) hS (fun q _ z => AC_le hD hA hS q z) (fun q z => AC_le hD hA hS q z) (fun u t H1 locs1 ht _ hp hB _ _ hS1 => kk u.1 u.2 H1 locs1 hp (of_endC ht hB) hS1)
def wp_Tune_setTicks_47 (post : (Nat → Int32) → (Nat → Nat → Int32) → Prop) : Nat → Int32 → (Nat → Int32) → (Nat → Nat → Int32) → Prop
  | 0, _, _, _ => False
  | n + 1, y2, I, A => ((y2 ≤ 0 → post I A) ∧ (¬ y2 ≤ 0 → (wp_Tune_widen 1 I A (fun I53 A53 => (∀ v59 : Int32, v59 = y2 / 2 → wp_Tune_setTicks_47 post n v59 I53 A53)))))
def wp_Tune_setTicks (x1 : Int32) (I : Nat → Int32) (A : Nat → Nat → Int32) (post : (Nat → Int32) → (Nat → Nat → Int32) → Prop) : Prop := (((I 1) = 0 → post I A) ∧ (¬ (I 1) = 0 → (((I 0) = 0 → post I A) ∧ (¬ (I 0) = 0 → (vp_in ((I 1) - 1) 48 ∧ (vp_in ((I 0) - 1) 8 ∧ (vp_in ((I 0) - 1) 8 ∧ (∀ v46 : Int32, v46 = x1 / 48 → (∃ n47, wp_Tune_setTicks_47 post n47 v46 I (upd2 (upd2 A 10 (((I 1) - 1).toNatClampNeg) x1) 6 (((I 0) - 1).toNatClampNeg) ((A 6 (((I 0) - 1).toNatClampNeg)) + x1)))))))))))
theorem d_Tune_setTicks_0 : decode b_Tune_setTicks 0 = .ok (.aload_n 0, 1) := by decide +kernel
theorem d_Tune_setTicks_1 : decode b_Tune_setTicks 1 = .ok (.getfield 44, 3) := by decide +kernel
theorem d_Tune_setTicks_4 : decode b_Tune_setTicks 4 = .ok (.ifCond .eq 10, 3) := by decide +kernel
theorem d_Tune_setTicks_7 : decode b_Tune_setTicks 7 = .ok (.aload_n 0, 1) := by decide +kernel
theorem d_Tune_setTicks_8 : decode b_Tune_setTicks 8 = .ok (.getfield 40, 3) := by decide +kernel
theorem d_Tune_setTicks_11 : decode b_Tune_setTicks 11 = .ok (.ifCond .ne 4, 3) := by decide +kernel
theorem d_Tune_setTicks_14 : decode b_Tune_setTicks 14 = .ok (.return_, 1) := by decide +kernel
theorem d_Tune_setTicks_15 : decode b_Tune_setTicks 15 = .ok (.aload_n 0, 1) := by decide +kernel
theorem d_Tune_setTicks_16 : decode b_Tune_setTicks 16 = .ok (.getfield 30, 3) := by decide +kernel
theorem d_Tune_setTicks_19 : decode b_Tune_setTicks 19 = .ok (.aload_n 0, 1) := by decide +kernel
theorem d_Tune_setTicks_20 : decode b_Tune_setTicks 20 = .ok (.getfield 44, 3) := by decide +kernel
theorem d_Tune_setTicks_23 : decode b_Tune_setTicks 23 = .ok (.iconst 1, 1) := by decide +kernel
theorem d_Tune_setTicks_24 : decode b_Tune_setTicks 24 = .ok (.isub, 1) := by decide +kernel
theorem d_Tune_setTicks_25 : decode b_Tune_setTicks 25 = .ok (.iload_n 1, 1) := by decide +kernel
theorem d_Tune_setTicks_26 : decode b_Tune_setTicks 26 = .ok (.iastore, 1) := by decide +kernel
theorem d_Tune_setTicks_27 : decode b_Tune_setTicks 27 = .ok (.aload_n 0, 1) := by decide +kernel
theorem d_Tune_setTicks_28 : decode b_Tune_setTicks 28 = .ok (.getfield 18, 3) := by decide +kernel
theorem d_Tune_setTicks_31 : decode b_Tune_setTicks 31 = .ok (.aload_n 0, 1) := by decide +kernel
theorem d_Tune_setTicks_32 : decode b_Tune_setTicks 32 = .ok (.getfield 40, 3) := by decide +kernel
theorem d_Tune_setTicks_35 : decode b_Tune_setTicks 35 = .ok (.iconst 1, 1) := by decide +kernel
theorem d_Tune_setTicks_36 : decode b_Tune_setTicks 36 = .ok (.isub, 1) := by decide +kernel
theorem d_Tune_setTicks_37 : decode b_Tune_setTicks 37 = .ok (.dup2, 1) := by decide +kernel
theorem d_Tune_setTicks_38 : decode b_Tune_setTicks 38 = .ok (.iaload, 1) := by decide +kernel
theorem d_Tune_setTicks_39 : decode b_Tune_setTicks 39 = .ok (.iload_n 1, 1) := by decide +kernel
theorem d_Tune_setTicks_40 : decode b_Tune_setTicks 40 = .ok (.iadd, 1) := by decide +kernel
theorem d_Tune_setTicks_41 : decode b_Tune_setTicks 41 = .ok (.iastore, 1) := by decide +kernel
theorem d_Tune_setTicks_42 : decode b_Tune_setTicks 42 = .ok (.iload_n 1, 1) := by decide +kernel
theorem d_Tune_setTicks_43 : decode b_Tune_setTicks 43 = .ok (.bipush 48, 2) := by decide +kernel
theorem d_Tune_setTicks_45 : decode b_Tune_setTicks 45 = .ok (.idiv, 1) := by decide +kernel
theorem d_Tune_setTicks_46 : decode b_Tune_setTicks 46 = .ok (.istore_n 2, 1) := by decide +kernel
theorem d_Tune_setTicks_47 : decode b_Tune_setTicks 47 = .ok (.iload_n 2, 1) := by decide +kernel
theorem d_Tune_setTicks_48 : decode b_Tune_setTicks 48 = .ok (.ifCond .le 15, 3) := by decide +kernel
theorem d_Tune_setTicks_51 : decode b_Tune_setTicks 51 = .ok (.aload_n 0, 1) := by decide +kernel
theorem d_Tune_setTicks_52 : decode b_Tune_setTicks 52 = .ok (.iconst 1, 1) := by decide +kernel
theorem d_Tune_setTicks_53 : decode b_Tune_setTicks 53 = .ok (.invokevirtual 50, 3) := by decide +kernel
theorem d_Tune_setTicks_56 : decode b_Tune_setTicks 56 = .ok (.iload_n 2, 1) := by decide +kernel
theorem d_Tune_setTicks_57 : decode b_Tune_setTicks 57 = .ok (.iconst 2, 1) := by decide +kernel
theorem d_Tune_setTicks_58 : decode b_Tune_setTicks 58 = .ok (.idiv, 1) := by decide +kernel
theorem d_Tune_setTicks_59 : decode b_Tune_setTicks 59 = .ok (.istore_n 2, 1) := by decide +kernel
theorem d_Tune_setTicks_60 : decode b_Tune_setTicks 60 = .ok (.goto (-13), 3) := by decide +kernel
theorem d_Tune_setTicks_63 : decode b_Tune_setTicks 63 = .ok (.return_, 1) := by decide +kernel
def w_Tune_setTicks : List Cond := .code y_Tune_setTicks b_Tune_setTicks 3 none :: WALL
theorem g_Tune_setTicks : GoodIn WALL w_Tune_setTicks := good_of mc_Tune_setTicks
set_option maxHeartbeats 4000000 in
set_option maxRecDepth 100000 in
theorem c_Tune_setTicks (l : Launch) (D : va_G) (cA a : Nat → Nat) (sz : Nat) (x1 : Int32) (I : Nat → Int32) (A : Nat → Nat → Int32) (post : (Nat → Int32) → (Nat → Nat → Int32) → Prop) (h : wp_Tune_setTicks x1 I A post) : Met l y_Tune_setTicks w_Tune_setTicks ({ frames := 1, cells := 0, slots := 0, locals := 21 }) (va_Pc [.ref (a 3), .int x1] (PreC D cA a I A sz)) (va_Qv (fun (u : StW) => post u.1 u.2) (EndC D cA a) (AC a sz)) 0 0 (AC a sz) := by
  refine Met.ofW (cc := b_Tune_setTicks) (maxL := 3) (ret := none) (by decide) rfl ?_
  intro p e s m args below meth c s₁ B hml hv
  obtain ⟨rfl, hsz, hP, hK, hD0⟩ := hv
  have hx := B.exec
  have hb := B.bytes
  have hr := B.returns
  have hts := atoms_spec (ws := w_Tune_setTicks) B.pre
  have hw := wall_of hts
  have hown : s.vm.findClass R_Tune = some m.cls := findClass_of_methodNamed B.named
  have hlocks := B.notSynchronized
  subst hsz
  have hD := hDC (sz := s.heap.size) hD0
  have hA : ∀ q : Nat, s.heap.size ≤ q → AC a s.heap.size q := fun q h => Or.inr h
  have hS : va_S (AC a s.heap.size) s.heap s.heap [] := va_S.rf
  have j47 : ∀ n : Nat, ∀ (y2 : Int32) (I : Nat → Int32) (A : Nat → Nat → Int32) (H : Heap) (locs : List Loc) (ls : Array Slot), wp_Tune_setTicks_47 post n y2 I A → va_P D cls (wC cA a I A) H → va_S (AC a s.heap.size) s.heap H locs → lv_has ls 3 [(0, .ref (a 3)), (2, .int y2)] → W p l e (headSpec w_Tune_setTicks ({ frames := 1, cells := 0, slots := 0, locals := 21 })).room s m [.ref (a 3), .int x1].toArray below meth c H locs 0 0 (MQ below (va_Qv (fun (u : StW) => post u.1 u.2) (EndC D cA a) (AC a s.heap.size)) [.ref (a 3), .int x1].toArray s 0 0 (AC a s.heap.size)) (F0 m 47 ls []) := by
    intro n
    induction n with
    | zero =>
      intro y2 I A H locs ls h hP hS hl
      exact False.elim h
    | succ n ih =>
      intro y2 I A H locs ls h hP hS hl
      unfold wp_Tune_setTicks_47 at h
      refine lv_iload_n hx hb d_Tune_setTicks_47 rfl (lv_at hl 1 rfl) ?_
      refine lv_if_le (tgt := 63) hx hb d_Tune_setTicks_48 rfl (fun q => ?_) (fun q => ?_)
      · have h := h.1 q
        exact W.vret hx hb hr (fun t ht hW => ⟨⟨(I, A), rfl, h, endC_of ht hP⟩, hS.F ht⟩) hS.2.2 d_Tune_setTicks_63
      · have h := h.2 q
        refine lv_aload_n hx hb d_Tune_setTicks_51 rfl (lv_at hl 0 rfl) ?_
        refine lv_iconst (v := 1) hx hb d_Tune_setTicks_52 ic_1 ?_
        refine k_Tune_widen 1 (rest := []) ⟨hx, hb, hml, hown, hw⟩ hK hD hA hS hP hl.1 (hw _ m_Tune_50) (Nat.le_of_ble_eq_true rfl) ⟨Nat.le_of_ble_eq_true rfl, Nat.le_of_ble_eq_true rfl⟩ ⟨Nat.zero_le _, Nat.zero_le _⟩ d_Tune_setTicks_53 h (fun I53 A53 H locs h hP hS => ?_)
        refine lv_iload_n hx hb d_Tune_setTicks_56 rfl (lv_at hl 1 rfl) ?_
        refine lv_iconst (v := 2) hx hb d_Tune_setTicks_57 ic_2 ?_
        refine lv_idiv hx hb d_Tune_setTicks_58 (by decide) ?_
        refine lv_topi (fun v59 ev59 => ?_)
        have h := h v59 ev59
        refine lv_istore_n (lv' := [(2, .int v59), (0, .ref (a 3))]) hx hb d_Tune_setTicks_59 rfl hl (by decide) rfl (fun ls hl => ?_)
        refine lv_goto (tgt := 47) hx hb d_Tune_setTicks_60 rfl ?_
        exact ih v59 I53 A53 _ _ _ h hP hS (lv_sub hl [1, 0] rfl)
  have hl := lv_entry ([.ref (a 3), .int x1]) (n := 3) (Nat.le_of_ble_eq_true rfl)
  rw [lg_entry_eq]
  generalize (lg_sl ([.ref (a 3), .int x1]) ++ List.replicate (3 - (lg_sl ([.ref (a 3), .int x1])).length) Slot.unset).toArray = ls at hl ⊢
  have hl : lv_has ls 3 [(0, .ref (a 3)), (1, .int x1)] := hl
  unfold wp_Tune_setTicks at h
  refine lv_aload_n hx hb d_Tune_setTicks_0 rfl (lv_at hl 0 rfl) ?_
  refine gC_Tune_itemCount hx hb hw hown hK hP (hw _ m_Tune_44) d_Tune_setTicks_1 ?_
  refine lv_if_eq (tgt := 14) hx hb d_Tune_setTicks_4 rfl (fun q => ?_) (fun q => ?_)
  · have h := h.1 q
    exact W.vret hx hb hr (fun t ht hW => ⟨⟨(I, A), rfl, h, endC_of ht hP⟩, hS.F ht⟩) hS.2.2 d_Tune_setTicks_14
  · have h := h.2 q
    refine lv_aload_n hx hb d_Tune_setTicks_7 rfl (lv_at hl 0 rfl) ?_
    refine gC_Tune_barCount hx hb hw hown hK hP (hw _ m_Tune_40) d_Tune_setTicks_8 ?_
    refine lv_if_ne (tgt := 15) hx hb d_Tune_setTicks_11 rfl (fun q => ?_) (fun q => ?_)
    · have h := h.2 q
      refine lv_aload_n hx hb d_Tune_setTicks_15 rfl (lv_at hl 0 rfl) ?_
      refine gC_Tune_itemTicks hx hb hw hown hK hP (hw _ m_Tune_30) d_Tune_setTicks_16 ?_
      refine lv_aload_n hx hb d_Tune_setTicks_19 rfl (lv_at hl 0 rfl) ?_
      refine gC_Tune_itemCount hx hb hw hown hK hP (hw _ m_Tune_44) d_Tune_setTicks_20 ?_
      refine lv_iconst (v := 1) hx hb d_Tune_setTicks_23 ic_1 ?_
      refine lv_isub hx hb d_Tune_setTicks_24 ?_
      refine lv_iload_n hx hb d_Tune_setTicks_25 rfl (lv_at hl 1 rfl) ?_
      obtain ⟨hin, h⟩ := h
      refine sC10 hx hb hK hD hS hP hin d_Tune_setTicks_26 (fun H locs hP hS => ?_)
      refine lv_aload_n hx hb d_Tune_setTicks_27 rfl (lv_at hl 0 rfl) ?_
      refine gC_Tune_barTicks hx hb hw hown hK hP (hw _ m_Tune_18) d_Tune_setTicks_28 ?_
      refine lv_aload_n hx hb d_Tune_setTicks_31 rfl (lv_at hl 0 rfl) ?_
      refine gC_Tune_barCount hx hb hw hown hK hP (hw _ m_Tune_40) d_Tune_setTicks_32 ?_
      refine lv_iconst (v := 1) hx hb d_Tune_setTicks_35 ic_1 ?_
      refine lv_isub hx hb d_Tune_setTicks_36 ?_
      refine lv_dup2_11 hx hb d_Tune_setTicks_37 rfl rfl ?_
      obtain ⟨hin, h⟩ := h
      refine lC6 hx hb hK hP hin d_Tune_setTicks_38 ?_
      refine lv_iload_n hx hb d_Tune_setTicks_39 rfl (lv_at hl 1 rfl) ?_
      refine lv_iadd hx hb d_Tune_setTicks_40 ?_
      obtain ⟨hin, h⟩ := h
      refine sC6 hx hb hK hD hS hP hin d_Tune_setTicks_41 (fun H locs hP hS => ?_)
      refine lv_iload_n hx hb d_Tune_setTicks_42 rfl (lv_at hl 1 rfl) ?_
      refine lv_bipush (v := 48) hx hb d_Tune_setTicks_43 bp_48 ?_
      refine lv_idiv hx hb d_Tune_setTicks_45 (by decide) ?_
      refine lv_topi (fun v46 ev46 => ?_)
      have h := h v46 ev46
      refine lv_istore_n (lv' := [(2, .int v46), (0, .ref (a 3)), (1, .int x1)]) hx hb d_Tune_setTicks_46 rfl hl (by decide) rfl (fun ls hl => ?_)
      obtain ⟨n47, h⟩ := h
      exact j47 n47 v46 I (upd2 (upd2 A 10 (((I 1) - 1).toNatClampNeg) x1) 6 (((I 0) - 1).toNatClampNeg) ((A 6 (((I 0) - 1).toNatClampNeg)) + x1)) _ _ _ h hP hS (lv_sub hl [1, 0] rfl)
    · have h := h.1 q
      exact W.vret hx hb hr (fun t ht hW => ⟨⟨(I, A), rfl, h, endC_of ht hP⟩, hS.F ht⟩) hS.2.2 d_Tune_setTicks_14
theorem k_Tune_setTicks {p : Program} {l : Launch} {e : Env} {R : Room} {s : State} {m : MethodId} {args : Array Value} {below : List Frame} {meth : Method} {c : Code} {H : Heap} {locs : List Loc} {cells slots : Nat} {Q : State → Prop} {cc : ByteArray} {pc nL idx : Nat} {own : String} {ls : Array Slot} {D : va_G} {cA a : Nat → Nat} {AA : Nat → Prop} {I : Nat → Int32} {A : Nat → Nat → Int32} {post : (Nat → Int32) → (Nat → Nat → Int32) → Prop} (x1 : Int32) {rest : List Value} (S : CallFix p m c cc nL s args WALL own) (hK : KC D cA a AA s) (hD : ∀ I A, va_D AA (wC cA a I A)) (hA : ∀ q : Nat, s.heap.size ≤ q → AA q) (hS : va_S AA s.heap H locs) (hP : va_P D cls (wC cA a I A) H) (hl1 : ls.size = nL) (hlink : (Cond.methodLink own idx y_Tune_setTicks).before args s = true) (hst : (rest.map fun v => v.category).sum ≤ 8) (hR : ({ frames := 1, cells := 0, slots := 0, locals := 21 } : Room).frames + 1 ≤ R.frames ∧ 8 + (3 + 11) + ({ frames := 1, cells := 0, slots := 0, locals := 21 } : Room).locals ≤ R.locals) (hcs : cells ≤ R.cells ∧ slots ≤ R.slots) (hdg : decode cc pc = .ok (.invokevirtual idx, 3)) (h : wp_Tune_setTicks x1 I A post) (kk : ∀ (I1 : Nat → Int32) (A1 : Nat → Nat → Int32) (H1 : Heap) (locs1 : List Loc), post I1 A1 → va_P D cls (wC cA a I1 A1) H1 → va_S AA s.heap H1 locs1 → W p l e R s m args below meth c H1 locs1 cells slots Q (F0 m (pc + 3) ls rest)) : W p l e R s m args below meth c H locs cells slots Q (F0 m pc ls (.int x1 :: .ref (a 3) :: rest)) :=
  va_callv (va_runV (As := [.int x1]) (rest := rest) S (c_Tune_setTicks l D cA a H.size x1 I A post h) ⟨callB_of 1 S.2.2.2.2 g_Tune_setTicks rfl rfl rfl (S.2.2.2.2 _ mi_Tune) hlink ⟨by decide, by decide, by decide +kernel⟩ hR, S.2.2.2.2 _ mn_Tune_setTicks, S.2.2.2.2 _ ms_Tune_setTicks⟩ (preCV hK hD hA hS hP 3 rfl rfl) rfl rfl hl1 rfl (lv_room hst) hdg hcs) hS (fun q _ z => AC_le hD hA hS q z) (fun q z => AC_le hD hA hS q z) (fun u t H1 locs1 ht _ hp hB _ _ hS1 => kk u.1 u.2 H1 locs1 hp (of_endC ht hB) hS1)
def wp_Reader_fail (x1 : Int32) (x2 : Int32) (I : Nat → Int32) (A : Nat → Nat → Int32) (post : (Nat → Int32) → (Nat → Nat → Int32) → Prop) : Prop := post (upd (upd I 3 x1) 4 x2) A
theorem d_Reader_fail_0 : decode b_Reader_fail 0 = .ok (.aload_n 0, 1) := by decide +kernel
theorem d_Reader_fail_1 : decode b_Reader_fail 1 = .ok (.iload_n 1, 1) := by decide +kernel
theorem d_Reader_fail_2 : decode b_Reader_fail 2 = .ok (.putfield 49, 3) := by decide +kernel
theorem d_Reader_fail_5 : decode b_Reader_fail 5 = .ok (.aload_n 0, 1) := by decide +kernel
theorem d_Reader_fail_6 : decode b_Reader_fail 6 = .ok (.iload_n 2, 1) := by decide +kernel
theorem d_Reader_fail_7 : decode b_Reader_fail 7 = .ok (.putfield 52, 3) := by decide +kernel
theorem d_Reader_fail_10 : decode b_Reader_fail 10 = .ok (.return_, 1) := by decide +kernel
def w_Reader_fail : List Cond := .code y_Reader_fail b_Reader_fail 3 none :: WALL
theorem g_Reader_fail : GoodIn WALL w_Reader_fail := good_of mc_Reader_fail
set_option maxHeartbeats 4000000 in
set_option maxRecDepth 100000 in
theorem c_Reader_fail (l : Launch) (D : va_G) (cA a : Nat → Nat) (sz : Nat) (x1 : Int32) (x2 : Int32) (I : Nat → Int32) (A : Nat → Nat → Int32) (post : (Nat → Int32) → (Nat → Nat → Int32) → Prop) (h : wp_Reader_fail x1 x2 I A post) : Met l y_Reader_fail w_Reader_fail ({ frames := 0, cells := 0, slots := 0, locals := 0 }) (va_Pc [.ref (a 2), .int x1, .int x2] (PreC D cA a I A sz)) (va_Qv (fun (u : StW) => post u.1 u.2) (EndC D cA a) (AC a sz)) 0 0 (AC a sz) := by
  refine Met.ofW (cc := b_Reader_fail) (maxL := 3) (ret := none) (by decide) rfl ?_
  intro p e s m args below meth c s₁ B hml hv
  obtain ⟨rfl, hsz, hP, hK, hD0⟩ := hv
  have hx := B.exec
  have hb := B.bytes
  have hr := B.returns
  have hts := atoms_spec (ws := w_Reader_fail) B.pre
  have hw := wall_of hts
  have hown : s.vm.findClass R_Reader = some m.cls := findClass_of_methodNamed B.named
  have hlocks := B.notSynchronized
  subst hsz
  have hD := hDC (sz := s.heap.size) hD0
  have hA : ∀ q : Nat, s.heap.size ≤ q → AC a s.heap.size q := fun q h => Or.inr h
  have hS : va_S (AC a s.heap.size) s.heap s.heap [] := va_S.rf
  have hl := lv_entry ([.ref (a 2), .int x1, .int x2]) (n := 3) (Nat.le_of_ble_eq_true rfl)
  rw [lg_entry_eq]
  generalize (lg_sl ([.ref (a 2), .int x1, .int x2]) ++ List.replicate (3 - (lg_sl ([.ref (a 2), .int x1, .int x2])).length) Slot.unset).toArray = ls at hl ⊢
  have hl : lv_has ls 3 [(0, .ref (a 2)), (1, .int x1), (2, .int x2)] := hl
  unfold wp_Reader_fail at h
  refine lv_aload_n hx hb d_Reader_fail_0 rfl (lv_at hl 0 rfl) ?_
  refine lv_iload_n hx hb d_Reader_fail_1 rfl (lv_at hl 1 rfl) ?_
  refine pC_Reader_fault hx hb hw hown hK hD hS hP (hw _ m_Reader_49) d_Reader_fail_2 (fun H locs hP hS => ?_)
  refine lv_aload_n hx hb d_Reader_fail_5 rfl (lv_at hl 0 rfl) ?_
  refine lv_iload_n hx hb d_Reader_fail_6 rfl (lv_at hl 2 rfl) ?_
  refine pC_Reader_faultPlace hx hb hw hown hK hD hS hP (hw _ m_Reader_52) d_Reader_fail_7 (fun H locs hP hS => ?_)
  exact W.vret hx hb hr (fun t ht hW => ⟨⟨((upd (upd I 3 x1) 4 x2), A), rfl, h, endC_of ht hP⟩, hS.F ht⟩) hS.2.2 d_Reader_fail_10
theorem k_Reader_fail {p : Program} {l : Launch} {e : Env} {R : Room} {s : State} {m : MethodId} {args : Array Value} {below : List Frame} {meth : Method} {c : Code} {H : Heap} {locs : List Loc} {cells slots : Nat} {Q : State → Prop} {cc : ByteArray} {pc nL idx : Nat} {own : String} {ls : Array Slot} {D : va_G} {cA a : Nat → Nat} {AA : Nat → Prop} {I : Nat → Int32} {A : Nat → Nat → Int32} {post : (Nat → Int32) → (Nat → Nat → Int32) → Prop} (x1 : Int32) (x2 : Int32) {rest : List Value} (S : CallFix p m c cc nL s args WALL own) (hK : KC D cA a AA s) (hD : ∀ I A, va_D AA (wC cA a I A)) (hA : ∀ q : Nat, s.heap.size ≤ q → AA q) (hS : va_S AA s.heap H locs) (hP : va_P D cls (wC cA a I A) H) (hl1 : ls.size = nL) (hlink : (Cond.methodLink own idx y_Reader_fail).before args s = true) (hst : (rest.map fun v => v.category).sum ≤ 8) (hR : ({ frames := 0, cells := 0, slots := 0, locals := 0 } : Room).frames + 1 ≤ R.frames ∧ 8 + (3 + 11) + ({ frames := 0, cells := 0, slots := 0, locals := 0 } : Room).locals ≤ R.locals) (hcs : cells ≤ R.cells ∧ slots ≤ R.slots) (hdg : decode cc pc = .ok (.invokevirtual idx, 3)) (h : wp_Reader_fail x1 x2 I A post) (kk : ∀ (I1 : Nat → Int32) (A1 : Nat → Nat → Int32) (H1 : Heap) (locs1 : List Loc), post I1 A1 → va_P D cls (wC cA a I1 A1) H1 → va_S AA s.heap H1 locs1 → W p l e R s m args below meth c H1 locs1 cells slots Q (F0 m (pc + 3) ls rest)) : W p l e R s m args below meth c H locs cells slots Q (F0 m pc ls (.int x2 :: .int x1 :: .ref (a 2) :: rest)) :=
  va_callv (va_runV (As := [.int x1, .int x2]) (rest := rest) S (c_Reader_fail l D cA a H.size x1 x2 I A post h) ⟨callB_of 2 S.2.2.2.2 g_Reader_fail rfl rfl rfl (S.2.2.2.2 _ mi_Reader) hlink ⟨by decide, by decide, by decide +kernel⟩ hR, S.2.2.2.2 _ mn_Reader_fail, S.2.2.2.2 _ ms_Reader_fail⟩ (preCV hK hD hA hS hP 2 rfl rfl) rfl rfl hl1 rfl (lv_room hst) hdg hcs) hS (fun q _ z => AC_le hD hA hS q z) (fun q z => AC_le hD hA hS q z) (fun u t H1 locs1 ht _ hp hB _ _ hS1 => kk u.1 u.2 H1 locs1 hp (of_endC ht hB) hS1)
def wp_Reader_endItem_20 (post : (Nat → Int32) → (Nat → Nat → Int32) → Prop) (s0 : Int32) (s1 : Int32) (I : Nat → Int32) (A : Nat → Nat → Int32) : Prop := (wp_ItemLength_inTicks s1 s0 I A (fun r20 I20 A20 => ((r20 = 0 → (wp_Reader_fail (-3) (I20 15) I20 A20 (fun I35 A35 => post I35 A35))) ∧ (¬ r20 = 0 → (wp_Tune_setTicks r20 I20 A20 (fun I44 A44 => (((I44 17) ≤ 0 → post (upd I44 21 0) A44) ∧ (¬ (I44 17) ≤ 0 → post (upd (upd I44 21 0) 17 ((I44 17) - 1)) A44))))))))
def wp_Reader_endItem (I : Nat → Int32) (A : Nat → Nat → Int32) (post : (Nat → Int32) → (Nat → Nat → Int32) → Prop) : Prop := (((I 17) ≤ 0 → wp_Reader_endItem_20 post 0 (I 13) I A) ∧ (¬ (I 17) ≤ 0 → wp_Reader_endItem_20 post 1 (I 13) I A))
theorem d_Reader_endItem_0 : decode b_Reader_endItem 0 = .ok (.aload_n 0, 1) := by decide +kernel
theorem d_Reader_endItem_1 : decode b_Reader_endItem 1 = .ok (.getfield 28, 3) := by decide +kernel
theorem d_Reader_endItem_4 : decode b_Reader_endItem 4 = .ok (.aload_n 0, 1) := by decide +kernel
theorem d_Reader_endItem_5 : decode b_Reader_endItem 5 = .ok (.getfield 36, 3) := by decide +kernel
theorem d_Reader_endItem_8 : decode b_Reader_endItem 8 = .ok (.aload_n 0, 1) := by decide +kernel
theorem d_Reader_endItem_9 : decode b_Reader_endItem 9 = .ok (.getfield 61, 3) := by decide +kernel
theorem d_Reader_endItem_12 : decode b_Reader_endItem 12 = .ok (.ifCond .le 7, 3) := by decide +kernel
theorem d_Reader_endItem_15 : decode b_Reader_endItem 15 = .ok (.iconst 1, 1) := by decide +kernel
theorem d_Reader_endItem_16 : decode b_Reader_endItem 16 = .ok (.goto 4, 3) := by decide +kernel
theorem d_Reader_endItem_19 : decode b_Reader_endItem 19 = .ok (.iconst 0, 1) := by decide +kernel
theorem d_Reader_endItem_20 : decode b_Reader_endItem 20 = .ok (.invokevirtual 126, 3) := by decide +kernel
theorem d_Reader_endItem_23 : decode b_Reader_endItem 23 = .ok (.istore_n 1, 1) := by decide +kernel
theorem d_Reader_endItem_24 : decode b_Reader_endItem 24 = .ok (.iload_n 1, 1) := by decide +kernel
theorem d_Reader_endItem_25 : decode b_Reader_endItem 25 = .ok (.ifCond .ne 14, 3) := by decide +kernel
theorem d_Reader_endItem_28 : decode b_Reader_endItem 28 = .ok (.aload_n 0, 1) := by decide +kernel
theorem d_Reader_endItem_29 : decode b_Reader_endItem 29 = .ok (.bipush (-3), 2) := by decide +kernel
theorem d_Reader_endItem_31 : decode b_Reader_endItem 31 = .ok (.aload_n 0, 1) := by decide +kernel
theorem d_Reader_endItem_32 : decode b_Reader_endItem 32 = .ok (.getfield 80, 3) := by decide +kernel
theorem d_Reader_endItem_35 : decode b_Reader_endItem 35 = .ok (.invokevirtual 108, 3) := by decide +kernel
theorem d_Reader_endItem_38 : decode b_Reader_endItem 38 = .ok (.return_, 1) := by decide +kernel
theorem d_Reader_endItem_39 : decode b_Reader_endItem 39 = .ok (.aload_n 0, 1) := by decide +kernel
theorem d_Reader_endItem_40 : decode b_Reader_endItem 40 = .ok (.getfield 14, 3) := by decide +kernel
theorem d_Reader_endItem_43 : decode b_Reader_endItem 43 = .ok (.iload_n 1, 1) := by decide +kernel
theorem d_Reader_endItem_44 : decode b_Reader_endItem 44 = .ok (.invokevirtual 130, 3) := by decide +kernel
theorem d_Reader_endItem_47 : decode b_Reader_endItem 47 = .ok (.aload_n 0, 1) := by decide +kernel
theorem d_Reader_endItem_48 : decode b_Reader_endItem 48 = .ok (.iconst 0, 1) := by decide +kernel
theorem d_Reader_endItem_49 : decode b_Reader_endItem 49 = .ok (.putfield 74, 3) := by decide +kernel
theorem d_Reader_endItem_52 : decode b_Reader_endItem 52 = .ok (.aload_n 0, 1) := by decide +kernel
theorem d_Reader_endItem_53 : decode b_Reader_endItem 53 = .ok (.getfield 61, 3) := by decide +kernel
theorem d_Reader_endItem_56 : decode b_Reader_endItem 56 = .ok (.ifCond .le 13, 3) := by decide +kernel
theorem d_Reader_endItem_59 : decode b_Reader_endItem 59 = .ok (.aload_n 0, 1) := by decide +kernel
theorem d_Reader_endItem_60 : decode b_Reader_endItem 60 = .ok (.dup, 1) := by decide +kernel
theorem d_Reader_endItem_61 : decode b_Reader_endItem 61 = .ok (.getfield 61, 3) := by decide +kernel
theorem d_Reader_endItem_64 : decode b_Reader_endItem 64 = .ok (.iconst 1, 1) := by decide +kernel
theorem d_Reader_endItem_65 : decode b_Reader_endItem 65 = .ok (.isub, 1) := by decide +kernel
theorem d_Reader_endItem_66 : decode b_Reader_endItem 66 = .ok (.putfield 61, 3) := by decide +kernel
theorem d_Reader_endItem_69 : decode b_Reader_endItem 69 = .ok (.return_, 1) := by decide +kernel
def w_Reader_endItem : List Cond := .code y_Reader_endItem b_Reader_endItem 2 none :: WALL
theorem g_Reader_endItem : GoodIn WALL w_Reader_endItem := good_of mc_Reader_endItem
set_option maxHeartbeats 4000000 in
set_option maxRecDepth 100000 in
theorem c_Reader_endItem (l : Launch) (D : va_G) (cA a : Nat → Nat) (sz : Nat) (I : Nat → Int32) (A : Nat → Nat → Int32) (post : (Nat → Int32) → (Nat → Nat → Int32) → Prop) (h : wp_Reader_endItem I A post) : Met l y_Reader_endItem w_Reader_endItem ({ frames := 2, cells := 0, slots := 0, locals := 43 }) (va_Pc [.ref (a 2)] (PreC D cA a I A sz)) (va_Qv (fun (u : StW) => post u.1 u.2) (EndC D cA a) (AC a sz)) 0 0 (AC a sz) := by
  refine Met.ofW (cc := b_Reader_endItem) (maxL := 2) (ret := none) (by decide) rfl ?_
  intro p e s m args below meth c s₁ B hml hv
  obtain ⟨rfl, hsz, hP, hK, hD0⟩ := hv
  have hx := B.exec
  have hb := B.bytes
  have hr := B.returns
  have hts := atoms_spec (ws := w_Reader_endItem) B.pre
  have hw := wall_of hts
  have hown : s.vm.findClass R_Reader = some m.cls := findClass_of_methodNamed B.named
  have hlocks := B.notSynchronized
  subst hsz
  have hD := hDC (sz := s.heap.size) hD0
  have hA : ∀ q : Nat, s.heap.size ≤ q → AC a s.heap.size q := fun q h => Or.inr h
  have hS : va_S (AC a s.heap.size) s.heap s.heap [] := va_S.rf
  have j20 : ∀ (s0 : Int32) (s1 : Int32) (I : Nat → Int32) (A : Nat → Nat → Int32) (H : Heap) (locs : List Loc) (ls : Array Slot), wp_Reader_endItem_20 post s0 s1 I A → va_P D cls (wC cA a I A) H → va_S (AC a s.heap.size) s.heap H locs → lv_has ls 2 [(0, .ref (a 2))] → W p l e (headSpec w_Reader_endItem ({ frames := 2, cells := 0, slots := 0, locals := 43 })).room s m [.ref (a 2)].toArray below meth c H locs 0 0 (MQ below (va_Qv (fun (u : StW) => post u.1 u.2) (EndC D cA a) (AC a s.heap.size)) [.ref (a 2)].toArray s 0 0 (AC a s.heap.size)) (F0 m 20 ls [.int s0, .int s1, .ref (a 15)]) := by
    intro s0 s1 I A H locs ls h hP hS hl
    unfold wp_Reader_endItem_20 at h
    refine k_ItemLength_inTicks s1 s0 (rest := []) ⟨hx, hb, hml, hown, hw⟩ hK hD hA hS hP hl.1 (hw _ m_Reader_126) (Nat.le_of_ble_eq_true rfl) ⟨Nat.le_of_ble_eq_true rfl, Nat.le_of_ble_eq_true rfl⟩ ⟨Nat.zero_le _, Nat.zero_le _⟩ d_Reader_endItem_20 h (fun r20 I20 A20 H locs h hP hS => ?_)
    refine lv_istore_n (lv' := [(1, .int r20), (0, .ref (a 2))]) hx hb d_Reader_endItem_23 rfl hl (by decide) rfl (fun ls hl => ?_)
    refine lv_iload_n hx hb d_Reader_endItem_24 rfl (lv_at hl 0 rfl) ?_
    refine lv_if_ne (tgt := 39) hx hb d_Reader_endItem_25 rfl (fun q => ?_) (fun q => ?_)
    · have h := h.2 q
      refine lv_aload_n hx hb d_Reader_endItem_39 rfl (lv_at hl 1 rfl) ?_
      refine gC_Reader_tune hx hb hw hown hK hP (hw _ m_Reader_14) d_Reader_endItem_40 ?_
      refine lv_iload_n hx hb d_Reader_endItem_43 rfl (lv_at hl 0 rfl) ?_
      refine k_Tune_setTicks r20 (rest := []) ⟨hx, hb, hml, hown, hw⟩ hK hD hA hS hP hl.1 (hw _ m_Reader_130) (Nat.le_of_ble_eq_true rfl) ⟨Nat.le_of_ble_eq_true rfl, Nat.le_of_ble_eq_true rfl⟩ ⟨Nat.zero_le _, Nat.zero_le _⟩ d_Reader_endItem_44 h (fun I44 A44 H locs h hP hS => ?_)
      refine lv_aload_n hx hb d_Reader_endItem_47 rfl (lv_at hl 1 rfl) ?_
      refine lv_iconst (v := 0) hx hb d_Reader_endItem_48 ic_0 ?_
      refine pC_Reader_inItem hx hb hw hown hK hD hS hP (hw _ m_Reader_74) vz0 d_Reader_endItem_49 (fun H locs hP hS => ?_)
      refine lv_aload_n hx hb d_Reader_endItem_52 rfl (lv_at hl 1 rfl) ?_
      refine gC_Reader_tripletLeft hx hb hw hown hK hP (hw _ m_Reader_61) d_Reader_endItem_53 ?_
      refine lv_if_le (tgt := 69) hx hb d_Reader_endItem_56 rfl (fun q => ?_) (fun q => ?_)
      · have h := h.1 q
        exact W.vret hx hb hr (fun t ht hW => ⟨⟨((upd I44 21 0), A44), rfl, h, endC_of ht hP⟩, hS.F ht⟩) hS.2.2 d_Reader_endItem_69
      · have h := h.2 q
        refine lv_aload_n hx hb d_Reader_endItem_59 rfl (lv_at hl 1 rfl) ?_
        refine lv_dup hx hb d_Reader_endItem_60 rfl ?_
        refine gC_Reader_tripletLeft hx hb hw hown hK hP (hw _ m_Reader_61) d_Reader_endItem_61 ?_
        refine lv_iconst (v := 1) hx hb d_Reader_endItem_64 ic_1 ?_
        refine lv_isub hx hb d_Reader_endItem_65 ?_
        refine pC_Reader_tripletLeft hx hb hw hown hK hD hS hP (hw _ m_Reader_61) d_Reader_endItem_66 (fun H locs hP hS => ?_)
        exact W.vret hx hb hr (fun t ht hW => ⟨⟨((upd (upd I44 21 0) 17 ((I44 17) - 1)), A44), rfl, h, endC_of ht hP⟩, hS.F ht⟩) hS.2.2 d_Reader_endItem_69
    · have h := h.1 q
      refine lv_aload_n hx hb d_Reader_endItem_28 rfl (lv_at hl 1 rfl) ?_
      refine lv_bipush (v := (-3)) hx hb d_Reader_endItem_29 bp_m3 ?_
      refine lv_aload_n hx hb d_Reader_endItem_31 rfl (lv_at hl 1 rfl) ?_
      refine gC_Reader_spot hx hb hw hown hK hP (hw _ m_Reader_80) d_Reader_endItem_32 ?_
      refine k_Reader_fail (-3) (I20 15) (rest := []) ⟨hx, hb, hml, hown, hw⟩ hK hD hA hS hP hl.1 (hw _ m_Reader_108) (Nat.le_of_ble_eq_true rfl) ⟨Nat.le_of_ble_eq_true rfl, Nat.le_of_ble_eq_true rfl⟩ ⟨Nat.zero_le _, Nat.zero_le _⟩ d_Reader_endItem_35 h (fun I35 A35 H locs h hP hS => ?_)
      exact W.vret hx hb hr (fun t ht hW => ⟨⟨(I35, A35), rfl, h, endC_of ht hP⟩, hS.F ht⟩) hS.2.2 d_Reader_endItem_38
  have hl := lv_entry ([.ref (a 2)]) (n := 2) (Nat.le_of_ble_eq_true rfl)
  rw [lg_entry_eq]
  generalize (lg_sl ([.ref (a 2)]) ++ List.replicate (2 - (lg_sl ([.ref (a 2)])).length) Slot.unset).toArray = ls at hl ⊢
  have hl : lv_has ls 2 [(0, .ref (a 2))] := hl
  unfold wp_Reader_endItem at h
  refine lv_aload_n hx hb d_Reader_endItem_0 rfl (lv_at hl 0 rfl) ?_
  refine gC_Reader_itemLength hx hb hw hown hK hP (hw _ m_Reader_28) d_Reader_endItem_1 ?_
  refine lv_aload_n hx hb d_Reader_endItem_4 rfl (lv_at hl 0 rfl) ?_
  refine gC_Reader_unitTicks hx hb hw hown hK hP (hw _ m_Reader_36) d_Reader_endItem_5 ?_
  refine lv_aload_n hx hb d_Reader_endItem_8 rfl (lv_at hl 0 rfl) ?_
  refine gC_Reader_tripletLeft hx hb hw hown hK hP (hw _ m_Reader_61) d_Reader_endItem_9 ?_
  refine lv_if_le (tgt := 19) hx hb d_Reader_endItem_12 rfl (fun q => ?_) (fun q => ?_)
  · have h := h.1 q
    refine lv_iconst (v := 0) hx hb d_Reader_endItem_19 ic_0 ?_
    exact j20 0 (I 13) I A _ _ _ h hP hS (lv_sub hl [0] rfl)
  · have h := h.2 q
    refine lv_iconst (v := 1) hx hb d_Reader_endItem_15 ic_1 ?_
    refine lv_goto (tgt := 20) hx hb d_Reader_endItem_16 rfl ?_
    exact j20 1 (I 13) I A _ _ _ h hP hS (lv_sub hl [0] rfl)
theorem k_Reader_endItem {p : Program} {l : Launch} {e : Env} {R : Room} {s : State} {m : MethodId} {args : Array Value} {below : List Frame} {meth : Method} {c : Code} {H : Heap} {locs : List Loc} {cells slots : Nat} {Q : State → Prop} {cc : ByteArray} {pc nL idx : Nat} {own : String} {ls : Array Slot} {D : va_G} {cA a : Nat → Nat} {AA : Nat → Prop} {I : Nat → Int32} {A : Nat → Nat → Int32} {post : (Nat → Int32) → (Nat → Nat → Int32) → Prop} {rest : List Value} (S : CallFix p m c cc nL s args WALL own) (hK : KC D cA a AA s) (hD : ∀ I A, va_D AA (wC cA a I A)) (hA : ∀ q : Nat, s.heap.size ≤ q → AA q) (hS : va_S AA s.heap H locs) (hP : va_P D cls (wC cA a I A) H) (hl1 : ls.size = nL) (hlink : (Cond.methodLink own idx y_Reader_endItem).before args s = true) (hst : (rest.map fun v => v.category).sum ≤ 8) (hR : ({ frames := 2, cells := 0, slots := 0, locals := 43 } : Room).frames + 1 ≤ R.frames ∧ 8 + (2 + 11) + ({ frames := 2, cells := 0, slots := 0, locals := 43 } : Room).locals ≤ R.locals) (hcs : cells ≤ R.cells ∧ slots ≤ R.slots) (hdg : decode cc pc = .ok (.invokevirtual idx, 3)) (h : wp_Reader_endItem I A post) (kk : ∀ (I1 : Nat → Int32) (A1 : Nat → Nat → Int32) (H1 : Heap) (locs1 : List Loc), post I1 A1 → va_P D cls (wC cA a I1 A1) H1 → va_S AA s.heap H1 locs1 → W p l e R s m args below meth c H1 locs1 cells slots Q (F0 m (pc + 3) ls rest)) : W p l e R s m args below meth c H locs cells slots Q (F0 m pc ls (.ref (a 2) :: rest)) :=
  va_callv (va_runV (As := []) (rest := rest) S (c_Reader_endItem l D cA a H.size I A post h) ⟨callB_of 0 S.2.2.2.2 g_Reader_endItem rfl rfl rfl (S.2.2.2.2 _ mi_Reader) hlink ⟨by decide, by decide, by decide +kernel⟩ hR, S.2.2.2.2 _ mn_Reader_endItem, S.2.2.2.2 _ ms_Reader_endItem⟩ (preCV hK hD hA hS hP 2 rfl rfl) rfl rfl hl1 rfl (lv_room hst) hdg hcs) hS (fun q _ z => AC_le hD hA hS q z) (fun q z => AC_le hD hA hS q z) (fun u t H1 locs1 ht _ hp hB _ _ hS1 => kk u.1 u.2 H1 locs1 hp (of_endC ht hB) hS1)
def wp_PitchFinder_keySign (I : Nat → Int32) (A : Nat → Nat → Int32) (post : Int32 → (Nat → Int32) → (Nat → Nat → Int32) → Prop) : Prop := (((I 7) < 0 → post 0 I A) ∧ (¬ (I 7) < 0 → (((I 7) < 7 → (vp_in (I 7) 7 ∧ (∀ v28 : Int32, v28 = tb_PLACE_AMONG_SHARPS (I 7).toNatClampNeg → (((I 5) ≤ v28 → (((-(I 5)) ≤ ((6 : Int32) - v28) → post 0 I A) ∧ (¬ (-(I 5)) ≤ ((6 : Int32) - v28) → post (-1) I A))) ∧ (¬ (I 5) ≤ v28 → post 1 I A))))) ∧ (¬ (I 7) < 7 → post 0 I A))))
theorem d_PitchFinder_keySign_0 : decode b_PitchFinder_keySign 0 = .ok (.aload_n 0, 1) := by decide +kernel
theorem d_PitchFinder_keySign_1 : decode b_PitchFinder_keySign 1 = .ok (.getfield 26, 3) := by decide +kernel
theorem d_PitchFinder_keySign_4 : decode b_PitchFinder_keySign 4 = .ok (.ifCond .lt 14, 3) := by decide +kernel
theorem d_PitchFinder_keySign_7 : decode b_PitchFinder_keySign 7 = .ok (.aload_n 0, 1) := by decide +kernel
theorem d_PitchFinder_keySign_8 : decode b_PitchFinder_keySign 8 = .ok (.getfield 26, 3) := by decide +kernel
theorem d_PitchFinder_keySign_11 : decode b_PitchFinder_keySign 11 = .ok (.getstatic 39, 3) := by decide +kernel
theorem d_PitchFinder_keySign_14 : decode b_PitchFinder_keySign 14 = .ok (.arraylength, 1) := by decide +kernel
theorem d_PitchFinder_keySign_15 : decode b_PitchFinder_keySign 15 = .ok (.if_icmp .lt 5, 3) := by decide +kernel
theorem d_PitchFinder_keySign_18 : decode b_PitchFinder_keySign 18 = .ok (.iconst 0, 1) := by decide +kernel
theorem d_PitchFinder_keySign_19 : decode b_PitchFinder_keySign 19 = .ok (.ireturn, 1) := by decide +kernel
theorem d_PitchFinder_keySign_20 : decode b_PitchFinder_keySign 20 = .ok (.getstatic 39, 3) := by decide +kernel
theorem d_PitchFinder_keySign_23 : decode b_PitchFinder_keySign 23 = .ok (.aload_n 0, 1) := by decide +kernel
theorem d_PitchFinder_keySign_24 : decode b_PitchFinder_keySign 24 = .ok (.getfield 26, 3) := by decide +kernel
theorem d_PitchFinder_keySign_27 : decode b_PitchFinder_keySign 27 = .ok (.iaload, 1) := by decide +kernel
theorem d_PitchFinder_keySign_28 : decode b_PitchFinder_keySign 28 = .ok (.istore_n 1, 1) := by decide +kernel
theorem d_PitchFinder_keySign_29 : decode b_PitchFinder_keySign 29 = .ok (.iload_n 1, 1) := by decide +kernel
theorem d_PitchFinder_keySign_30 : decode b_PitchFinder_keySign 30 = .ok (.aload_n 0, 1) := by decide +kernel
theorem d_PitchFinder_keySign_31 : decode b_PitchFinder_keySign 31 = .ok (.getfield 17, 3) := by decide +kernel
theorem d_PitchFinder_keySign_34 : decode b_PitchFinder_keySign 34 = .ok (.if_icmp .ge 7, 3) := by decide +kernel
theorem d_PitchFinder_keySign_37 : decode b_PitchFinder_keySign 37 = .ok (.iconst 1, 1) := by decide +kernel
theorem d_PitchFinder_keySign_38 : decode b_PitchFinder_keySign 38 = .ok (.goto 20, 3) := by decide +kernel
theorem d_PitchFinder_keySign_41 : decode b_PitchFinder_keySign 41 = .ok (.bipush 6, 2) := by decide +kernel
theorem d_PitchFinder_keySign_43 : decode b_PitchFinder_keySign 43 = .ok (.iload_n 1, 1) := by decide +kernel
theorem d_PitchFinder_keySign_44 : decode b_PitchFinder_keySign 44 = .ok (.isub, 1) := by decide +kernel
theorem d_PitchFinder_keySign_45 : decode b_PitchFinder_keySign 45 = .ok (.aload_n 0, 1) := by decide +kernel
theorem d_PitchFinder_keySign_46 : decode b_PitchFinder_keySign 46 = .ok (.getfield 17, 3) := by decide +kernel
theorem d_PitchFinder_keySign_49 : decode b_PitchFinder_keySign 49 = .ok (.ineg, 1) := by decide +kernel
theorem d_PitchFinder_keySign_50 : decode b_PitchFinder_keySign 50 = .ok (.if_icmp .ge 7, 3) := by decide +kernel
theorem d_PitchFinder_keySign_53 : decode b_PitchFinder_keySign 53 = .ok (.iconst (-1), 1) := by decide +kernel
theorem d_PitchFinder_keySign_54 : decode b_PitchFinder_keySign 54 = .ok (.goto 4, 3) := by decide +kernel
theorem d_PitchFinder_keySign_57 : decode b_PitchFinder_keySign 57 = .ok (.iconst 0, 1) := by decide +kernel
theorem d_PitchFinder_keySign_58 : decode b_PitchFinder_keySign 58 = .ok (.ireturn, 1) := by decide +kernel
def w_PitchFinder_keySign : List Cond := .code y_PitchFinder_keySign b_PitchFinder_keySign 2 (some .int) :: WALL
theorem g_PitchFinder_keySign : GoodIn WALL w_PitchFinder_keySign := good_of mc_PitchFinder_keySign
set_option maxHeartbeats 4000000 in
set_option maxRecDepth 100000 in
theorem c_PitchFinder_keySign (l : Launch) (D : va_G) (cA a : Nat → Nat) (sz : Nat) (I : Nat → Int32) (A : Nat → Nat → Int32) (post : Int32 → (Nat → Int32) → (Nat → Nat → Int32) → Prop) (h : wp_PitchFinder_keySign I A post) : Met l y_PitchFinder_keySign w_PitchFinder_keySign ({ frames := 0, cells := 0, slots := 0, locals := 0 }) (va_Pc [.ref (a 13)] (PreC D cA a I A sz)) (va_Qi (fun r (u : StW) => post r u.1 u.2) (EndC D cA a) (AC a sz)) 0 0 (AC a sz) := by
  refine Met.ofW (cc := b_PitchFinder_keySign) (maxL := 2) (ret := (some .int)) (by decide) rfl ?_
  intro p e s m args below meth c s₁ B hml hv
  obtain ⟨rfl, hsz, hP, hK, hD0⟩ := hv
  have hx := B.exec
  have hb := B.bytes
  have hr := B.returns
  have hts := atoms_spec (ws := w_PitchFinder_keySign) B.pre
  have hw := wall_of hts
  have hown : s.vm.findClass R_PitchFinder = some m.cls := findClass_of_methodNamed B.named
  have hlocks := B.notSynchronized
  subst hsz
  have hD := hDC (sz := s.heap.size) hD0
  have hA : ∀ q : Nat, s.heap.size ≤ q → AC a s.heap.size q := fun q h => Or.inr h
  have hS : va_S (AC a s.heap.size) s.heap s.heap [] := va_S.rf
  have hl := lv_entry ([.ref (a 13)]) (n := 2) (Nat.le_of_ble_eq_true rfl)
  rw [lg_entry_eq]
  generalize (lg_sl ([.ref (a 13)]) ++ List.replicate (2 - (lg_sl ([.ref (a 13)])).length) Slot.unset).toArray = ls at hl ⊢
  have hl : lv_has ls 2 [(0, .ref (a 13))] := hl
  unfold wp_PitchFinder_keySign at h
  refine lv_aload_n hx hb d_PitchFinder_keySign_0 rfl (lv_at hl 0 rfl) ?_
  refine gC_PitchFinder_letter hx hb hw hown hK hP (hw _ m_PitchFinder_26) d_PitchFinder_keySign_1 ?_
  refine lv_if_lt (tgt := 18) hx hb d_PitchFinder_keySign_4 rfl (fun q => ?_) (fun q => ?_)
  · have h := h.1 q
    refine lv_iconst (v := 0) hx hb d_PitchFinder_keySign_18 ic_0 ?_
    exact W.iret hx hb hr (fun t ht hW => ⟨⟨_, (I, A), rfl, h, endC_of ht hP⟩, hS.F ht⟩) hS.2.2 d_PitchFinder_keySign_19
  · have h := h.2 q
    refine lv_aload_n hx hb d_PitchFinder_keySign_7 rfl (lv_at hl 0 rfl) ?_
    refine gC_PitchFinder_letter hx hb hw hown hK hP (hw _ m_PitchFinder_26) d_PitchFinder_keySign_8 ?_
    refine zC_PLACE_AMONG_SHARPS hx hb hown hK hS (hw _ m_PitchFinder_39) d_PitchFinder_keySign_11 ?_
    refine tlC_PLACE_AMONG_SHARPS hx hb hK hS d_PitchFinder_keySign_14 ?_
    refine lv_icmp_lt (tgt := 20) hx hb d_PitchFinder_keySign_15 rfl (fun q => ?_) (fun q => ?_)
    · have h := h.1 q
      refine zC_PLACE_AMONG_SHARPS hx hb hown hK hS (hw _ m_PitchFinder_39) d_PitchFinder_keySign_20 ?_
      refine lv_aload_n hx hb d_PitchFinder_keySign_23 rfl (lv_at hl 0 rfl) ?_
      refine gC_PitchFinder_letter hx hb hw hown hK hP (hw _ m_PitchFinder_26) d_PitchFinder_keySign_24 ?_
      obtain ⟨hin, h⟩ := h
      refine tC_PLACE_AMONG_SHARPS hx hb hK hS hin d_PitchFinder_keySign_27 ?_
      refine lv_topi (fun v28 ev28 => ?_)
      have h := h v28 ev28
      refine lv_istore_n (lv' := [(1, .int v28), (0, .ref (a 13))]) hx hb d_PitchFinder_keySign_28 rfl hl (by decide) rfl (fun ls hl => ?_)
      refine lv_iload_n hx hb d_PitchFinder_keySign_29 rfl (lv_at hl 0 rfl) ?_
      refine lv_aload_n hx hb d_PitchFinder_keySign_30 rfl (lv_at hl 1 rfl) ?_
      refine gC_PitchFinder_sharps hx hb hw hown hK hP (hw _ m_PitchFinder_17) d_PitchFinder_keySign_31 ?_
      refine lv_icmp_ge (tgt := 41) hx hb d_PitchFinder_keySign_34 rfl (fun q => ?_) (fun q => ?_)
      · have h := h.1 q
        refine lv_bipush (v := 6) hx hb d_PitchFinder_keySign_41 bp_6 ?_
        refine lv_iload_n hx hb d_PitchFinder_keySign_43 rfl (lv_at hl 0 rfl) ?_
        refine lv_isub hx hb d_PitchFinder_keySign_44 ?_
        refine lv_aload_n hx hb d_PitchFinder_keySign_45 rfl (lv_at hl 1 rfl) ?_
        refine gC_PitchFinder_sharps hx hb hw hown hK hP (hw _ m_PitchFinder_17) d_PitchFinder_keySign_46 ?_
        refine lv_ineg hx hb d_PitchFinder_keySign_49 ?_
        refine lv_icmp_ge (tgt := 57) hx hb d_PitchFinder_keySign_50 rfl (fun q => ?_) (fun q => ?_)
        · have h := h.1 q
          refine lv_iconst (v := 0) hx hb d_PitchFinder_keySign_57 ic_0 ?_
          exact W.iret hx hb hr (fun t ht hW => ⟨⟨_, (I, A), rfl, h, endC_of ht hP⟩, hS.F ht⟩) hS.2.2 d_PitchFinder_keySign_58
        · have h := h.2 q
          refine lv_iconst (v := (-1)) hx hb d_PitchFinder_keySign_53 ic_m1 ?_
          refine lv_goto (tgt := 58) hx hb d_PitchFinder_keySign_54 rfl ?_
          exact W.iret hx hb hr (fun t ht hW => ⟨⟨_, (I, A), rfl, h, endC_of ht hP⟩, hS.F ht⟩) hS.2.2 d_PitchFinder_keySign_58
      · have h := h.2 q
        refine lv_iconst (v := 1) hx hb d_PitchFinder_keySign_37 ic_1 ?_
        refine lv_goto (tgt := 58) hx hb d_PitchFinder_keySign_38 rfl ?_
        exact W.iret hx hb hr (fun t ht hW => ⟨⟨_, (I, A), rfl, h, endC_of ht hP⟩, hS.F ht⟩) hS.2.2 d_PitchFinder_keySign_58
    · have h := h.2 q
      refine lv_iconst (v := 0) hx hb d_PitchFinder_keySign_18 ic_0 ?_
      exact W.iret hx hb hr (fun t ht hW => ⟨⟨_, (I, A), rfl, h, endC_of ht hP⟩, hS.F ht⟩) hS.2.2 d_PitchFinder_keySign_19
theorem k_PitchFinder_keySign {p : Program} {l : Launch} {e : Env} {R : Room} {s : State} {m : MethodId} {args : Array Value} {below : List Frame} {meth : Method} {c : Code} {H : Heap} {locs : List Loc} {cells slots : Nat} {Q : State → Prop} {cc : ByteArray} {pc nL idx : Nat} {own : String} {ls : Array Slot} {D : va_G} {cA a : Nat → Nat} {AA : Nat → Prop} {I : Nat → Int32} {A : Nat → Nat → Int32} {post : Int32 → (Nat → Int32) → (Nat → Nat → Int32) → Prop} {rest : List Value} (S : CallFix p m c cc nL s args WALL own) (hK : KC D cA a AA s) (hD : ∀ I A, va_D AA (wC cA a I A)) (hA : ∀ q : Nat, s.heap.size ≤ q → AA q) (hS : va_S AA s.heap H locs) (hP : va_P D cls (wC cA a I A) H) (hl1 : ls.size = nL) (hlink : (Cond.methodLink own idx y_PitchFinder_keySign).before args s = true) (hst : (rest.map fun v => v.category).sum ≤ 8) (hR : ({ frames := 0, cells := 0, slots := 0, locals := 0 } : Room).frames + 1 ≤ R.frames ∧ 8 + (2 + 11) + ({ frames := 0, cells := 0, slots := 0, locals := 0 } : Room).locals ≤ R.locals) (hcs : cells ≤ R.cells ∧ slots ≤ R.slots) (hdg : decode cc pc = .ok (.invokevirtual idx, 3)) (h : wp_PitchFinder_keySign I A post) (kk : ∀ (r : Int32) (I1 : Nat → Int32) (A1 : Nat → Nat → Int32) (H1 : Heap) (locs1 : List Loc), post r I1 A1 → va_P D cls (wC cA a I1 A1) H1 → va_S AA s.heap H1 locs1 → W p l e R s m args below meth c H1 locs1 cells slots Q (F0 m (pc + 3) ls (.int r :: rest))) : W p l e R s m args below meth c H locs cells slots Q (F0 m pc ls (.ref (a 13) :: rest)) :=
  va_calli (va_runV (As := []) (rest := rest) S (c_PitchFinder_keySign l D cA a H.size I A post h) ⟨callB_of 0 S.2.2.2.2 g_PitchFinder_keySign rfl rfl rfl (S.2.2.2.2 _ mi_PitchFinder) hlink ⟨by decide, by decide, by decide +kernel⟩ hR, S.2.2.2.2 _ mn_PitchFinder_keySign, S.2.2.2.2 _ ms_PitchFinder_keySign⟩ (preCV hK hD hA hS hP 13 rfl rfl) rfl rfl hl1 rfl (lv_room hst) hdg hcs) hS (fun q _ z => AC_le hD hA hS q z) (fun q z => AC_le hD hA hS q z) (fun r u t H1 locs1 ht _ hp hB _ _ hS1 => kk r u.1 u.2 H1 locs1 hp (of_endC ht hB) hS1)
def wp_PitchFinder_endPitch_71 (post : Int32 → (Nat → Int32) → (Nat → Nat → Int32) → Prop) (I : Nat → Int32) (A : Nat → Nat → Int32) : Prop := (((I 6) = 99 → (wp_PitchFinder_keySign I A (fun r85 I85 A85 => (∀ v96 : Int32, v96 = (I 8) + r85 → post v96 (upd I85 6 99) A85)))) ∧ (¬ (I 6) = 99 → (∀ v96 : Int32, v96 = (I 8) + (I 6) → post v96 (upd I 6 99) A)))
def wp_PitchFinder_endPitch_48 (post : Int32 → (Nat → Int32) → (Nat → Nat → Int32) → Prop) (y1 : Int32) (y2 : Int32) (I : Nat → Int32) (A : Nat → Nat → Int32) : Prop := (((I 6) = 99 → ((y2 = 0 → wp_PitchFinder_endPitch_71 post I A) ∧ (¬ y2 = 0 → (vp_in y1 132 ∧ wp_PitchFinder_endPitch_71 post (upd I 6 (A 14 (y1.toNatClampNeg))) A)))) ∧ (¬ (I 6) = 99 → wp_PitchFinder_endPitch_71 post I A))
def wp_PitchFinder_endPitch_24 (post : Int32 → (Nat → Int32) → (Nat → Nat → Int32) → Prop) (y1 : Int32) (s0 : Int32) (I : Nat → Int32) (A : Nat → Nat → Int32) : Prop := (((I 6) = 99 → wp_PitchFinder_endPitch_48 post y1 s0 I A) ∧ (¬ (I 6) = 99 → ((s0 = 0 → wp_PitchFinder_endPitch_48 post y1 s0 I A) ∧ (¬ s0 = 0 → (vp_in y1 132 ∧ wp_PitchFinder_endPitch_48 post y1 s0 I (upd2 A 14 (y1.toNatClampNeg) (I 6)))))))
def wp_PitchFinder_endPitch (I : Nat → Int32) (A : Nat → Nat → Int32) (post : Int32 → (Nat → Int32) → (Nat → Nat → Int32) → Prop) : Prop := (∀ v7 : Int32, v7 = (I 8) - (-2) → ((v7 < 0 → wp_PitchFinder_endPitch_24 post v7 0 I A) ∧ (¬ v7 < 0 → ((132 ≤ v7 → wp_PitchFinder_endPitch_24 post v7 0 I A) ∧ (¬ 132 ≤ v7 → wp_PitchFinder_endPitch_24 post v7 1 I A)))))
theorem d_PitchFinder_endPitch_0 : decode b_PitchFinder_endPitch 0 = .ok (.aload_n 0, 1) := by decide +kernel
theorem d_PitchFinder_endPitch_1 : decode b_PitchFinder_endPitch 1 = .ok (.getfield 32, 3) := by decide +kernel
theorem d_PitchFinder_endPitch_4 : decode b_PitchFinder_endPitch 4 = .ok (.bipush (-2), 2) := by decide +kernel
theorem d_PitchFinder_endPitch_6 : decode b_PitchFinder_endPitch 6 = .ok (.isub, 1) := by decide +kernel
theorem d_PitchFinder_endPitch_7 : decode b_PitchFinder_endPitch 7 = .ok (.istore_n 1, 1) := by decide +kernel
theorem d_PitchFinder_endPitch_8 : decode b_PitchFinder_endPitch 8 = .ok (.iload_n 1, 1) := by decide +kernel
theorem d_PitchFinder_endPitch_9 : decode b_PitchFinder_endPitch 9 = .ok (.ifCond .lt 14, 3) := by decide +kernel
theorem d_PitchFinder_endPitch_12 : decode b_PitchFinder_endPitch 12 = .ok (.iload_n 1, 1) := by decide +kernel
theorem d_PitchFinder_endPitch_13 : decode b_PitchFinder_endPitch 13 = .ok (.sipush 132, 3) := by decide +kernel
theorem d_PitchFinder_endPitch_16 : decode b_PitchFinder_endPitch 16 = .ok (.if_icmp .ge 7, 3) := by decide +kernel
theorem d_PitchFinder_endPitch_19 : decode b_PitchFinder_endPitch 19 = .ok (.iconst 1, 1) := by decide +kernel
theorem d_PitchFinder_endPitch_20 : decode b_PitchFinder_endPitch 20 = .ok (.goto 4, 3) := by decide +kernel
theorem d_PitchFinder_endPitch_23 : decode b_PitchFinder_endPitch 23 = .ok (.iconst 0, 1) := by decide +kernel
theorem d_PitchFinder_endPitch_24 : decode b_PitchFinder_endPitch 24 = .ok (.istore_n 2, 1) := by decide +kernel
theorem d_PitchFinder_endPitch_25 : decode b_PitchFinder_endPitch 25 = .ok (.aload_n 0, 1) := by decide +kernel
theorem d_PitchFinder_endPitch_26 : decode b_PitchFinder_endPitch 26 = .ok (.getfield 13, 3) := by decide +kernel
theorem d_PitchFinder_endPitch_29 : decode b_PitchFinder_endPitch 29 = .ok (.bipush 99, 2) := by decide +kernel
theorem d_PitchFinder_endPitch_31 : decode b_PitchFinder_endPitch 31 = .ok (.if_icmp .eq 17, 3) := by decide +kernel
theorem d_PitchFinder_endPitch_34 : decode b_PitchFinder_endPitch 34 = .ok (.iload_n 2, 1) := by decide +kernel
theorem d_PitchFinder_endPitch_35 : decode b_PitchFinder_endPitch 35 = .ok (.ifCond .eq 13, 3) := by decide +kernel
theorem d_PitchFinder_endPitch_38 : decode b_PitchFinder_endPitch 38 = .ok (.aload_n 0, 1) := by decide +kernel
theorem d_PitchFinder_endPitch_39 : decode b_PitchFinder_endPitch 39 = .ok (.getfield 9, 3) := by decide +kernel
theorem d_PitchFinder_endPitch_42 : decode b_PitchFinder_endPitch 42 = .ok (.iload_n 1, 1) := by decide +kernel
theorem d_PitchFinder_endPitch_43 : decode b_PitchFinder_endPitch 43 = .ok (.aload_n 0, 1) := by decide +kernel
theorem d_PitchFinder_endPitch_44 : decode b_PitchFinder_endPitch 44 = .ok (.getfield 13, 3) := by decide +kernel
theorem d_PitchFinder_endPitch_47 : decode b_PitchFinder_endPitch 47 = .ok (.iastore, 1) := by decide +kernel
theorem d_PitchFinder_endPitch_48 : decode b_PitchFinder_endPitch 48 = .ok (.aload_n 0, 1) := by decide +kernel
theorem d_PitchFinder_endPitch_49 : decode b_PitchFinder_endPitch 49 = .ok (.getfield 13, 3) := by decide +kernel
theorem d_PitchFinder_endPitch_52 : decode b_PitchFinder_endPitch 52 = .ok (.bipush 99, 2) := by decide +kernel
theorem d_PitchFinder_endPitch_54 : decode b_PitchFinder_endPitch 54 = .ok (.if_icmp .ne 17, 3) := by decide +kernel
theorem d_PitchFinder_endPitch_57 : decode b_PitchFinder_endPitch 57 = .ok (.iload_n 2, 1) := by decide +kernel
theorem d_PitchFinder_endPitch_58 : decode b_PitchFinder_endPitch 58 = .ok (.ifCond .eq 13, 3) := by decide +kernel
theorem d_PitchFinder_endPitch_61 : decode b_PitchFinder_endPitch 61 = .ok (.aload_n 0, 1) := by decide +kernel
theorem d_PitchFinder_endPitch_62 : decode b_PitchFinder_endPitch 62 = .ok (.aload_n 0, 1) := by decide +kernel
theorem d_PitchFinder_endPitch_63 : decode b_PitchFinder_endPitch 63 = .ok (.getfield 9, 3) := by decide +kernel
theorem d_PitchFinder_endPitch_66 : decode b_PitchFinder_endPitch 66 = .ok (.iload_n 1, 1) := by decide +kernel
theorem d_PitchFinder_endPitch_67 : decode b_PitchFinder_endPitch 67 = .ok (.iaload, 1) := by decide +kernel
theorem d_PitchFinder_endPitch_68 : decode b_PitchFinder_endPitch 68 = .ok (.putfield 13, 3) := by decide +kernel
theorem d_PitchFinder_endPitch_71 : decode b_PitchFinder_endPitch 71 = .ok (.aload_n 0, 1) := by decide +kernel
theorem d_PitchFinder_endPitch_72 : decode b_PitchFinder_endPitch 72 = .ok (.getfield 32, 3) := by decide +kernel
theorem d_PitchFinder_endPitch_75 : decode b_PitchFinder_endPitch 75 = .ok (.aload_n 0, 1) := by decide +kernel
theorem d_PitchFinder_endPitch_76 : decode b_PitchFinder_endPitch 76 = .ok (.getfield 13, 3) := by decide +kernel
theorem d_PitchFinder_endPitch_79 : decode b_PitchFinder_endPitch 79 = .ok (.bipush 99, 2) := by decide +kernel
theorem d_PitchFinder_endPitch_81 : decode b_PitchFinder_endPitch 81 = .ok (.if_icmp .ne 10, 3) := by decide +kernel
theorem d_PitchFinder_endPitch_84 : decode b_PitchFinder_endPitch 84 = .ok (.aload_n 0, 1) := by decide +kernel
theorem d_PitchFinder_endPitch_85 : decode b_PitchFinder_endPitch 85 = .ok (.invokevirtual 35, 3) := by decide +kernel
theorem d_PitchFinder_endPitch_88 : decode b_PitchFinder_endPitch 88 = .ok (.goto 7, 3) := by decide +kernel
theorem d_PitchFinder_endPitch_91 : decode b_PitchFinder_endPitch 91 = .ok (.aload_n 0, 1) := by decide +kernel
theorem d_PitchFinder_endPitch_92 : decode b_PitchFinder_endPitch 92 = .ok (.getfield 13, 3) := by decide +kernel
theorem d_PitchFinder_endPitch_95 : decode b_PitchFinder_endPitch 95 = .ok (.iadd, 1) := by decide +kernel
theorem d_PitchFinder_endPitch_96 : decode b_PitchFinder_endPitch 96 = .ok (.istore_n 3, 1) := by decide +kernel
theorem d_PitchFinder_endPitch_97 : decode b_PitchFinder_endPitch 97 = .ok (.aload_n 0, 1) := by decide +kernel
theorem d_PitchFinder_endPitch_98 : decode b_PitchFinder_endPitch 98 = .ok (.bipush 99, 2) := by decide +kernel
theorem d_PitchFinder_endPitch_100 : decode b_PitchFinder_endPitch 100 = .ok (.putfield 13, 3) := by decide +kernel
theorem d_PitchFinder_endPitch_103 : decode b_PitchFinder_endPitch 103 = .ok (.iload_n 3, 1) := by decide +kernel
theorem d_PitchFinder_endPitch_104 : decode b_PitchFinder_endPitch 104 = .ok (.ireturn, 1) := by decide +kernel
def w_PitchFinder_endPitch : List Cond := .code y_PitchFinder_endPitch b_PitchFinder_endPitch 4 (some .int) :: WALL
theorem g_PitchFinder_endPitch : GoodIn WALL w_PitchFinder_endPitch := good_of mc_PitchFinder_endPitch
set_option maxHeartbeats 4000000 in
set_option maxRecDepth 100000 in
theorem c_PitchFinder_endPitch (l : Launch) (D : va_G) (cA a : Nat → Nat) (sz : Nat) (I : Nat → Int32) (A : Nat → Nat → Int32) (post : Int32 → (Nat → Int32) → (Nat → Nat → Int32) → Prop) (h : wp_PitchFinder_endPitch I A post) : Met l y_PitchFinder_endPitch w_PitchFinder_endPitch ({ frames := 1, cells := 0, slots := 0, locals := 21 }) (va_Pc [.ref (a 13)] (PreC D cA a I A sz)) (va_Qi (fun r (u : StW) => post r u.1 u.2) (EndC D cA a) (AC a sz)) 0 0 (AC a sz) := by
  refine Met.ofW (cc := b_PitchFinder_endPitch) (maxL := 4) (ret := (some .int)) (by decide) rfl ?_
  intro p e s m args below meth c s₁ B hml hv
  obtain ⟨rfl, hsz, hP, hK, hD0⟩ := hv
  have hx := B.exec
  have hb := B.bytes
  have hr := B.returns
  have hts := atoms_spec (ws := w_PitchFinder_endPitch) B.pre
  have hw := wall_of hts
  have hown : s.vm.findClass R_PitchFinder = some m.cls := findClass_of_methodNamed B.named
  have hlocks := B.notSynchronized
  subst hsz
  have hD := hDC (sz := s.heap.size) hD0
  have hA : ∀ q : Nat, s.heap.size ≤ q → AC a s.heap.size q := fun q h => Or.inr h
  have hS : va_S (AC a s.heap.size) s.heap s.heap [] := va_S.rf
  have j71 : ∀ (I : Nat → Int32) (A : Nat → Nat → Int32) (H : Heap) (locs : List Loc) (ls : Array Slot), wp_PitchFinder_endPitch_71 post I A → va_P D cls (wC cA a I A) H → va_S (AC a s.heap.size) s.heap H locs → lv_has ls 4 [(0, .ref (a 13))] → W p l e (headSpec w_PitchFinder_endPitch ({ frames := 1, cells := 0, slots := 0, locals := 21 })).room s m [.ref (a 13)].toArray below meth c H locs 0 0 (MQ below (va_Qi (fun r (u : StW) => post r u.1 u.2) (EndC D cA a) (AC a s.heap.size)) [.ref (a 13)].toArray s 0 0 (AC a s.heap.size)) (F0 m 71 ls []) := by
    intro I A H locs ls h hP hS hl
    unfold wp_PitchFinder_endPitch_71 at h
    refine lv_aload_n hx hb d_PitchFinder_endPitch_71 rfl (lv_at hl 0 rfl) ?_
    refine gC_PitchFinder_natural hx hb hw hown hK hP (hw _ m_PitchFinder_32) d_PitchFinder_endPitch_72 ?_
    refine lv_aload_n hx hb d_PitchFinder_endPitch_75 rfl (lv_at hl 0 rfl) ?_
    refine gC_PitchFinder_sign hx hb hw hown hK hP (hw _ m_PitchFinder_13) d_PitchFinder_endPitch_76 ?_
    refine lv_bipush (v := 99) hx hb d_PitchFinder_endPitch_79 bp_99 ?_
    refine lv_icmp_ne (tgt := 91) hx hb d_PitchFinder_endPitch_81 rfl (fun q => ?_) (fun q => ?_)
    · have h := h.2 q
      refine lv_aload_n hx hb d_PitchFinder_endPitch_91 rfl (lv_at hl 0 rfl) ?_
      refine gC_PitchFinder_sign hx hb hw hown hK hP (hw _ m_PitchFinder_13) d_PitchFinder_endPitch_92 ?_
      refine lv_iadd hx hb d_PitchFinder_endPitch_95 ?_
      refine lv_topi (fun v96 ev96 => ?_)
      have h := h v96 ev96
      refine lv_istore_n (lv' := [(3, .int v96), (0, .ref (a 13))]) hx hb d_PitchFinder_endPitch_96 rfl hl (by decide) rfl (fun ls hl => ?_)
      refine lv_aload_n hx hb d_PitchFinder_endPitch_97 rfl (lv_at hl 1 rfl) ?_
      refine lv_bipush (v := 99) hx hb d_PitchFinder_endPitch_98 bp_99 ?_
      refine pC_PitchFinder_sign hx hb hw hown hK hD hS hP (hw _ m_PitchFinder_13) d_PitchFinder_endPitch_100 (fun H locs hP hS => ?_)
      refine lv_iload_n hx hb d_PitchFinder_endPitch_103 rfl (lv_at hl 0 rfl) ?_
      exact W.iret hx hb hr (fun t ht hW => ⟨⟨_, ((upd I 6 99), A), rfl, h, endC_of ht hP⟩, hS.F ht⟩) hS.2.2 d_PitchFinder_endPitch_104
    · have h := h.1 q
      refine lv_aload_n hx hb d_PitchFinder_endPitch_84 rfl (lv_at hl 0 rfl) ?_
      refine k_PitchFinder_keySign (rest := [.int (I 8)]) ⟨hx, hb, hml, hown, hw⟩ hK hD hA hS hP hl.1 (hw _ m_PitchFinder_35) (Nat.le_of_ble_eq_true rfl) ⟨Nat.le_of_ble_eq_true rfl, Nat.le_of_ble_eq_true rfl⟩ ⟨Nat.zero_le _, Nat.zero_le _⟩ d_PitchFinder_endPitch_85 h (fun r85 I85 A85 H locs h hP hS => ?_)
      refine lv_goto (tgt := 95) hx hb d_PitchFinder_endPitch_88 rfl ?_
      refine lv_iadd hx hb d_PitchFinder_endPitch_95 ?_
      refine lv_topi (fun v96 ev96 => ?_)
      have h := h v96 ev96
      refine lv_istore_n (lv' := [(3, .int v96), (0, .ref (a 13))]) hx hb d_PitchFinder_endPitch_96 rfl hl (by decide) rfl (fun ls hl => ?_)
      refine lv_aload_n hx hb d_PitchFinder_endPitch_97 rfl (lv_at hl 1 rfl) ?_
      refine lv_bipush (v := 99) hx hb d_PitchFinder_endPitch_98 bp_99 ?_
      refine pC_PitchFinder_sign hx hb hw hown hK hD hS hP (hw _ m_PitchFinder_13) d_PitchFinder_endPitch_100 (fun H locs hP hS => ?_)
      refine lv_iload_n hx hb d_PitchFinder_endPitch_103 rfl (lv_at hl 0 rfl) ?_
      exact W.iret hx hb hr (fun t ht hW => ⟨⟨_, ((upd I85 6 99), A85), rfl, h, endC_of ht hP⟩, hS.F ht⟩) hS.2.2 d_PitchFinder_endPitch_104
  have j48 : ∀ (y1 : Int32) (y2 : Int32) (I : Nat → Int32) (A : Nat → Nat → Int32) (H : Heap) (locs : List Loc) (ls : Array Slot), wp_PitchFinder_endPitch_48 post y1 y2 I A → va_P D cls (wC cA a I A) H → va_S (AC a s.heap.size) s.heap H locs → lv_has ls 4 [(0, .ref (a 13)), (1, .int y1), (2, .int y2)] → W p l e (headSpec w_PitchFinder_endPitch ({ frames := 1, cells := 0, slots := 0, locals := 21 })).room s m [.ref (a 13)].toArray below meth c H locs 0 0 (MQ below (va_Qi (fun r (u : StW) => post r u.1 u.2) (EndC D cA a) (AC a s.heap.size)) [.ref (a 13)].toArray s 0 0 (AC a s.heap.size)) (F0 m 48 ls []) := by
    intro y1 y2 I A H locs ls h hP hS hl
    unfold wp_PitchFinder_endPitch_48 at h
    refine lv_aload_n hx hb d_PitchFinder_endPitch_48 rfl (lv_at hl 0 rfl) ?_
    refine gC_PitchFinder_sign hx hb hw hown hK hP (hw _ m_PitchFinder_13) d_PitchFinder_endPitch_49 ?_
    refine lv_bipush (v := 99) hx hb d_PitchFinder_endPitch_52 bp_99 ?_
    refine lv_icmp_ne (tgt := 71) hx hb d_PitchFinder_endPitch_54 rfl (fun q => ?_) (fun q => ?_)
    · have h := h.2 q
      exact j71 I A _ _ _ h hP hS (lv_sub hl [0] rfl)
    · have h := h.1 q
      refine lv_iload_n hx hb d_PitchFinder_endPitch_57 rfl (lv_at hl 2 rfl) ?_
      refine lv_if_eq (tgt := 71) hx hb d_PitchFinder_endPitch_58 rfl (fun q => ?_) (fun q => ?_)
      · have h := h.1 q
        exact j71 I A _ _ _ h hP hS (lv_sub hl [0] rfl)
      · have h := h.2 q
        refine lv_aload_n hx hb d_PitchFinder_endPitch_61 rfl (lv_at hl 0 rfl) ?_
        refine lv_aload_n hx hb d_PitchFinder_endPitch_62 rfl (lv_at hl 0 rfl) ?_
        refine gC_PitchFinder_heldSign hx hb hw hown hK hP (hw _ m_PitchFinder_9) d_PitchFinder_endPitch_63 ?_
        refine lv_iload_n hx hb d_PitchFinder_endPitch_66 rfl (lv_at hl 1 rfl) ?_
        obtain ⟨hin, h⟩ := h
        refine lC14 hx hb hK hP hin d_PitchFinder_endPitch_67 ?_
        refine pC_PitchFinder_sign hx hb hw hown hK hD hS hP (hw _ m_PitchFinder_13) d_PitchFinder_endPitch_68 (fun H locs hP hS => ?_)
        exact j71 (upd I 6 (A 14 (y1.toNatClampNeg))) A _ _ _ h hP hS (lv_sub hl [0] rfl)
  have j24 : ∀ (y1 : Int32) (s0 : Int32) (I : Nat → Int32) (A : Nat → Nat → Int32) (H : Heap) (locs : List Loc) (ls : Array Slot), wp_PitchFinder_endPitch_24 post y1 s0 I A → va_P D cls (wC cA a I A) H → va_S (AC a s.heap.size) s.heap H locs → lv_has ls 4 [(0, .ref (a 13)), (1, .int y1)] → W p l e (headSpec w_PitchFinder_endPitch ({ frames := 1, cells := 0, slots := 0, locals := 21 })).room s m [.ref (a 13)].toArray below meth c H locs 0 0 (MQ below (va_Qi (fun r (u : StW) => post r u.1 u.2) (EndC D cA a) (AC a s.heap.size)) [.ref (a 13)].toArray s 0 0 (AC a s.heap.size)) (F0 m 24 ls [.int s0]) := by
    intro y1 s0 I A H locs ls h hP hS hl
    unfold wp_PitchFinder_endPitch_24 at h
    refine lv_istore_n (lv' := [(2, .int s0), (0, .ref (a 13)), (1, .int y1)]) hx hb d_PitchFinder_endPitch_24 rfl hl (by decide) rfl (fun ls hl => ?_)
    refine lv_aload_n hx hb d_PitchFinder_endPitch_25 rfl (lv_at hl 1 rfl) ?_
    refine gC_PitchFinder_sign hx hb hw hown hK hP (hw _ m_PitchFinder_13) d_PitchFinder_endPitch_26 ?_
    refine lv_bipush (v := 99) hx hb d_PitchFinder_endPitch_29 bp_99 ?_
    refine lv_icmp_eq (tgt := 48) hx hb d_PitchFinder_endPitch_31 rfl (fun q => ?_) (fun q => ?_)
    · have h := h.1 q
      exact j48 y1 s0 I A _ _ _ h hP hS (lv_sub hl [1, 2, 0] rfl)
    · have h := h.2 q
      refine lv_iload_n hx hb d_PitchFinder_endPitch_34 rfl (lv_at hl 0 rfl) ?_
      refine lv_if_eq (tgt := 48) hx hb d_PitchFinder_endPitch_35 rfl (fun q => ?_) (fun q => ?_)
      · have h := h.1 q
        exact j48 y1 s0 I A _ _ _ h hP hS (lv_sub hl [1, 2, 0] rfl)
      · have h := h.2 q
        refine lv_aload_n hx hb d_PitchFinder_endPitch_38 rfl (lv_at hl 1 rfl) ?_
        refine gC_PitchFinder_heldSign hx hb hw hown hK hP (hw _ m_PitchFinder_9) d_PitchFinder_endPitch_39 ?_
        refine lv_iload_n hx hb d_PitchFinder_endPitch_42 rfl (lv_at hl 2 rfl) ?_
        refine lv_aload_n hx hb d_PitchFinder_endPitch_43 rfl (lv_at hl 1 rfl) ?_
        refine gC_PitchFinder_sign hx hb hw hown hK hP (hw _ m_PitchFinder_13) d_PitchFinder_endPitch_44 ?_
        obtain ⟨hin, h⟩ := h
        refine sC14 hx hb hK hD hS hP hin d_PitchFinder_endPitch_47 (fun H locs hP hS => ?_)
        exact j48 y1 s0 I (upd2 A 14 (y1.toNatClampNeg) (I 6)) _ _ _ h hP hS (lv_sub hl [1, 2, 0] rfl)
  have hl := lv_entry ([.ref (a 13)]) (n := 4) (Nat.le_of_ble_eq_true rfl)
  rw [lg_entry_eq]
  generalize (lg_sl ([.ref (a 13)]) ++ List.replicate (4 - (lg_sl ([.ref (a 13)])).length) Slot.unset).toArray = ls at hl ⊢
  have hl : lv_has ls 4 [(0, .ref (a 13))] := hl
  unfold wp_PitchFinder_endPitch at h
  refine lv_aload_n hx hb d_PitchFinder_endPitch_0 rfl (lv_at hl 0 rfl) ?_
  refine gC_PitchFinder_natural hx hb hw hown hK hP (hw _ m_PitchFinder_32) d_PitchFinder_endPitch_1 ?_
  refine lv_bipush (v := (-2)) hx hb d_PitchFinder_endPitch_4 bp_m2 ?_
  refine lv_isub hx hb d_PitchFinder_endPitch_6 ?_
  refine lv_topi (fun v7 ev7 => ?_)
  have h := h v7 ev7
  refine lv_istore_n (lv' := [(1, .int v7), (0, .ref (a 13))]) hx hb d_PitchFinder_endPitch_7 rfl hl (by decide) rfl (fun ls hl => ?_)
  refine lv_iload_n hx hb d_PitchFinder_endPitch_8 rfl (lv_at hl 0 rfl) ?_
  refine lv_if_lt (tgt := 23) hx hb d_PitchFinder_endPitch_9 rfl (fun q => ?_) (fun q => ?_)
  · have h := h.1 q
    refine lv_iconst (v := 0) hx hb d_PitchFinder_endPitch_23 ic_0 ?_
    exact j24 v7 0 I A _ _ _ h hP hS (lv_sub hl [1, 0] rfl)
  · have h := h.2 q
    refine lv_iload_n hx hb d_PitchFinder_endPitch_12 rfl (lv_at hl 0 rfl) ?_
    refine lv_sipush (v := 132) hx hb d_PitchFinder_endPitch_13 sp_132 ?_
    refine lv_icmp_ge (tgt := 23) hx hb d_PitchFinder_endPitch_16 rfl (fun q => ?_) (fun q => ?_)
    · have h := h.1 q
      refine lv_iconst (v := 0) hx hb d_PitchFinder_endPitch_23 ic_0 ?_
      exact j24 v7 0 I A _ _ _ h hP hS (lv_sub hl [1, 0] rfl)
    · have h := h.2 q
      refine lv_iconst (v := 1) hx hb d_PitchFinder_endPitch_19 ic_1 ?_
      refine lv_goto (tgt := 24) hx hb d_PitchFinder_endPitch_20 rfl ?_
      exact j24 v7 1 I A _ _ _ h hP hS (lv_sub hl [1, 0] rfl)
theorem k_PitchFinder_endPitch {p : Program} {l : Launch} {e : Env} {R : Room} {s : State} {m : MethodId} {args : Array Value} {below : List Frame} {meth : Method} {c : Code} {H : Heap} {locs : List Loc} {cells slots : Nat} {Q : State → Prop} {cc : ByteArray} {pc nL idx : Nat} {own : String} {ls : Array Slot} {D : va_G} {cA a : Nat → Nat} {AA : Nat → Prop} {I : Nat → Int32} {A : Nat → Nat → Int32} {post : Int32 → (Nat → Int32) → (Nat → Nat → Int32) → Prop} {rest : List Value} (S : CallFix p m c cc nL s args WALL own) (hK : KC D cA a AA s) (hD : ∀ I A, va_D AA (wC cA a I A)) (hA : ∀ q : Nat, s.heap.size ≤ q → AA q) (hS : va_S AA s.heap H locs) (hP : va_P D cls (wC cA a I A) H) (hl1 : ls.size = nL) (hlink : (Cond.methodLink own idx y_PitchFinder_endPitch).before args s = true) (hst : (rest.map fun v => v.category).sum ≤ 8) (hR : ({ frames := 1, cells := 0, slots := 0, locals := 21 } : Room).frames + 1 ≤ R.frames ∧ 8 + (4 + 11) + ({ frames := 1, cells := 0, slots := 0, locals := 21 } : Room).locals ≤ R.locals) (hcs : cells ≤ R.cells ∧ slots ≤ R.slots) (hdg : decode cc pc = .ok (.invokevirtual idx, 3)) (h : wp_PitchFinder_endPitch I A post) (kk : ∀ (r : Int32) (I1 : Nat → Int32) (A1 : Nat → Nat → Int32) (H1 : Heap) (locs1 : List Loc), post r I1 A1 → va_P D cls (wC cA a I1 A1) H1 → va_S AA s.heap H1 locs1 → W p l e R s m args below meth c H1 locs1 cells slots Q (F0 m (pc + 3) ls (.int r :: rest))) : W p l e R s m args below meth c H locs cells slots Q (F0 m pc ls (.ref (a 13) :: rest)) :=
  va_calli (va_runV (As := []) (rest := rest) S (c_PitchFinder_endPitch l D cA a H.size I A post h) ⟨callB_of 0 S.2.2.2.2 g_PitchFinder_endPitch rfl rfl rfl (S.2.2.2.2 _ mi_PitchFinder) hlink ⟨by decide, by decide, by decide +kernel⟩ hR, S.2.2.2.2 _ mn_PitchFinder_endPitch, S.2.2.2.2 _ ms_PitchFinder_endPitch⟩ (preCV hK hD hA hS hP 13 rfl rfl) rfl rfl hl1 rfl (lv_room hst) hdg hcs) hS (fun q _ z => AC_le hD hA hS q z) (fun q z => AC_le hD hA hS q z) (fun r u t H1 locs1 ht _ hp hB _ _ hS1 => kk r u.1 u.2 H1 locs1 hp (of_endC ht hB) hS1)
def wp_Tune_addNote (x1 : Int32) (I : Nat → Int32) (A : Nat → Nat → Int32) (post : (Nat → Int32) → (Nat → Nat → Int32) → Prop) : Prop := (((I 2) < 120 → (vp_in (I 2) 120 ∧ (vp_in (I 1) 49 ∧ post (upd I 2 ((I 2) + 1)) (upd2 (upd2 A 12 ((I 2).toNatClampNeg) x1) 9 ((I 1).toNatClampNeg) ((I 2) + 1))))) ∧ (¬ (I 2) < 120 → post I A))
theorem d_Tune_addNote_0 : decode b_Tune_addNote 0 = .ok (.aload_n 0, 1) := by decide +kernel
theorem d_Tune_addNote_1 : decode b_Tune_addNote 1 = .ok (.getfield 47, 3) := by decide +kernel
theorem d_Tune_addNote_4 : decode b_Tune_addNote 4 = .ok (.aload_n 0, 1) := by decide +kernel
theorem d_Tune_addNote_5 : decode b_Tune_addNote 5 = .ok (.getfield 37, 3) := by decide +kernel
theorem d_Tune_addNote_8 : decode b_Tune_addNote 8 = .ok (.arraylength, 1) := by decide +kernel
theorem d_Tune_addNote_9 : decode b_Tune_addNote 9 = .ok (.if_icmp .lt 4, 3) := by decide +kernel
theorem d_Tune_addNote_12 : decode b_Tune_addNote 12 = .ok (.return_, 1) := by decide +kernel
theorem d_Tune_addNote_13 : decode b_Tune_addNote 13 = .ok (.aload_n 0, 1) := by decide +kernel
theorem d_Tune_addNote_14 : decode b_Tune_addNote 14 = .ok (.getfield 37, 3) := by decide +kernel
theorem d_Tune_addNote_17 : decode b_Tune_addNote 17 = .ok (.aload_n 0, 1) := by decide +kernel
theorem d_Tune_addNote_18 : decode b_Tune_addNote 18 = .ok (.getfield 47, 3) := by decide +kernel
theorem d_Tune_addNote_21 : decode b_Tune_addNote 21 = .ok (.iload_n 1, 1) := by decide +kernel
theorem d_Tune_addNote_22 : decode b_Tune_addNote 22 = .ok (.iastore, 1) := by decide +kernel
theorem d_Tune_addNote_23 : decode b_Tune_addNote 23 = .ok (.aload_n 0, 1) := by decide +kernel
theorem d_Tune_addNote_24 : decode b_Tune_addNote 24 = .ok (.dup, 1) := by decide +kernel
theorem d_Tune_addNote_25 : decode b_Tune_addNote 25 = .ok (.getfield 47, 3) := by decide +kernel
theorem d_Tune_addNote_28 : decode b_Tune_addNote 28 = .ok (.iconst 1, 1) := by decide +kernel
theorem d_Tune_addNote_29 : decode b_Tune_addNote 29 = .ok (.iadd, 1) := by decide +kernel
theorem d_Tune_addNote_30 : decode b_Tune_addNote 30 = .ok (.putfield 47, 3) := by decide +kernel
theorem d_Tune_addNote_33 : decode b_Tune_addNote 33 = .ok (.aload_n 0, 1) := by decide +kernel
theorem d_Tune_addNote_34 : decode b_Tune_addNote 34 = .ok (.getfield 27, 3) := by decide +kernel
theorem d_Tune_addNote_37 : decode b_Tune_addNote 37 = .ok (.aload_n 0, 1) := by decide +kernel
theorem d_Tune_addNote_38 : decode b_Tune_addNote 38 = .ok (.getfield 44, 3) := by decide +kernel
theorem d_Tune_addNote_41 : decode b_Tune_addNote 41 = .ok (.aload_n 0, 1) := by decide +kernel
theorem d_Tune_addNote_42 : decode b_Tune_addNote 42 = .ok (.getfield 47, 3) := by decide +kernel
theorem d_Tune_addNote_45 : decode b_Tune_addNote 45 = .ok (.iastore, 1) := by decide +kernel
theorem d_Tune_addNote_46 : decode b_Tune_addNote 46 = .ok (.return_, 1) := by decide +kernel
def w_Tune_addNote : List Cond := .code y_Tune_addNote b_Tune_addNote 2 none :: WALL
theorem g_Tune_addNote : GoodIn WALL w_Tune_addNote := good_of mc_Tune_addNote
set_option maxHeartbeats 4000000 in
set_option maxRecDepth 100000 in
theorem c_Tune_addNote (l : Launch) (D : va_G) (cA a : Nat → Nat) (sz : Nat) (x1 : Int32) (I : Nat → Int32) (A : Nat → Nat → Int32) (post : (Nat → Int32) → (Nat → Nat → Int32) → Prop) (h : wp_Tune_addNote x1 I A post) : Met l y_Tune_addNote w_Tune_addNote ({ frames := 0, cells := 0, slots := 0, locals := 0 }) (va_Pc [.ref (a 3), .int x1] (PreC D cA a I A sz)) (va_Qv (fun (u : StW) => post u.1 u.2) (EndC D cA a) (AC a sz)) 0 0 (AC a sz) := by
  refine Met.ofW (cc := b_Tune_addNote) (maxL := 2) (ret := none) (by decide) rfl ?_
  intro p e s m args below meth c s₁ B hml hv
  obtain ⟨rfl, hsz, hP, hK, hD0⟩ := hv
  have hx := B.exec
  have hb := B.bytes
  have hr := B.returns
  have hts := atoms_spec (ws := w_Tune_addNote) B.pre
  have hw := wall_of hts
  have hown : s.vm.findClass R_Tune = some m.cls := findClass_of_methodNamed B.named
  have hlocks := B.notSynchronized
  subst hsz
  have hD := hDC (sz := s.heap.size) hD0
  have hA : ∀ q : Nat, s.heap.size ≤ q → AC a s.heap.size q := fun q h => Or.inr h
  have hS : va_S (AC a s.heap.size) s.heap s.heap [] := va_S.rf
  have hl := lv_entry ([.ref (a 3), .int x1]) (n := 2) (Nat.le_of_ble_eq_true rfl)
  rw [lg_entry_eq]
  generalize (lg_sl ([.ref (a 3), .int x1]) ++ List.replicate (2 - (lg_sl ([.ref (a 3), .int x1])).length) Slot.unset).toArray = ls at hl ⊢
  have hl : lv_has ls 2 [(0, .ref (a 3)), (1, .int x1)] := hl
  unfold wp_Tune_addNote at h
  refine lv_aload_n hx hb d_Tune_addNote_0 rfl (lv_at hl 0 rfl) ?_
  refine gC_Tune_noteCount hx hb hw hown hK hP (hw _ m_Tune_47) d_Tune_addNote_1 ?_
  refine lv_aload_n hx hb d_Tune_addNote_4 rfl (lv_at hl 0 rfl) ?_
  refine gC_Tune_pitch hx hb hw hown hK hP (hw _ m_Tune_37) d_Tune_addNote_5 ?_
  refine nC12 hx hb hK hP d_Tune_addNote_8 ?_
  refine lv_icmp_lt (tgt := 13) hx hb d_Tune_addNote_9 rfl (fun q => ?_) (fun q => ?_)
  · have h := h.1 q
    refine lv_aload_n hx hb d_Tune_addNote_13 rfl (lv_at hl 0 rfl) ?_
    refine gC_Tune_pitch hx hb hw hown hK hP (hw _ m_Tune_37) d_Tune_addNote_14 ?_
    refine lv_aload_n hx hb d_Tune_addNote_17 rfl (lv_at hl 0 rfl) ?_
    refine gC_Tune_noteCount hx hb hw hown hK hP (hw _ m_Tune_47) d_Tune_addNote_18 ?_
    refine lv_iload_n hx hb d_Tune_addNote_21 rfl (lv_at hl 1 rfl) ?_
    obtain ⟨hin, h⟩ := h
    refine sC12 hx hb hK hD hS hP hin d_Tune_addNote_22 (fun H locs hP hS => ?_)
    refine lv_aload_n hx hb d_Tune_addNote_23 rfl (lv_at hl 0 rfl) ?_
    refine lv_dup hx hb d_Tune_addNote_24 rfl ?_
    refine gC_Tune_noteCount hx hb hw hown hK hP (hw _ m_Tune_47) d_Tune_addNote_25 ?_
    refine lv_iconst (v := 1) hx hb d_Tune_addNote_28 ic_1 ?_
    refine lv_iadd hx hb d_Tune_addNote_29 ?_
    refine pC_Tune_noteCount hx hb hw hown hK hD hS hP (hw _ m_Tune_47) d_Tune_addNote_30 (fun H locs hP hS => ?_)
    refine lv_aload_n hx hb d_Tune_addNote_33 rfl (lv_at hl 0 rfl) ?_
    refine gC_Tune_firstNote hx hb hw hown hK hP (hw _ m_Tune_27) d_Tune_addNote_34 ?_
    refine lv_aload_n hx hb d_Tune_addNote_37 rfl (lv_at hl 0 rfl) ?_
    refine gC_Tune_itemCount hx hb hw hown hK hP (hw _ m_Tune_44) d_Tune_addNote_38 ?_
    refine lv_aload_n hx hb d_Tune_addNote_41 rfl (lv_at hl 0 rfl) ?_
    refine gC_Tune_noteCount hx hb hw hown hK hP (hw _ m_Tune_47) d_Tune_addNote_42 ?_
    obtain ⟨hin, h⟩ := h
    refine sC9 hx hb hK hD hS hP hin d_Tune_addNote_45 (fun H locs hP hS => ?_)
    exact W.vret hx hb hr (fun t ht hW => ⟨⟨((upd I 2 ((I 2) + 1)), (upd2 (upd2 A 12 ((I 2).toNatClampNeg) x1) 9 ((I 1).toNatClampNeg) ((I 2) + 1))), rfl, h, endC_of ht hP⟩, hS.F ht⟩) hS.2.2 d_Tune_addNote_46
  · have h := h.2 q
    exact W.vret hx hb hr (fun t ht hW => ⟨⟨(I, A), rfl, h, endC_of ht hP⟩, hS.F ht⟩) hS.2.2 d_Tune_addNote_12
theorem k_Tune_addNote {p : Program} {l : Launch} {e : Env} {R : Room} {s : State} {m : MethodId} {args : Array Value} {below : List Frame} {meth : Method} {c : Code} {H : Heap} {locs : List Loc} {cells slots : Nat} {Q : State → Prop} {cc : ByteArray} {pc nL idx : Nat} {own : String} {ls : Array Slot} {D : va_G} {cA a : Nat → Nat} {AA : Nat → Prop} {I : Nat → Int32} {A : Nat → Nat → Int32} {post : (Nat → Int32) → (Nat → Nat → Int32) → Prop} (x1 : Int32) {rest : List Value} (S : CallFix p m c cc nL s args WALL own) (hK : KC D cA a AA s) (hD : ∀ I A, va_D AA (wC cA a I A)) (hA : ∀ q : Nat, s.heap.size ≤ q → AA q) (hS : va_S AA s.heap H locs) (hP : va_P D cls (wC cA a I A) H) (hl1 : ls.size = nL) (hlink : (Cond.methodLink own idx y_Tune_addNote).before args s = true) (hst : (rest.map fun v => v.category).sum ≤ 8) (hR : ({ frames := 0, cells := 0, slots := 0, locals := 0 } : Room).frames + 1 ≤ R.frames ∧ 8 + (2 + 11) + ({ frames := 0, cells := 0, slots := 0, locals := 0 } : Room).locals ≤ R.locals) (hcs : cells ≤ R.cells ∧ slots ≤ R.slots) (hdg : decode cc pc = .ok (.invokevirtual idx, 3)) (h : wp_Tune_addNote x1 I A post) (kk : ∀ (I1 : Nat → Int32) (A1 : Nat → Nat → Int32) (H1 : Heap) (locs1 : List Loc), post I1 A1 → va_P D cls (wC cA a I1 A1) H1 → va_S AA s.heap H1 locs1 → W p l e R s m args below meth c H1 locs1 cells slots Q (F0 m (pc + 3) ls rest)) : W p l e R s m args below meth c H locs cells slots Q (F0 m pc ls (.int x1 :: .ref (a 3) :: rest)) :=
  va_callv (va_runV (As := [.int x1]) (rest := rest) S (c_Tune_addNote l D cA a H.size x1 I A post h) ⟨callB_of 1 S.2.2.2.2 g_Tune_addNote rfl rfl rfl (S.2.2.2.2 _ mi_Tune) hlink ⟨by decide, by decide, by decide +kernel⟩ hR, S.2.2.2.2 _ mn_Tune_addNote, S.2.2.2.2 _ ms_Tune_addNote⟩ (preCV hK hD hA hS hP 3 rfl rfl) rfl rfl hl1 rfl (lv_room hst) hdg hcs) hS (fun q _ z => AC_le hD hA hS q z) (fun q z => AC_le hD hA hS q z) (fun u t H1 locs1 ht _ hp hB _ _ hS1 => kk u.1 u.2 H1 locs1 hp (of_endC ht hB) hS1)
def wp_Reader_endNote (I : Nat → Int32) (A : Nat → Nat → Int32) (post : (Nat → Int32) → (Nat → Nat → Int32) → Prop) : Prop := (wp_PitchFinder_endPitch I A (fun r4 I4 A4 => ((r4 < 0 → (wp_Reader_fail (-4) (I4 15) I4 A4 (fun I25 A25 => post I25 A25))) ∧ (¬ r4 < 0 → ((r4 ≤ 127 → (wp_Tune_addNote r4 I4 A4 (fun I34 A34 => post I34 A34))) ∧ (¬ r4 ≤ 127 → (wp_Reader_fail (-4) (I4 15) I4 A4 (fun I25 A25 => post I25 A25))))))))
theorem d_Reader_endNote_0 : decode b_Reader_endNote 0 = .ok (.aload_n 0, 1) := by decide +kernel
theorem d_Reader_endNote_1 : decode b_Reader_endNote 1 = .ok (.getfield 21, 3) := by decide +kernel
theorem d_Reader_endNote_4 : decode b_Reader_endNote 4 = .ok (.invokevirtual 133, 3) := by decide +kernel
theorem d_Reader_endNote_7 : decode b_Reader_endNote 7 = .ok (.istore_n 1, 1) := by decide +kernel
theorem d_Reader_endNote_8 : decode b_Reader_endNote 8 = .ok (.iload_n 1, 1) := by decide +kernel
theorem d_Reader_endNote_9 : decode b_Reader_endNote 9 = .ok (.ifCond .lt 9, 3) := by decide +kernel
theorem d_Reader_endNote_12 : decode b_Reader_endNote 12 = .ok (.iload_n 1, 1) := by decide +kernel
theorem d_Reader_endNote_13 : decode b_Reader_endNote 13 = .ok (.bipush 127, 2) := by decide +kernel
theorem d_Reader_endNote_15 : decode b_Reader_endNote 15 = .ok (.if_icmp .le 14, 3) := by decide +kernel
theorem d_Reader_endNote_18 : decode b_Reader_endNote 18 = .ok (.aload_n 0, 1) := by decide +kernel
theorem d_Reader_endNote_19 : decode b_Reader_endNote 19 = .ok (.bipush (-4), 2) := by decide +kernel
theorem d_Reader_endNote_21 : decode b_Reader_endNote 21 = .ok (.aload_n 0, 1) := by decide +kernel
theorem d_Reader_endNote_22 : decode b_Reader_endNote 22 = .ok (.getfield 80, 3) := by decide +kernel
theorem d_Reader_endNote_25 : decode b_Reader_endNote 25 = .ok (.invokevirtual 108, 3) := by decide +kernel
theorem d_Reader_endNote_28 : decode b_Reader_endNote 28 = .ok (.return_, 1) := by decide +kernel
theorem d_Reader_endNote_29 : decode b_Reader_endNote 29 = .ok (.aload_n 0, 1) := by decide +kernel
theorem d_Reader_endNote_30 : decode b_Reader_endNote 30 = .ok (.getfield 14, 3) := by decide +kernel
theorem d_Reader_endNote_33 : decode b_Reader_endNote 33 = .ok (.iload_n 1, 1) := by decide +kernel
theorem d_Reader_endNote_34 : decode b_Reader_endNote 34 = .ok (.invokevirtual 137, 3) := by decide +kernel
theorem d_Reader_endNote_37 : decode b_Reader_endNote 37 = .ok (.return_, 1) := by decide +kernel
def w_Reader_endNote : List Cond := .code y_Reader_endNote b_Reader_endNote 2 none :: WALL
theorem g_Reader_endNote : GoodIn WALL w_Reader_endNote := good_of mc_Reader_endNote
set_option maxHeartbeats 4000000 in
set_option maxRecDepth 100000 in
theorem c_Reader_endNote (l : Launch) (D : va_G) (cA a : Nat → Nat) (sz : Nat) (I : Nat → Int32) (A : Nat → Nat → Int32) (post : (Nat → Int32) → (Nat → Nat → Int32) → Prop) (h : wp_Reader_endNote I A post) : Met l y_Reader_endNote w_Reader_endNote ({ frames := 2, cells := 0, slots := 0, locals := 44 }) (va_Pc [.ref (a 2)] (PreC D cA a I A sz)) (va_Qv (fun (u : StW) => post u.1 u.2) (EndC D cA a) (AC a sz)) 0 0 (AC a sz) := by
  refine Met.ofW (cc := b_Reader_endNote) (maxL := 2) (ret := none) (by decide) rfl ?_
  intro p e s m args below meth c s₁ B hml hv
  obtain ⟨rfl, hsz, hP, hK, hD0⟩ := hv
  have hx := B.exec
  have hb := B.bytes
  have hr := B.returns
  have hts := atoms_spec (ws := w_Reader_endNote) B.pre
  have hw := wall_of hts
  have hown : s.vm.findClass R_Reader = some m.cls := findClass_of_methodNamed B.named
  have hlocks := B.notSynchronized
  subst hsz
  have hD := hDC (sz := s.heap.size) hD0
  have hA : ∀ q : Nat, s.heap.size ≤ q → AC a s.heap.size q := fun q h => Or.inr h
  have hS : va_S (AC a s.heap.size) s.heap s.heap [] := va_S.rf
  have hl := lv_entry ([.ref (a 2)]) (n := 2) (Nat.le_of_ble_eq_true rfl)
  rw [lg_entry_eq]
  generalize (lg_sl ([.ref (a 2)]) ++ List.replicate (2 - (lg_sl ([.ref (a 2)])).length) Slot.unset).toArray = ls at hl ⊢
  have hl : lv_has ls 2 [(0, .ref (a 2))] := hl
  unfold wp_Reader_endNote at h
  refine lv_aload_n hx hb d_Reader_endNote_0 rfl (lv_at hl 0 rfl) ?_
  refine gC_Reader_pitches hx hb hw hown hK hP (hw _ m_Reader_21) d_Reader_endNote_1 ?_
  refine k_PitchFinder_endPitch (rest := []) ⟨hx, hb, hml, hown, hw⟩ hK hD hA hS hP hl.1 (hw _ m_Reader_133) (Nat.le_of_ble_eq_true rfl) ⟨Nat.le_of_ble_eq_true rfl, Nat.le_of_ble_eq_true rfl⟩ ⟨Nat.zero_le _, Nat.zero_le _⟩ d_Reader_endNote_4 h (fun r4 I4 A4 H locs h hP hS => ?_)
  refine lv_istore_n (lv' := [(1, .int r4), (0, .ref (a 2))]) hx hb d_Reader_endNote_7 rfl hl (by decide) rfl (fun ls hl => ?_)
  refine lv_iload_n hx hb d_Reader_endNote_8 rfl (lv_at hl 0 rfl) ?_
  refine lv_if_lt (tgt := 18) hx hb d_Reader_endNote_9 rfl (fun q => ?_) (fun q => ?_)
  · have h := h.1 q
    refine lv_aload_n hx hb d_Reader_endNote_18 rfl (lv_at hl 1 rfl) ?_
    refine lv_bipush (v := (-4)) hx hb d_Reader_endNote_19 bp_m4 ?_
    refine lv_aload_n hx hb d_Reader_endNote_21 rfl (lv_at hl 1 rfl) ?_
    refine gC_Reader_spot hx hb hw hown hK hP (hw _ m_Reader_80) d_Reader_endNote_22 ?_
    refine k_Reader_fail (-4) (I4 15) (rest := []) ⟨hx, hb, hml, hown, hw⟩ hK hD hA hS hP hl.1 (hw _ m_Reader_108) (Nat.le_of_ble_eq_true rfl) ⟨Nat.le_of_ble_eq_true rfl, Nat.le_of_ble_eq_true rfl⟩ ⟨Nat.zero_le _, Nat.zero_le _⟩ d_Reader_endNote_25 h (fun I25 A25 H locs h hP hS => ?_)
    exact W.vret hx hb hr (fun t ht hW => ⟨⟨(I25, A25), rfl, h, endC_of ht hP⟩, hS.F ht⟩) hS.2.2 d_Reader_endNote_28
  · have h := h.2 q
    refine lv_iload_n hx hb d_Reader_endNote_12 rfl (lv_at hl 0 rfl) ?_
    refine lv_bipush (v := 127) hx hb d_Reader_endNote_13 bp_127 ?_
    refine lv_icmp_le (tgt := 29) hx hb d_Reader_endNote_15 rfl (fun q => ?_) (fun q => ?_)
    · have h := h.1 q
      refine lv_aload_n hx hb d_Reader_endNote_29 rfl (lv_at hl 1 rfl) ?_
      refine gC_Reader_tune hx hb hw hown hK hP (hw _ m_Reader_14) d_Reader_endNote_30 ?_
      refine lv_iload_n hx hb d_Reader_endNote_33 rfl (lv_at hl 0 rfl) ?_
      refine k_Tune_addNote r4 (rest := []) ⟨hx, hb, hml, hown, hw⟩ hK hD hA hS hP hl.1 (hw _ m_Reader_137) (Nat.le_of_ble_eq_true rfl) ⟨Nat.le_of_ble_eq_true rfl, Nat.le_of_ble_eq_true rfl⟩ ⟨Nat.zero_le _, Nat.zero_le _⟩ d_Reader_endNote_34 h (fun I34 A34 H locs h hP hS => ?_)
      exact W.vret hx hb hr (fun t ht hW => ⟨⟨(I34, A34), rfl, h, endC_of ht hP⟩, hS.F ht⟩) hS.2.2 d_Reader_endNote_37
    · have h := h.2 q
      refine lv_aload_n hx hb d_Reader_endNote_18 rfl (lv_at hl 1 rfl) ?_
      refine lv_bipush (v := (-4)) hx hb d_Reader_endNote_19 bp_m4 ?_
      refine lv_aload_n hx hb d_Reader_endNote_21 rfl (lv_at hl 1 rfl) ?_
      refine gC_Reader_spot hx hb hw hown hK hP (hw _ m_Reader_80) d_Reader_endNote_22 ?_
      refine k_Reader_fail (-4) (I4 15) (rest := []) ⟨hx, hb, hml, hown, hw⟩ hK hD hA hS hP hl.1 (hw _ m_Reader_108) (Nat.le_of_ble_eq_true rfl) ⟨Nat.le_of_ble_eq_true rfl, Nat.le_of_ble_eq_true rfl⟩ ⟨Nat.zero_le _, Nat.zero_le _⟩ d_Reader_endNote_25 h (fun I25 A25 H locs h hP hS => ?_)
      exact W.vret hx hb hr (fun t ht hW => ⟨⟨(I25, A25), rfl, h, endC_of ht hP⟩, hS.F ht⟩) hS.2.2 d_Reader_endNote_28
theorem k_Reader_endNote {p : Program} {l : Launch} {e : Env} {R : Room} {s : State} {m : MethodId} {args : Array Value} {below : List Frame} {meth : Method} {c : Code} {H : Heap} {locs : List Loc} {cells slots : Nat} {Q : State → Prop} {cc : ByteArray} {pc nL idx : Nat} {own : String} {ls : Array Slot} {D : va_G} {cA a : Nat → Nat} {AA : Nat → Prop} {I : Nat → Int32} {A : Nat → Nat → Int32} {post : (Nat → Int32) → (Nat → Nat → Int32) → Prop} {rest : List Value} (S : CallFix p m c cc nL s args WALL own) (hK : KC D cA a AA s) (hD : ∀ I A, va_D AA (wC cA a I A)) (hA : ∀ q : Nat, s.heap.size ≤ q → AA q) (hS : va_S AA s.heap H locs) (hP : va_P D cls (wC cA a I A) H) (hl1 : ls.size = nL) (hlink : (Cond.methodLink own idx y_Reader_endNote).before args s = true) (hst : (rest.map fun v => v.category).sum ≤ 8) (hR : ({ frames := 2, cells := 0, slots := 0, locals := 44 } : Room).frames + 1 ≤ R.frames ∧ 8 + (2 + 11) + ({ frames := 2, cells := 0, slots := 0, locals := 44 } : Room).locals ≤ R.locals) (hcs : cells ≤ R.cells ∧ slots ≤ R.slots) (hdg : decode cc pc = .ok (.invokevirtual idx, 3)) (h : wp_Reader_endNote I A post) (kk : ∀ (I1 : Nat → Int32) (A1 : Nat → Nat → Int32) (H1 : Heap) (locs1 : List Loc), post I1 A1 → va_P D cls (wC cA a I1 A1) H1 → va_S AA s.heap H1 locs1 → W p l e R s m args below meth c H1 locs1 cells slots Q (F0 m (pc + 3) ls rest)) : W p l e R s m args below meth c H locs cells slots Q (F0 m pc ls (.ref (a 2) :: rest)) :=
  va_callv (va_runV (As := []) (rest := rest) S (c_Reader_endNote l D cA a H.size I A post h) ⟨callB_of 0 S.2.2.2.2 g_Reader_endNote rfl rfl rfl (S.2.2.2.2 _ mi_Reader) hlink ⟨by decide, by decide, by decide +kernel⟩ hR, S.2.2.2.2 _ mn_Reader_endNote, S.2.2.2.2 _ ms_Reader_endNote⟩ (preCV hK hD hA hS hP 2 rfl rfl) rfl rfl hl1 rfl (lv_room hst) hdg hcs) hS (fun q _ z => AC_le hD hA hS q z) (fun q z => AC_le hD hA hS q z) (fun u t H1 locs1 ht _ hp hB _ _ hS1 => kk u.1 u.2 H1 locs1 hp (of_endC ht hB) hS1)
def wp_Reader_may_58 (post : Int32 → (Nat → Int32) → (Nat → Nat → Int32) → Prop) (y1 : Int32) (y2 : Int32) (I : Nat → Int32) (A : Nat → Nat → Int32) : Prop := (((I 22) = 0 → (∀ v76 : Int32, v76 = y2 ||| 28787 → (((v76 &&& y1) = 0 → post 0 I A) ∧ (¬ (v76 &&& y1) = 0 → post 1 I A)))) ∧ (¬ (I 22) = 0 → (∀ v76 : Int32, v76 = y2 ||| 2112 → (((v76 &&& y1) = 0 → post 0 I A) ∧ (¬ (v76 &&& y1) = 0 → post 1 I A)))))
def wp_Reader_may_30 (post : Int32 → (Nat → Int32) → (Nat → Nat → Int32) → Prop) (y1 : Int32) (s0 : Int32) (I : Nat → Int32) (A : Nat → Nat → Int32) : Prop := (((I 14) = 11 → wp_Reader_may_58 post y1 s0 I A) ∧ (¬ (I 14) = 11 → (((I 14) = 12 → wp_Reader_may_58 post y1 s0 I A) ∧ (¬ (I 14) = 12 → (((I 14) = 13 → wp_Reader_may_58 post y1 s0 I A) ∧ (¬ (I 14) = 13 → (((s0 &&& y1) = 0 → post 0 I A) ∧ (¬ (s0 &&& y1) = 0 → post 1 I A))))))))
def wp_Reader_may (x1 : Int32) (I : Nat → Int32) (A : Nat → Nat → Int32) (post : Int32 → (Nat → Int32) → (Nat → Nat → Int32) → Prop) : Prop := (((I 14) < 0 → wp_Reader_may_30 post x1 0 I A) ∧ (¬ (I 14) < 0 → ((21 ≤ (I 14) → wp_Reader_may_30 post x1 0 I A) ∧ (¬ 21 ≤ (I 14) → (vp_in (I 14) 21 ∧ wp_Reader_may_30 post x1 (tb_MAY (I 14).toNatClampNeg) I A)))))
theorem d_Reader_may_0 : decode b_Reader_may 0 = .ok (.aload_n 0, 1) := by decide +kernel
theorem d_Reader_may_1 : decode b_Reader_may 1 = .ok (.getfield 55, 3) := by decide +kernel
theorem d_Reader_may_4 : decode b_Reader_may 4 = .ok (.ifCond .lt 25, 3) := by decide +kernel
theorem d_Reader_may_7 : decode b_Reader_may 7 = .ok (.aload_n 0, 1) := by decide +kernel
theorem d_Reader_may_8 : decode b_Reader_may 8 = .ok (.getfield 55, 3) := by decide +kernel
theorem d_Reader_may_11 : decode b_Reader_may 11 = .ok (.getstatic 167, 3) := by decide +kernel
theorem d_Reader_may_14 : decode b_Reader_may 14 = .ok (.arraylength, 1) := by decide +kernel
theorem d_Reader_may_15 : decode b_Reader_may 15 = .ok (.if_icmp .ge 14, 3) := by decide +kernel
theorem d_Reader_may_18 : decode b_Reader_may 18 = .ok (.getstatic 167, 3) := by decide +kernel
theorem d_Reader_may_21 : decode b_Reader_may 21 = .ok (.aload_n 0, 1) := by decide +kernel
theorem d_Reader_may_22 : decode b_Reader_may 22 = .ok (.getfield 55, 3) := by decide +kernel
theorem d_Reader_may_25 : decode b_Reader_may 25 = .ok (.iaload, 1) := by decide +kernel
theorem d_Reader_may_26 : decode b_Reader_may 26 = .ok (.goto 4, 3) := by decide +kernel
theorem d_Reader_may_29 : decode b_Reader_may 29 = .ok (.iconst 0, 1) := by decide +kernel
theorem d_Reader_may_30 : decode b_Reader_may 30 = .ok (.istore_n 2, 1) := by decide +kernel
theorem d_Reader_may_31 : decode b_Reader_may 31 = .ok (.aload_n 0, 1) := by decide +kernel
theorem d_Reader_may_32 : decode b_Reader_may 32 = .ok (.getfield 55, 3) := by decide +kernel
theorem d_Reader_may_35 : decode b_Reader_may 35 = .ok (.bipush 11, 2) := by decide +kernel
theorem d_Reader_may_37 : decode b_Reader_may 37 = .ok (.if_icmp .eq 21, 3) := by decide +kernel
theorem d_Reader_may_40 : decode b_Reader_may 40 = .ok (.aload_n 0, 1) := by decide +kernel
theorem d_Reader_may_41 : decode b_Reader_may 41 = .ok (.getfield 55, 3) := by decide +kernel
theorem d_Reader_may_44 : decode b_Reader_may 44 = .ok (.bipush 12, 2) := by decide +kernel
theorem d_Reader_may_46 : decode b_Reader_may 46 = .ok (.if_icmp .eq 12, 3) := by decide +kernel
theorem d_Reader_may_49 : decode b_Reader_may 49 = .ok (.aload_n 0, 1) := by decide +kernel
theorem d_Reader_may_50 : decode b_Reader_may 50 = .ok (.getfield 55, 3) := by decide +kernel
theorem d_Reader_may_53 : decode b_Reader_may 53 = .ok (.bipush 13, 2) := by decide +kernel
theorem d_Reader_may_55 : decode b_Reader_may 55 = .ok (.if_icmp .ne 22, 3) := by decide +kernel
theorem d_Reader_may_58 : decode b_Reader_may 58 = .ok (.iload_n 2, 1) := by decide +kernel
theorem d_Reader_may_59 : decode b_Reader_may 59 = .ok (.aload_n 0, 1) := by decide +kernel
theorem d_Reader_may_60 : decode b_Reader_may 60 = .ok (.getfield 77, 3) := by decide +kernel
theorem d_Reader_may_63 : decode b_Reader_may 63 = .ok (.ifCond .eq 9, 3) := by decide +kernel
theorem d_Reader_may_66 : decode b_Reader_may 66 = .ok (.sipush 2112, 3) := by decide +kernel
theorem d_Reader_may_69 : decode b_Reader_may 69 = .ok (.goto 6, 3) := by decide +kernel
theorem d_Reader_may_72 : decode b_Reader_may 72 = .ok (.sipush 28787, 3) := by decide +kernel
theorem d_Reader_may_75 : decode b_Reader_may 75 = .ok (.ior, 1) := by decide +kernel
theorem d_Reader_may_76 : decode b_Reader_may 76 = .ok (.istore_n 2, 1) := by decide +kernel
theorem d_Reader_may_77 : decode b_Reader_may 77 = .ok (.iload_n 2, 1) := by decide +kernel
theorem d_Reader_may_78 : decode b_Reader_may 78 = .ok (.iload_n 1, 1) := by decide +kernel
theorem d_Reader_may_79 : decode b_Reader_may 79 = .ok (.iand, 1) := by decide +kernel
theorem d_Reader_may_80 : decode b_Reader_may 80 = .ok (.ifCond .eq 7, 3) := by decide +kernel
theorem d_Reader_may_83 : decode b_Reader_may 83 = .ok (.iconst 1, 1) := by decide +kernel
theorem d_Reader_may_84 : decode b_Reader_may 84 = .ok (.goto 4, 3) := by decide +kernel
theorem d_Reader_may_87 : decode b_Reader_may 87 = .ok (.iconst 0, 1) := by decide +kernel
theorem d_Reader_may_88 : decode b_Reader_may 88 = .ok (.ireturn, 1) := by decide +kernel
def w_Reader_may : List Cond := .code y_Reader_may b_Reader_may 3 (some .boolean) :: WALL
theorem g_Reader_may : GoodIn WALL w_Reader_may := good_of mc_Reader_may
set_option maxHeartbeats 4000000 in
set_option maxRecDepth 100000 in
theorem c_Reader_may (l : Launch) (D : va_G) (cA a : Nat → Nat) (sz : Nat) (x1 : Int32) (I : Nat → Int32) (A : Nat → Nat → Int32) (post : Int32 → (Nat → Int32) → (Nat → Nat → Int32) → Prop) (h : wp_Reader_may x1 I A post) : Met l y_Reader_may w_Reader_may ({ frames := 0, cells := 0, slots := 0, locals := 0 }) (va_Pc [.ref (a 2), .int x1] (PreC D cA a I A sz)) (va_Qi (fun r (u : StW) => post r u.1 u.2) (EndC D cA a) (AC a sz)) 0 0 (AC a sz) := by
  refine Met.ofW (cc := b_Reader_may) (maxL := 3) (ret := (some .boolean)) (by decide) rfl ?_
  intro p e s m args below meth c s₁ B hml hv
  obtain ⟨rfl, hsz, hP, hK, hD0⟩ := hv
  have hx := B.exec
  have hb := B.bytes
  have hr := B.returns
  have hts := atoms_spec (ws := w_Reader_may) B.pre
  have hw := wall_of hts
  have hown : s.vm.findClass R_Reader = some m.cls := findClass_of_methodNamed B.named
  have hlocks := B.notSynchronized
  subst hsz
  have hD := hDC (sz := s.heap.size) hD0
  have hA : ∀ q : Nat, s.heap.size ≤ q → AC a s.heap.size q := fun q h => Or.inr h
  have hS : va_S (AC a s.heap.size) s.heap s.heap [] := va_S.rf
  have j58 : ∀ (y1 : Int32) (y2 : Int32) (I : Nat → Int32) (A : Nat → Nat → Int32) (H : Heap) (locs : List Loc) (ls : Array Slot), wp_Reader_may_58 post y1 y2 I A → va_P D cls (wC cA a I A) H → va_S (AC a s.heap.size) s.heap H locs → lv_has ls 3 [(0, .ref (a 2)), (1, .int y1), (2, .int y2)] → W p l e (headSpec w_Reader_may ({ frames := 0, cells := 0, slots := 0, locals := 0 })).room s m [.ref (a 2), .int x1].toArray below meth c H locs 0 0 (MQ below (va_Qi (fun r (u : StW) => post r u.1 u.2) (EndC D cA a) (AC a s.heap.size)) [.ref (a 2), .int x1].toArray s 0 0 (AC a s.heap.size)) (F0 m 58 ls []) := by
    intro y1 y2 I A H locs ls h hP hS hl
    unfold wp_Reader_may_58 at h
    refine lv_iload_n hx hb d_Reader_may_58 rfl (lv_at hl 2 rfl) ?_
    refine lv_aload_n hx hb d_Reader_may_59 rfl (lv_at hl 0 rfl) ?_
    refine gC_Reader_inChord hx hb hw hown hK hP (hw _ m_Reader_77) d_Reader_may_60 ?_
    refine lv_if_eq (tgt := 72) hx hb d_Reader_may_63 rfl (fun q => ?_) (fun q => ?_)
    · have h := h.1 q
      refine lv_sipush (v := 28787) hx hb d_Reader_may_72 sp_28787 ?_
      refine lv_ior hx hb d_Reader_may_75 ?_
      refine lv_topi (fun v76 ev76 => ?_)
      have h := h v76 ev76
      refine lv_istore_n (lv' := [(2, .int v76), (0, .ref (a 2)), (1, .int y1)]) hx hb d_Reader_may_76 rfl hl (by decide) rfl (fun ls hl => ?_)
      refine lv_iload_n hx hb d_Reader_may_77 rfl (lv_at hl 0 rfl) ?_
      refine lv_iload_n hx hb d_Reader_may_78 rfl (lv_at hl 2 rfl) ?_
      refine lv_iand hx hb d_Reader_may_79 ?_
      refine lv_if_eq (tgt := 87) hx hb d_Reader_may_80 rfl (fun q => ?_) (fun q => ?_)
      · have h := h.1 q
        refine lv_iconst (v := 0) hx hb d_Reader_may_87 ic_0 ?_
        exact W.zret hx hb hr (vz_n vz0) (fun t ht hW => ⟨⟨_, (I, A), rfl, h, endC_of ht hP⟩, hS.F ht⟩) hS.2.2 d_Reader_may_88
      · have h := h.2 q
        refine lv_iconst (v := 1) hx hb d_Reader_may_83 ic_1 ?_
        refine lv_goto (tgt := 88) hx hb d_Reader_may_84 rfl ?_
        exact W.zret hx hb hr (vz_n vz1) (fun t ht hW => ⟨⟨_, (I, A), rfl, h, endC_of ht hP⟩, hS.F ht⟩) hS.2.2 d_Reader_may_88
    · have h := h.2 q
      refine lv_sipush (v := 2112) hx hb d_Reader_may_66 sp_2112 ?_
      refine lv_goto (tgt := 75) hx hb d_Reader_may_69 rfl ?_
      refine lv_ior hx hb d_Reader_may_75 ?_
      refine lv_topi (fun v76 ev76 => ?_)
      have h := h v76 ev76
      refine lv_istore_n (lv' := [(2, .int v76), (0, .ref (a 2)), (1, .int y1)]) hx hb d_Reader_may_76 rfl hl (by decide) rfl (fun ls hl => ?_)
      refine lv_iload_n hx hb d_Reader_may_77 rfl (lv_at hl 0 rfl) ?_
      refine lv_iload_n hx hb d_Reader_may_78 rfl (lv_at hl 2 rfl) ?_
      refine lv_iand hx hb d_Reader_may_79 ?_
      refine lv_if_eq (tgt := 87) hx hb d_Reader_may_80 rfl (fun q => ?_) (fun q => ?_)
      · have h := h.1 q
        refine lv_iconst (v := 0) hx hb d_Reader_may_87 ic_0 ?_
        exact W.zret hx hb hr (vz_n vz0) (fun t ht hW => ⟨⟨_, (I, A), rfl, h, endC_of ht hP⟩, hS.F ht⟩) hS.2.2 d_Reader_may_88
      · have h := h.2 q
        refine lv_iconst (v := 1) hx hb d_Reader_may_83 ic_1 ?_
        refine lv_goto (tgt := 88) hx hb d_Reader_may_84 rfl ?_
        exact W.zret hx hb hr (vz_n vz1) (fun t ht hW => ⟨⟨_, (I, A), rfl, h, endC_of ht hP⟩, hS.F ht⟩) hS.2.2 d_Reader_may_88
  have j30 : ∀ (y1 : Int32) (s0 : Int32) (I : Nat → Int32) (A : Nat → Nat → Int32) (H : Heap) (locs : List Loc) (ls : Array Slot), wp_Reader_may_30 post y1 s0 I A → va_P D cls (wC cA a I A) H → va_S (AC a s.heap.size) s.heap H locs → lv_has ls 3 [(0, .ref (a 2)), (1, .int y1)] → W p l e (headSpec w_Reader_may ({ frames := 0, cells := 0, slots := 0, locals := 0 })).room s m [.ref (a 2), .int x1].toArray below meth c H locs 0 0 (MQ below (va_Qi (fun r (u : StW) => post r u.1 u.2) (EndC D cA a) (AC a s.heap.size)) [.ref (a 2), .int x1].toArray s 0 0 (AC a s.heap.size)) (F0 m 30 ls [.int s0]) := by
    intro y1 s0 I A H locs ls h hP hS hl
    unfold wp_Reader_may_30 at h
    refine lv_istore_n (lv' := [(2, .int s0), (0, .ref (a 2)), (1, .int y1)]) hx hb d_Reader_may_30 rfl hl (by decide) rfl (fun ls hl => ?_)
    refine lv_aload_n hx hb d_Reader_may_31 rfl (lv_at hl 1 rfl) ?_
    refine gC_Reader_state hx hb hw hown hK hP (hw _ m_Reader_55) d_Reader_may_32 ?_
    refine lv_bipush (v := 11) hx hb d_Reader_may_35 bp_11 ?_
    refine lv_icmp_eq (tgt := 58) hx hb d_Reader_may_37 rfl (fun q => ?_) (fun q => ?_)
    · have h := h.1 q
      exact j58 y1 s0 I A _ _ _ h hP hS (lv_sub hl [1, 2, 0] rfl)
    · have h := h.2 q
      refine lv_aload_n hx hb d_Reader_may_40 rfl (lv_at hl 1 rfl) ?_
      refine gC_Reader_state hx hb hw hown hK hP (hw _ m_Reader_55) d_Reader_may_41 ?_
      refine lv_bipush (v := 12) hx hb d_Reader_may_44 bp_12 ?_
      refine lv_icmp_eq (tgt := 58) hx hb d_Reader_may_46 rfl (fun q => ?_) (fun q => ?_)
      · have h := h.1 q
        exact j58 y1 s0 I A _ _ _ h hP hS (lv_sub hl [1, 2, 0] rfl)
      · have h := h.2 q
        refine lv_aload_n hx hb d_Reader_may_49 rfl (lv_at hl 1 rfl) ?_
        refine gC_Reader_state hx hb hw hown hK hP (hw _ m_Reader_55) d_Reader_may_50 ?_
        refine lv_bipush (v := 13) hx hb d_Reader_may_53 bp_13 ?_
        refine lv_icmp_ne (tgt := 77) hx hb d_Reader_may_55 rfl (fun q => ?_) (fun q => ?_)
        · have h := h.2 q
          refine lv_iload_n hx hb d_Reader_may_77 rfl (lv_at hl 0 rfl) ?_
          refine lv_iload_n hx hb d_Reader_may_78 rfl (lv_at hl 2 rfl) ?_
          refine lv_iand hx hb d_Reader_may_79 ?_
          refine lv_if_eq (tgt := 87) hx hb d_Reader_may_80 rfl (fun q => ?_) (fun q => ?_)
          · have h := h.1 q
            refine lv_iconst (v := 0) hx hb d_Reader_may_87 ic_0 ?_
            exact W.zret hx hb hr (vz_n vz0) (fun t ht hW => ⟨⟨_, (I, A), rfl, h, endC_of ht hP⟩, hS.F ht⟩) hS.2.2 d_Reader_may_88
          · have h := h.2 q
            refine lv_iconst (v := 1) hx hb d_Reader_may_83 ic_1 ?_
            refine lv_goto (tgt := 88) hx hb d_Reader_may_84 rfl ?_
            exact W.zret hx hb hr (vz_n vz1) (fun t ht hW => ⟨⟨_, (I, A), rfl, h, endC_of ht hP⟩, hS.F ht⟩) hS.2.2 d_Reader_may_88
        · have h := h.1 q
          exact j58 y1 s0 I A _ _ _ h hP hS (lv_sub hl [1, 2, 0] rfl)
  have hl := lv_entry ([.ref (a 2), .int x1]) (n := 3) (Nat.le_of_ble_eq_true rfl)
  rw [lg_entry_eq]
  generalize (lg_sl ([.ref (a 2), .int x1]) ++ List.replicate (3 - (lg_sl ([.ref (a 2), .int x1])).length) Slot.unset).toArray = ls at hl ⊢
  have hl : lv_has ls 3 [(0, .ref (a 2)), (1, .int x1)] := hl
  unfold wp_Reader_may at h
  refine lv_aload_n hx hb d_Reader_may_0 rfl (lv_at hl 0 rfl) ?_
  refine gC_Reader_state hx hb hw hown hK hP (hw _ m_Reader_55) d_Reader_may_1 ?_
  refine lv_if_lt (tgt := 29) hx hb d_Reader_may_4 rfl (fun q => ?_) (fun q => ?_)
  · have h := h.1 q
    refine lv_iconst (v := 0) hx hb d_Reader_may_29 ic_0 ?_
    exact j30 x1 0 I A _ _ _ h hP hS (lv_sub hl [0, 1] rfl)
  · have h := h.2 q
    refine lv_aload_n hx hb d_Reader_may_7 rfl (lv_at hl 0 rfl) ?_
    refine gC_Reader_state hx hb hw hown hK hP (hw _ m_Reader_55) d_Reader_may_8 ?_
    refine zC_MAY hx hb hown hK hS (hw _ m_Reader_167) d_Reader_may_11 ?_
    refine tlC_MAY hx hb hK hS d_Reader_may_14 ?_
    refine lv_icmp_ge (tgt := 29) hx hb d_Reader_may_15 rfl (fun q => ?_) (fun q => ?_)
    · have h := h.1 q
      refine lv_iconst (v := 0) hx hb d_Reader_may_29 ic_0 ?_
      exact j30 x1 0 I A _ _ _ h hP hS (lv_sub hl [0, 1] rfl)
    · have h := h.2 q
      refine zC_MAY hx hb hown hK hS (hw _ m_Reader_167) d_Reader_may_18 ?_
      refine lv_aload_n hx hb d_Reader_may_21 rfl (lv_at hl 0 rfl) ?_
      refine gC_Reader_state hx hb hw hown hK hP (hw _ m_Reader_55) d_Reader_may_22 ?_
      obtain ⟨hin, h⟩ := h
      refine tC_MAY hx hb hK hS hin d_Reader_may_25 ?_
      refine lv_goto (tgt := 30) hx hb d_Reader_may_26 rfl ?_
      exact j30 x1 (tb_MAY (I 14).toNatClampNeg) I A _ _ _ h hP hS (lv_sub hl [0, 1] rfl)
theorem k_Reader_may {p : Program} {l : Launch} {e : Env} {R : Room} {s : State} {m : MethodId} {args : Array Value} {below : List Frame} {meth : Method} {c : Code} {H : Heap} {locs : List Loc} {cells slots : Nat} {Q : State → Prop} {cc : ByteArray} {pc nL idx : Nat} {own : String} {ls : Array Slot} {D : va_G} {cA a : Nat → Nat} {AA : Nat → Prop} {I : Nat → Int32} {A : Nat → Nat → Int32} {post : Int32 → (Nat → Int32) → (Nat → Nat → Int32) → Prop} (x1 : Int32) {rest : List Value} (S : CallFix p m c cc nL s args WALL own) (hK : KC D cA a AA s) (hD : ∀ I A, va_D AA (wC cA a I A)) (hA : ∀ q : Nat, s.heap.size ≤ q → AA q) (hS : va_S AA s.heap H locs) (hP : va_P D cls (wC cA a I A) H) (hl1 : ls.size = nL) (hlink : (Cond.methodLink own idx y_Reader_may).before args s = true) (hst : (rest.map fun v => v.category).sum ≤ 8) (hR : ({ frames := 0, cells := 0, slots := 0, locals := 0 } : Room).frames + 1 ≤ R.frames ∧ 8 + (3 + 11) + ({ frames := 0, cells := 0, slots := 0, locals := 0 } : Room).locals ≤ R.locals) (hcs : cells ≤ R.cells ∧ slots ≤ R.slots) (hdg : decode cc pc = .ok (.invokevirtual idx, 3)) (h : wp_Reader_may x1 I A post) (kk : ∀ (r : Int32) (I1 : Nat → Int32) (A1 : Nat → Nat → Int32) (H1 : Heap) (locs1 : List Loc), post r I1 A1 → va_P D cls (wC cA a I1 A1) H1 → va_S AA s.heap H1 locs1 → W p l e R s m args below meth c H1 locs1 cells slots Q (F0 m (pc + 3) ls (.int r :: rest))) : W p l e R s m args below meth c H locs cells slots Q (F0 m pc ls (.int x1 :: .ref (a 2) :: rest)) :=
  va_calli (va_runV (As := [.int x1]) (rest := rest) S (c_Reader_may l D cA a H.size x1 I A post h) ⟨callB_of 1 S.2.2.2.2 g_Reader_may rfl rfl rfl (S.2.2.2.2 _ mi_Reader) hlink ⟨by decide, by decide, by decide +kernel⟩ hR, S.2.2.2.2 _ mn_Reader_may, S.2.2.2.2 _ ms_Reader_may⟩ (preCV hK hD hA hS hP 2 rfl rfl) rfl rfl hl1 rfl (lv_room hst) hdg hcs) hS (fun q _ z => AC_le hD hA hS q z) (fun q z => AC_le hD hA hS q z) (fun r u t H1 locs1 ht _ hp hB _ _ hS1 => kk r u.1 u.2 H1 locs1 hp (of_endC ht hB) hS1)
def wp_Reader_behindSpace (I : Nat → Int32) (A : Nat → Nat → Int32) (post : Int32 → (Nat → Int32) → (Nat → Nat → Int32) → Prop) : Prop := (((I 14) = 0 → post (I 14) I A) ∧ (¬ (I 14) = 0 → (((I 14) = 5 → post (I 14) I A) ∧ (¬ (I 14) = 5 → (((I 20) = 0 → post 3 I A) ∧ (¬ (I 20) = 0 → post 19 I A))))))
theorem d_Reader_behindSpace_0 : decode b_Reader_behindSpace 0 = .ok (.aload_n 0, 1) := by decide +kernel
theorem d_Reader_behindSpace_1 : decode b_Reader_behindSpace 1 = .ok (.getfield 55, 3) := by decide +kernel
theorem d_Reader_behindSpace_4 : decode b_Reader_behindSpace 4 = .ok (.ifCond .eq 11, 3) := by decide +kernel
theorem d_Reader_behindSpace_7 : decode b_Reader_behindSpace 7 = .ok (.aload_n 0, 1) := by decide +kernel
theorem d_Reader_behindSpace_8 : decode b_Reader_behindSpace 8 = .ok (.getfield 55, 3) := by decide +kernel
theorem d_Reader_behindSpace_11 : decode b_Reader_behindSpace 11 = .ok (.iconst 5, 1) := by decide +kernel
theorem d_Reader_behindSpace_12 : decode b_Reader_behindSpace 12 = .ok (.if_icmp .ne 8, 3) := by decide +kernel
theorem d_Reader_behindSpace_15 : decode b_Reader_behindSpace 15 = .ok (.aload_n 0, 1) := by decide +kernel
theorem d_Reader_behindSpace_16 : decode b_Reader_behindSpace 16 = .ok (.getfield 55, 3) := by decide +kernel
theorem d_Reader_behindSpace_19 : decode b_Reader_behindSpace 19 = .ok (.ireturn, 1) := by decide +kernel
theorem d_Reader_behindSpace_20 : decode b_Reader_behindSpace 20 = .ok (.aload_n 0, 1) := by decide +kernel
theorem d_Reader_behindSpace_21 : decode b_Reader_behindSpace 21 = .ok (.getfield 70, 3) := by decide +kernel
theorem d_Reader_behindSpace_24 : decode b_Reader_behindSpace 24 = .ok (.ifCond .eq 8, 3) := by decide +kernel
theorem d_Reader_behindSpace_27 : decode b_Reader_behindSpace 27 = .ok (.bipush 19, 2) := by decide +kernel
theorem d_Reader_behindSpace_29 : decode b_Reader_behindSpace 29 = .ok (.goto 4, 3) := by decide +kernel
theorem d_Reader_behindSpace_32 : decode b_Reader_behindSpace 32 = .ok (.iconst 3, 1) := by decide +kernel
theorem d_Reader_behindSpace_33 : decode b_Reader_behindSpace 33 = .ok (.ireturn, 1) := by decide +kernel
def w_Reader_behindSpace : List Cond := .code y_Reader_behindSpace b_Reader_behindSpace 1 (some .int) :: WALL
theorem g_Reader_behindSpace : GoodIn WALL w_Reader_behindSpace := good_of mc_Reader_behindSpace
set_option maxHeartbeats 4000000 in
set_option maxRecDepth 100000 in
theorem c_Reader_behindSpace (l : Launch) (D : va_G) (cA a : Nat → Nat) (sz : Nat) (I : Nat → Int32) (A : Nat → Nat → Int32) (post : Int32 → (Nat → Int32) → (Nat → Nat → Int32) → Prop) (h : wp_Reader_behindSpace I A post) : Met l y_Reader_behindSpace w_Reader_behindSpace ({ frames := 0, cells := 0, slots := 0, locals := 0 }) (va_Pc [.ref (a 2)] (PreC D cA a I A sz)) (va_Qi (fun r (u : StW) => post r u.1 u.2) (EndC D cA a) (AC a sz)) 0 0 (AC a sz) := by
  refine Met.ofW (cc := b_Reader_behindSpace) (maxL := 1) (ret := (some .int)) (by decide) rfl ?_
  intro p e s m args below meth c s₁ B hml hv
  obtain ⟨rfl, hsz, hP, hK, hD0⟩ := hv
  have hx := B.exec
  have hb := B.bytes
  have hr := B.returns
  have hts := atoms_spec (ws := w_Reader_behindSpace) B.pre
  have hw := wall_of hts
  have hown : s.vm.findClass R_Reader = some m.cls := findClass_of_methodNamed B.named
  have hlocks := B.notSynchronized
  subst hsz
  have hD := hDC (sz := s.heap.size) hD0
  have hA : ∀ q : Nat, s.heap.size ≤ q → AC a s.heap.size q := fun q h => Or.inr h
  have hS : va_S (AC a s.heap.size) s.heap s.heap [] := va_S.rf
  have hl := lv_entry ([.ref (a 2)]) (n := 1) (Nat.le_of_ble_eq_true rfl)
  rw [lg_entry_eq]
  generalize (lg_sl ([.ref (a 2)]) ++ List.replicate (1 - (lg_sl ([.ref (a 2)])).length) Slot.unset).toArray = ls at hl ⊢
  have hl : lv_has ls 1 [(0, .ref (a 2))] := hl
  unfold wp_Reader_behindSpace at h
  refine lv_aload_n hx hb d_Reader_behindSpace_0 rfl (lv_at hl 0 rfl) ?_
  refine gC_Reader_state hx hb hw hown hK hP (hw _ m_Reader_55) d_Reader_behindSpace_1 ?_
  refine lv_if_eq (tgt := 15) hx hb d_Reader_behindSpace_4 rfl (fun q => ?_) (fun q => ?_)
  · have h := h.1 q
    refine lv_aload_n hx hb d_Reader_behindSpace_15 rfl (lv_at hl 0 rfl) ?_
    refine gC_Reader_state hx hb hw hown hK hP (hw _ m_Reader_55) d_Reader_behindSpace_16 ?_
    exact W.iret hx hb hr (fun t ht hW => ⟨⟨_, (I, A), rfl, h, endC_of ht hP⟩, hS.F ht⟩) hS.2.2 d_Reader_behindSpace_19
  · have h := h.2 q
    refine lv_aload_n hx hb d_Reader_behindSpace_7 rfl (lv_at hl 0 rfl) ?_
    refine gC_Reader_state hx hb hw hown hK hP (hw _ m_Reader_55) d_Reader_behindSpace_8 ?_
    refine lv_iconst (v := 5) hx hb d_Reader_behindSpace_11 ic_5 ?_
    refine lv_icmp_ne (tgt := 20) hx hb d_Reader_behindSpace_12 rfl (fun q => ?_) (fun q => ?_)
    · have h := h.2 q
      refine lv_aload_n hx hb d_Reader_behindSpace_20 rfl (lv_at hl 0 rfl) ?_
      refine gC_Reader_inBar hx hb hw hown hK hP (hw _ m_Reader_70) d_Reader_behindSpace_21 ?_
      refine lv_if_eq (tgt := 32) hx hb d_Reader_behindSpace_24 rfl (fun q => ?_) (fun q => ?_)
      · have h := h.1 q
        refine lv_iconst (v := 3) hx hb d_Reader_behindSpace_32 ic_3 ?_
        exact W.iret hx hb hr (fun t ht hW => ⟨⟨_, (I, A), rfl, h, endC_of ht hP⟩, hS.F ht⟩) hS.2.2 d_Reader_behindSpace_33
      · have h := h.2 q
        refine lv_bipush (v := 19) hx hb d_Reader_behindSpace_27 bp_19 ?_
        refine lv_goto (tgt := 33) hx hb d_Reader_behindSpace_29 rfl ?_
        exact W.iret hx hb hr (fun t ht hW => ⟨⟨_, (I, A), rfl, h, endC_of ht hP⟩, hS.F ht⟩) hS.2.2 d_Reader_behindSpace_33
    · have h := h.1 q
      refine lv_aload_n hx hb d_Reader_behindSpace_15 rfl (lv_at hl 0 rfl) ?_
      refine gC_Reader_state hx hb hw hown hK hP (hw _ m_Reader_55) d_Reader_behindSpace_16 ?_
      exact W.iret hx hb hr (fun t ht hW => ⟨⟨_, (I, A), rfl, h, endC_of ht hP⟩, hS.F ht⟩) hS.2.2 d_Reader_behindSpace_19
theorem k_Reader_behindSpace {p : Program} {l : Launch} {e : Env} {R : Room} {s : State} {m : MethodId} {args : Array Value} {below : List Frame} {meth : Method} {c : Code} {H : Heap} {locs : List Loc} {cells slots : Nat} {Q : State → Prop} {cc : ByteArray} {pc nL idx : Nat} {own : String} {ls : Array Slot} {D : va_G} {cA a : Nat → Nat} {AA : Nat → Prop} {I : Nat → Int32} {A : Nat → Nat → Int32} {post : Int32 → (Nat → Int32) → (Nat → Nat → Int32) → Prop} {rest : List Value} (S : CallFix p m c cc nL s args WALL own) (hK : KC D cA a AA s) (hD : ∀ I A, va_D AA (wC cA a I A)) (hA : ∀ q : Nat, s.heap.size ≤ q → AA q) (hS : va_S AA s.heap H locs) (hP : va_P D cls (wC cA a I A) H) (hl1 : ls.size = nL) (hlink : (Cond.methodLink own idx y_Reader_behindSpace).before args s = true) (hst : (rest.map fun v => v.category).sum ≤ 8) (hR : ({ frames := 0, cells := 0, slots := 0, locals := 0 } : Room).frames + 1 ≤ R.frames ∧ 8 + (1 + 11) + ({ frames := 0, cells := 0, slots := 0, locals := 0 } : Room).locals ≤ R.locals) (hcs : cells ≤ R.cells ∧ slots ≤ R.slots) (hdg : decode cc pc = .ok (.invokevirtual idx, 3)) (h : wp_Reader_behindSpace I A post) (kk : ∀ (r : Int32) (I1 : Nat → Int32) (A1 : Nat → Nat → Int32) (H1 : Heap) (locs1 : List Loc), post r I1 A1 → va_P D cls (wC cA a I1 A1) H1 → va_S AA s.heap H1 locs1 → W p l e R s m args below meth c H1 locs1 cells slots Q (F0 m (pc + 3) ls (.int r :: rest))) : W p l e R s m args below meth c H locs cells slots Q (F0 m pc ls (.ref (a 2) :: rest)) :=
  va_calli (va_runV (As := []) (rest := rest) S (c_Reader_behindSpace l D cA a H.size I A post h) ⟨callB_of 0 S.2.2.2.2 g_Reader_behindSpace rfl rfl rfl (S.2.2.2.2 _ mi_Reader) hlink ⟨by decide, by decide, by decide +kernel⟩ hR, S.2.2.2.2 _ mn_Reader_behindSpace, S.2.2.2.2 _ ms_Reader_behindSpace⟩ (preCV hK hD hA hS hP 2 rfl rfl) rfl rfl hl1 rfl (lv_room hst) hdg hcs) hS (fun q _ z => AC_le hD hA hS q z) (fun q z => AC_le hD hA hS q z) (fun r u t H1 locs1 ht _ hp hB _ _ hS1 => kk r u.1 u.2 H1 locs1 hp (of_endC ht hB) hS1)
def wp_Tune_isRest (I : Nat → Int32) (A : Nat → Nat → Int32) (post : Int32 → (Nat → Int32) → (Nat → Nat → Int32) → Prop) : Prop := (((I 1) = 0 → post 1 I A) ∧ (¬ (I 1) = 0 → (vp_in ((I 1) - 1) 49 ∧ (((A 9 (((I 1) - 1).toNatClampNeg)) = (I 2) → post 1 I A) ∧ (¬ (A 9 (((I 1) - 1).toNatClampNeg)) = (I 2) → post 0 I A)))))
theorem d_Tune_isRest_0 : decode b_Tune_isRest 0 = .ok (.aload_n 0, 1) := by decide +kernel
theorem d_Tune_isRest_1 : decode b_Tune_isRest 1 = .ok (.getfield 44, 3) := by decide +kernel
theorem d_Tune_isRest_4 : decode b_Tune_isRest 4 = .ok (.ifCond .eq 21, 3) := by decide +kernel
theorem d_Tune_isRest_7 : decode b_Tune_isRest 7 = .ok (.aload_n 0, 1) := by decide +kernel
theorem d_Tune_isRest_8 : decode b_Tune_isRest 8 = .ok (.getfield 27, 3) := by decide +kernel
theorem d_Tune_isRest_11 : decode b_Tune_isRest 11 = .ok (.aload_n 0, 1) := by decide +kernel
theorem d_Tune_isRest_12 : decode b_Tune_isRest 12 = .ok (.getfield 44, 3) := by decide +kernel
theorem d_Tune_isRest_15 : decode b_Tune_isRest 15 = .ok (.iconst 1, 1) := by decide +kernel
theorem d_Tune_isRest_16 : decode b_Tune_isRest 16 = .ok (.isub, 1) := by decide +kernel
theorem d_Tune_isRest_17 : decode b_Tune_isRest 17 = .ok (.iaload, 1) := by decide +kernel
theorem d_Tune_isRest_18 : decode b_Tune_isRest 18 = .ok (.aload_n 0, 1) := by decide +kernel
theorem d_Tune_isRest_19 : decode b_Tune_isRest 19 = .ok (.getfield 47, 3) := by decide +kernel
theorem d_Tune_isRest_22 : decode b_Tune_isRest 22 = .ok (.if_icmp .ne 7, 3) := by decide +kernel
theorem d_Tune_isRest_25 : decode b_Tune_isRest 25 = .ok (.iconst 1, 1) := by decide +kernel
theorem d_Tune_isRest_26 : decode b_Tune_isRest 26 = .ok (.goto 4, 3) := by decide +kernel
theorem d_Tune_isRest_29 : decode b_Tune_isRest 29 = .ok (.iconst 0, 1) := by decide +kernel
theorem d_Tune_isRest_30 : decode b_Tune_isRest 30 = .ok (.ireturn, 1) := by decide +kernel
def w_Tune_isRest : List Cond := .code y_Tune_isRest b_Tune_isRest 1 (some .boolean) :: WALL
theorem g_Tune_isRest : GoodIn WALL w_Tune_isRest := good_of mc_Tune_isRest
set_option maxHeartbeats 4000000 in
set_option maxRecDepth 100000 in
theorem c_Tune_isRest (l : Launch) (D : va_G) (cA a : Nat → Nat) (sz : Nat) (I : Nat → Int32) (A : Nat → Nat → Int32) (post : Int32 → (Nat → Int32) → (Nat → Nat → Int32) → Prop) (h : wp_Tune_isRest I A post) : Met l y_Tune_isRest w_Tune_isRest ({ frames := 0, cells := 0, slots := 0, locals := 0 }) (va_Pc [.ref (a 3)] (PreC D cA a I A sz)) (va_Qi (fun r (u : StW) => post r u.1 u.2) (EndC D cA a) (AC a sz)) 0 0 (AC a sz) := by
  refine Met.ofW (cc := b_Tune_isRest) (maxL := 1) (ret := (some .boolean)) (by decide) rfl ?_
  intro p e s m args below meth c s₁ B hml hv
  obtain ⟨rfl, hsz, hP, hK, hD0⟩ := hv
  have hx := B.exec
  have hb := B.bytes
  have hr := B.returns
  have hts := atoms_spec (ws := w_Tune_isRest) B.pre
  have hw := wall_of hts
  have hown : s.vm.findClass R_Tune = some m.cls := findClass_of_methodNamed B.named
  have hlocks := B.notSynchronized
  subst hsz
  have hD := hDC (sz := s.heap.size) hD0
  have hA : ∀ q : Nat, s.heap.size ≤ q → AC a s.heap.size q := fun q h => Or.inr h
  have hS : va_S (AC a s.heap.size) s.heap s.heap [] := va_S.rf
  have hl := lv_entry ([.ref (a 3)]) (n := 1) (Nat.le_of_ble_eq_true rfl)
  rw [lg_entry_eq]
  generalize (lg_sl ([.ref (a 3)]) ++ List.replicate (1 - (lg_sl ([.ref (a 3)])).length) Slot.unset).toArray = ls at hl ⊢
  have hl : lv_has ls 1 [(0, .ref (a 3))] := hl
  unfold wp_Tune_isRest at h
  refine lv_aload_n hx hb d_Tune_isRest_0 rfl (lv_at hl 0 rfl) ?_
  refine gC_Tune_itemCount hx hb hw hown hK hP (hw _ m_Tune_44) d_Tune_isRest_1 ?_
  refine lv_if_eq (tgt := 25) hx hb d_Tune_isRest_4 rfl (fun q => ?_) (fun q => ?_)
  · have h := h.1 q
    refine lv_iconst (v := 1) hx hb d_Tune_isRest_25 ic_1 ?_
    refine lv_goto (tgt := 30) hx hb d_Tune_isRest_26 rfl ?_
    exact W.zret hx hb hr (vz_n vz1) (fun t ht hW => ⟨⟨_, (I, A), rfl, h, endC_of ht hP⟩, hS.F ht⟩) hS.2.2 d_Tune_isRest_30
  · have h := h.2 q
    refine lv_aload_n hx hb d_Tune_isRest_7 rfl (lv_at hl 0 rfl) ?_
    refine gC_Tune_firstNote hx hb hw hown hK hP (hw _ m_Tune_27) d_Tune_isRest_8 ?_
    refine lv_aload_n hx hb d_Tune_isRest_11 rfl (lv_at hl 0 rfl) ?_
    refine gC_Tune_itemCount hx hb hw hown hK hP (hw _ m_Tune_44) d_Tune_isRest_12 ?_
    refine lv_iconst (v := 1) hx hb d_Tune_isRest_15 ic_1 ?_
    refine lv_isub hx hb d_Tune_isRest_16 ?_
    obtain ⟨hin, h⟩ := h
    refine lC9 hx hb hK hP hin d_Tune_isRest_17 ?_
    refine lv_aload_n hx hb d_Tune_isRest_18 rfl (lv_at hl 0 rfl) ?_
    refine gC_Tune_noteCount hx hb hw hown hK hP (hw _ m_Tune_47) d_Tune_isRest_19 ?_
    refine lv_icmp_ne (tgt := 29) hx hb d_Tune_isRest_22 rfl (fun q => ?_) (fun q => ?_)
    · have h := h.2 q
      refine lv_iconst (v := 0) hx hb d_Tune_isRest_29 ic_0 ?_
      exact W.zret hx hb hr (vz_n vz0) (fun t ht hW => ⟨⟨_, (I, A), rfl, h, endC_of ht hP⟩, hS.F ht⟩) hS.2.2 d_Tune_isRest_30
    · have h := h.1 q
      refine lv_iconst (v := 1) hx hb d_Tune_isRest_25 ic_1 ?_
      refine lv_goto (tgt := 30) hx hb d_Tune_isRest_26 rfl ?_
      exact W.zret hx hb hr (vz_n vz1) (fun t ht hW => ⟨⟨_, (I, A), rfl, h, endC_of ht hP⟩, hS.F ht⟩) hS.2.2 d_Tune_isRest_30
theorem k_Tune_isRest {p : Program} {l : Launch} {e : Env} {R : Room} {s : State} {m : MethodId} {args : Array Value} {below : List Frame} {meth : Method} {c : Code} {H : Heap} {locs : List Loc} {cells slots : Nat} {Q : State → Prop} {cc : ByteArray} {pc nL idx : Nat} {own : String} {ls : Array Slot} {D : va_G} {cA a : Nat → Nat} {AA : Nat → Prop} {I : Nat → Int32} {A : Nat → Nat → Int32} {post : Int32 → (Nat → Int32) → (Nat → Nat → Int32) → Prop} {rest : List Value} (S : CallFix p m c cc nL s args WALL own) (hK : KC D cA a AA s) (hD : ∀ I A, va_D AA (wC cA a I A)) (hA : ∀ q : Nat, s.heap.size ≤ q → AA q) (hS : va_S AA s.heap H locs) (hP : va_P D cls (wC cA a I A) H) (hl1 : ls.size = nL) (hlink : (Cond.methodLink own idx y_Tune_isRest).before args s = true) (hst : (rest.map fun v => v.category).sum ≤ 8) (hR : ({ frames := 0, cells := 0, slots := 0, locals := 0 } : Room).frames + 1 ≤ R.frames ∧ 8 + (1 + 11) + ({ frames := 0, cells := 0, slots := 0, locals := 0 } : Room).locals ≤ R.locals) (hcs : cells ≤ R.cells ∧ slots ≤ R.slots) (hdg : decode cc pc = .ok (.invokevirtual idx, 3)) (h : wp_Tune_isRest I A post) (kk : ∀ (r : Int32) (I1 : Nat → Int32) (A1 : Nat → Nat → Int32) (H1 : Heap) (locs1 : List Loc), post r I1 A1 → va_P D cls (wC cA a I1 A1) H1 → va_S AA s.heap H1 locs1 → W p l e R s m args below meth c H1 locs1 cells slots Q (F0 m (pc + 3) ls (.int r :: rest))) : W p l e R s m args below meth c H locs cells slots Q (F0 m pc ls (.ref (a 3) :: rest)) :=
  va_calli (va_runV (As := []) (rest := rest) S (c_Tune_isRest l D cA a H.size I A post h) ⟨callB_of 0 S.2.2.2.2 g_Tune_isRest rfl rfl rfl (S.2.2.2.2 _ mi_Tune) hlink ⟨by decide, by decide, by decide +kernel⟩ hR, S.2.2.2.2 _ mn_Tune_isRest, S.2.2.2.2 _ ms_Tune_isRest⟩ (preCV hK hD hA hS hP 3 rfl rfl) rfl rfl hl1 rfl (lv_room hst) hdg hcs) hS (fun q _ z => AC_le hD hA hS q z) (fun q z => AC_le hD hA hS q z) (fun r u t H1 locs1 ht _ hp hB _ _ hS1 => kk r u.1 u.2 H1 locs1 hp (of_endC ht hB) hS1)
def wp_ItemLength_takesDigit (I : Nat → Int32) (A : Nat → Nat → Int32) (post : Int32 → (Nat → Int32) → (Nat → Nat → Int32) → Prop) : Prop := ((3 ≤ (I 11) → post 0 I A) ∧ (¬ 3 ≤ (I 11) → post 1 I A))
theorem d_ItemLength_takesDigit_0 : decode b_ItemLength_takesDigit 0 = .ok (.aload_n 0, 1) := by decide +kernel
theorem d_ItemLength_takesDigit_1 : decode b_ItemLength_takesDigit 1 = .ok (.getfield 16, 3) := by decide +kernel
theorem d_ItemLength_takesDigit_4 : decode b_ItemLength_takesDigit 4 = .ok (.iconst 3, 1) := by decide +kernel
theorem d_ItemLength_takesDigit_5 : decode b_ItemLength_takesDigit 5 = .ok (.if_icmp .ge 7, 3) := by decide +kernel
theorem d_ItemLength_takesDigit_8 : decode b_ItemLength_takesDigit 8 = .ok (.iconst 1, 1) := by decide +kernel
theorem d_ItemLength_takesDigit_9 : decode b_ItemLength_takesDigit 9 = .ok (.goto 4, 3) := by decide +kernel
theorem d_ItemLength_takesDigit_12 : decode b_ItemLength_takesDigit 12 = .ok (.iconst 0, 1) := by decide +kernel
theorem d_ItemLength_takesDigit_13 : decode b_ItemLength_takesDigit 13 = .ok (.ireturn, 1) := by decide +kernel
def w_ItemLength_takesDigit : List Cond := .code y_ItemLength_takesDigit b_ItemLength_takesDigit 1 (some .boolean) :: WALL
theorem g_ItemLength_takesDigit : GoodIn WALL w_ItemLength_takesDigit := good_of mc_ItemLength_takesDigit
set_option maxHeartbeats 4000000 in
set_option maxRecDepth 100000 in
theorem c_ItemLength_takesDigit (l : Launch) (D : va_G) (cA a : Nat → Nat) (sz : Nat) (I : Nat → Int32) (A : Nat → Nat → Int32) (post : Int32 → (Nat → Int32) → (Nat → Nat → Int32) → Prop) (h : wp_ItemLength_takesDigit I A post) : Met l y_ItemLength_takesDigit w_ItemLength_takesDigit ({ frames := 0, cells := 0, slots := 0, locals := 0 }) (va_Pc [.ref (a 15)] (PreC D cA a I A sz)) (va_Qi (fun r (u : StW) => post r u.1 u.2) (EndC D cA a) (AC a sz)) 0 0 (AC a sz) := by
  refine Met.ofW (cc := b_ItemLength_takesDigit) (maxL := 1) (ret := (some .boolean)) (by decide) rfl ?_
  intro p e s m args below meth c s₁ B hml hv
  obtain ⟨rfl, hsz, hP, hK, hD0⟩ := hv
  have hx := B.exec
  have hb := B.bytes
  have hr := B.returns
  have hts := atoms_spec (ws := w_ItemLength_takesDigit) B.pre
  have hw := wall_of hts
  have hown : s.vm.findClass R_ItemLength = some m.cls := findClass_of_methodNamed B.named
  have hlocks := B.notSynchronized
  subst hsz
  have hD := hDC (sz := s.heap.size) hD0
  have hA : ∀ q : Nat, s.heap.size ≤ q → AC a s.heap.size q := fun q h => Or.inr h
  have hS : va_S (AC a s.heap.size) s.heap s.heap [] := va_S.rf
  have hl := lv_entry ([.ref (a 15)]) (n := 1) (Nat.le_of_ble_eq_true rfl)
  rw [lg_entry_eq]
  generalize (lg_sl ([.ref (a 15)]) ++ List.replicate (1 - (lg_sl ([.ref (a 15)])).length) Slot.unset).toArray = ls at hl ⊢
  have hl : lv_has ls 1 [(0, .ref (a 15))] := hl
  unfold wp_ItemLength_takesDigit at h
  refine lv_aload_n hx hb d_ItemLength_takesDigit_0 rfl (lv_at hl 0 rfl) ?_
  refine gC_ItemLength_digits hx hb hw hown hK hP (hw _ m_ItemLength_16) d_ItemLength_takesDigit_1 ?_
  refine lv_iconst (v := 3) hx hb d_ItemLength_takesDigit_4 ic_3 ?_
  refine lv_icmp_ge (tgt := 12) hx hb d_ItemLength_takesDigit_5 rfl (fun q => ?_) (fun q => ?_)
  · have h := h.1 q
    refine lv_iconst (v := 0) hx hb d_ItemLength_takesDigit_12 ic_0 ?_
    exact W.zret hx hb hr (vz_n vz0) (fun t ht hW => ⟨⟨_, (I, A), rfl, h, endC_of ht hP⟩, hS.F ht⟩) hS.2.2 d_ItemLength_takesDigit_13
  · have h := h.2 q
    refine lv_iconst (v := 1) hx hb d_ItemLength_takesDigit_8 ic_1 ?_
    refine lv_goto (tgt := 13) hx hb d_ItemLength_takesDigit_9 rfl ?_
    exact W.zret hx hb hr (vz_n vz1) (fun t ht hW => ⟨⟨_, (I, A), rfl, h, endC_of ht hP⟩, hS.F ht⟩) hS.2.2 d_ItemLength_takesDigit_13
theorem k_ItemLength_takesDigit {p : Program} {l : Launch} {e : Env} {R : Room} {s : State} {m : MethodId} {args : Array Value} {below : List Frame} {meth : Method} {c : Code} {H : Heap} {locs : List Loc} {cells slots : Nat} {Q : State → Prop} {cc : ByteArray} {pc nL idx : Nat} {own : String} {ls : Array Slot} {D : va_G} {cA a : Nat → Nat} {AA : Nat → Prop} {I : Nat → Int32} {A : Nat → Nat → Int32} {post : Int32 → (Nat → Int32) → (Nat → Nat → Int32) → Prop} {rest : List Value} (S : CallFix p m c cc nL s args WALL own) (hK : KC D cA a AA s) (hD : ∀ I A, va_D AA (wC cA a I A)) (hA : ∀ q : Nat, s.heap.size ≤ q → AA q) (hS : va_S AA s.heap H locs) (hP : va_P D cls (wC cA a I A) H) (hl1 : ls.size = nL) (hlink : (Cond.methodLink own idx y_ItemLength_takesDigit).before args s = true) (hst : (rest.map fun v => v.category).sum ≤ 8) (hR : ({ frames := 0, cells := 0, slots := 0, locals := 0 } : Room).frames + 1 ≤ R.frames ∧ 8 + (1 + 11) + ({ frames := 0, cells := 0, slots := 0, locals := 0 } : Room).locals ≤ R.locals) (hcs : cells ≤ R.cells ∧ slots ≤ R.slots) (hdg : decode cc pc = .ok (.invokevirtual idx, 3)) (h : wp_ItemLength_takesDigit I A post) (kk : ∀ (r : Int32) (I1 : Nat → Int32) (A1 : Nat → Nat → Int32) (H1 : Heap) (locs1 : List Loc), post r I1 A1 → va_P D cls (wC cA a I1 A1) H1 → va_S AA s.heap H1 locs1 → W p l e R s m args below meth c H1 locs1 cells slots Q (F0 m (pc + 3) ls (.int r :: rest))) : W p l e R s m args below meth c H locs cells slots Q (F0 m pc ls (.ref (a 15) :: rest)) :=
  va_calli (va_runV (As := []) (rest := rest) S (c_ItemLength_takesDigit l D cA a H.size I A post h) ⟨callB_of 0 S.2.2.2.2 g_ItemLength_takesDigit rfl rfl rfl (S.2.2.2.2 _ mi_ItemLength) hlink ⟨by decide, by decide, by decide +kernel⟩ hR, S.2.2.2.2 _ mn_ItemLength_takesDigit, S.2.2.2.2 _ ms_ItemLength_takesDigit⟩ (preCV hK hD hA hS hP 15 rfl rfl) rfl rfl hl1 rfl (lv_room hst) hdg hcs) hS (fun q _ z => AC_le hD hA hS q z) (fun q z => AC_le hD hA hS q z) (fun r u t H1 locs1 ht _ hp hB _ _ hS1 => kk r u.1 u.2 H1 locs1 hp (of_endC ht hB) hS1)

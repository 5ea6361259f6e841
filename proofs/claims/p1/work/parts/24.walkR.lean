def wp_TuneSetterModel_itemDone (I : Nat → Int32) (A : Nat → Nat → Int32) (post : (Nat → Int32) → (Nat → Nat → Int32) → Prop) : Prop := (wp_TuneSetterModel_parts I A (fun r11 I11 A11 => (wp_TuneSetterModel_divisor I11 A11 (fun r15 I15 A15 => (¬ r15 = 0 ∧ (vp_in ((I 8) - 1) 48 ∧ (vp_in ((I15 5) - 1) 8 ∧ (vp_in ((I15 8) - 1) 48 ∧ (vp_in ((I15 5) - 1) 8 ∧ (((I15 13) ≤ 0 → post (upd I15 13 0) (upd2 (upd2 A15 6 (((I 8) - 1).toNatClampNeg) (r11 / r15)) 4 (((I15 5) - 1).toNatClampNeg) ((A15 4 (((I15 5) - 1).toNatClampNeg)) + ((upd2 A15 6 (((I 8) - 1).toNatClampNeg) (r11 / r15)) 6 (((I15 8) - 1).toNatClampNeg))))) ∧ (¬ (I15 13) ≤ 0 → post (upd I15 13 ((I15 13) - 1)) (upd2 (upd2 A15 6 (((I 8) - 1).toNatClampNeg) (r11 / r15)) 4 (((I15 5) - 1).toNatClampNeg) ((A15 4 (((I15 5) - 1).toNatClampNeg)) + ((upd2 A15 6 (((I 8) - 1).toNatClampNeg) (r11 / r15)) 6 (((I15 8) - 1).toNatClampNeg)))))))))))))))
theorem d_TuneSetterModel_itemDone_0 : decode b_TuneSetterModel_itemDone 0 = .ok (.aload_n 0, 1) := by decide +kernel
theorem d_TuneSetterModel_itemDone_1 : decode b_TuneSetterModel_itemDone 1 = .ok (.getfield 38, 3) := by decide +kernel
theorem d_TuneSetterModel_itemDone_4 : decode b_TuneSetterModel_itemDone 4 = .ok (.aload_n 0, 1) := by decide +kernel
theorem d_TuneSetterModel_itemDone_5 : decode b_TuneSetterModel_itemDone 5 = .ok (.getfield 90, 3) := by decide +kernel
theorem d_TuneSetterModel_itemDone_8 : decode b_TuneSetterModel_itemDone 8 = .ok (.iconst 1, 1) := by decide +kernel
theorem d_TuneSetterModel_itemDone_9 : decode b_TuneSetterModel_itemDone 9 = .ok (.isub, 1) := by decide +kernel
theorem d_TuneSetterModel_itemDone_10 : decode b_TuneSetterModel_itemDone 10 = .ok (.aload_n 0, 1) := by decide +kernel
theorem d_TuneSetterModel_itemDone_11 : decode b_TuneSetterModel_itemDone 11 = .ok (.invokevirtual 238, 3) := by decide +kernel
theorem d_TuneSetterModel_itemDone_14 : decode b_TuneSetterModel_itemDone 14 = .ok (.aload_n 0, 1) := by decide +kernel
theorem d_TuneSetterModel_itemDone_15 : decode b_TuneSetterModel_itemDone 15 = .ok (.invokevirtual 241, 3) := by decide +kernel
theorem d_TuneSetterModel_itemDone_18 : decode b_TuneSetterModel_itemDone 18 = .ok (.idiv, 1) := by decide +kernel
theorem d_TuneSetterModel_itemDone_19 : decode b_TuneSetterModel_itemDone 19 = .ok (.iastore, 1) := by decide +kernel
theorem d_TuneSetterModel_itemDone_20 : decode b_TuneSetterModel_itemDone 20 = .ok (.aload_n 0, 1) := by decide +kernel
theorem d_TuneSetterModel_itemDone_21 : decode b_TuneSetterModel_itemDone 21 = .ok (.getfield 32, 3) := by decide +kernel
theorem d_TuneSetterModel_itemDone_24 : decode b_TuneSetterModel_itemDone 24 = .ok (.aload_n 0, 1) := by decide +kernel
theorem d_TuneSetterModel_itemDone_25 : decode b_TuneSetterModel_itemDone 25 = .ok (.getfield 87, 3) := by decide +kernel
theorem d_TuneSetterModel_itemDone_28 : decode b_TuneSetterModel_itemDone 28 = .ok (.iconst 1, 1) := by decide +kernel
theorem d_TuneSetterModel_itemDone_29 : decode b_TuneSetterModel_itemDone 29 = .ok (.isub, 1) := by decide +kernel
theorem d_TuneSetterModel_itemDone_30 : decode b_TuneSetterModel_itemDone 30 = .ok (.dup2, 1) := by decide +kernel
theorem d_TuneSetterModel_itemDone_31 : decode b_TuneSetterModel_itemDone 31 = .ok (.iaload, 1) := by decide +kernel
theorem d_TuneSetterModel_itemDone_32 : decode b_TuneSetterModel_itemDone 32 = .ok (.aload_n 0, 1) := by decide +kernel
theorem d_TuneSetterModel_itemDone_33 : decode b_TuneSetterModel_itemDone 33 = .ok (.getfield 38, 3) := by decide +kernel
theorem d_TuneSetterModel_itemDone_36 : decode b_TuneSetterModel_itemDone 36 = .ok (.aload_n 0, 1) := by decide +kernel
theorem d_TuneSetterModel_itemDone_37 : decode b_TuneSetterModel_itemDone 37 = .ok (.getfield 90, 3) := by decide +kernel
theorem d_TuneSetterModel_itemDone_40 : decode b_TuneSetterModel_itemDone 40 = .ok (.iconst 1, 1) := by decide +kernel
theorem d_TuneSetterModel_itemDone_41 : decode b_TuneSetterModel_itemDone 41 = .ok (.isub, 1) := by decide +kernel
theorem d_TuneSetterModel_itemDone_42 : decode b_TuneSetterModel_itemDone 42 = .ok (.iaload, 1) := by decide +kernel
theorem d_TuneSetterModel_itemDone_43 : decode b_TuneSetterModel_itemDone 43 = .ok (.iadd, 1) := by decide +kernel
theorem d_TuneSetterModel_itemDone_44 : decode b_TuneSetterModel_itemDone 44 = .ok (.iastore, 1) := by decide +kernel
theorem d_TuneSetterModel_itemDone_45 : decode b_TuneSetterModel_itemDone 45 = .ok (.aload_n 0, 1) := by decide +kernel
theorem d_TuneSetterModel_itemDone_46 : decode b_TuneSetterModel_itemDone 46 = .ok (.aload_n 0, 1) := by decide +kernel
theorem d_TuneSetterModel_itemDone_47 : decode b_TuneSetterModel_itemDone 47 = .ok (.getfield 103, 3) := by decide +kernel
theorem d_TuneSetterModel_itemDone_50 : decode b_TuneSetterModel_itemDone 50 = .ok (.ifCond .le 12, 3) := by decide +kernel
theorem d_TuneSetterModel_itemDone_53 : decode b_TuneSetterModel_itemDone 53 = .ok (.aload_n 0, 1) := by decide +kernel
theorem d_TuneSetterModel_itemDone_54 : decode b_TuneSetterModel_itemDone 54 = .ok (.getfield 103, 3) := by decide +kernel
theorem d_TuneSetterModel_itemDone_57 : decode b_TuneSetterModel_itemDone 57 = .ok (.iconst 1, 1) := by decide +kernel
theorem d_TuneSetterModel_itemDone_58 : decode b_TuneSetterModel_itemDone 58 = .ok (.isub, 1) := by decide +kernel
theorem d_TuneSetterModel_itemDone_59 : decode b_TuneSetterModel_itemDone 59 = .ok (.goto 4, 3) := by decide +kernel
theorem d_TuneSetterModel_itemDone_62 : decode b_TuneSetterModel_itemDone 62 = .ok (.iconst 0, 1) := by decide +kernel
theorem d_TuneSetterModel_itemDone_63 : decode b_TuneSetterModel_itemDone 63 = .ok (.putfield 103, 3) := by decide +kernel
theorem d_TuneSetterModel_itemDone_66 : decode b_TuneSetterModel_itemDone 66 = .ok (.return_, 1) := by decide +kernel
def w_TuneSetterModel_itemDone : List Cond := .code y_TuneSetterModel_itemDone b_TuneSetterModel_itemDone 1 none :: WALL
theorem g_TuneSetterModel_itemDone : GoodIn WALL w_TuneSetterModel_itemDone := good_of mc_TuneSetterModel_itemDone
set_option maxHeartbeats 4000000 in
set_option maxRecDepth 100000 in
theorem c_TuneSetterModel_itemDone (l : Launch) (D : va_G) (cA a : Nat → Nat) (sz : Nat) (I : Nat → Int32) (A : Nat → Nat → Int32) (post : (Nat → Int32) → (Nat → Nat → Int32) → Prop) (h : wp_TuneSetterModel_itemDone I A post) : Met l y_TuneSetterModel_itemDone w_TuneSetterModel_itemDone ({ frames := 1, cells := 0, slots := 0, locals := 21 }) (va_Pc [.ref (a 0)] (PreR D cA a I A sz)) (va_Qv (fun (u : StW) => post u.1 u.2) (EndR D cA a) (AR a sz)) 0 0 (AR a sz) := by
  refine Met.ofW (cc := b_TuneSetterModel_itemDone) (maxL := 1) (ret := none) (by decide) rfl ?_
  intro p e s m args below meth c s₁ B hml hv
  obtain ⟨rfl, hsz, hP, hK, hD0⟩ := hv
  have hx := B.exec
  have hb := B.bytes
  have hr := B.returns
  have hts := atoms_spec (ws := w_TuneSetterModel_itemDone) B.pre
  have hw := wall_of hts
  have hown : s.vm.findClass R_TuneSetterModel = some m.cls := findClass_of_methodNamed B.named
  have hlocks := B.notSynchronized
  subst hsz
  have hD := hDR (sz := s.heap.size) hD0
  have hA : ∀ q : Nat, s.heap.size ≤ q → AR a s.heap.size q := fun q h => Or.inr h
  have hS : va_S (AR a s.heap.size) s.heap s.heap [] := va_S.rf
  have hl := lv_entry ([.ref (a 0)]) (n := 1) (Nat.le_of_ble_eq_true rfl)
  rw [lg_entry_eq]
  generalize (lg_sl ([.ref (a 0)]) ++ List.replicate (1 - (lg_sl ([.ref (a 0)])).length) Slot.unset).toArray = ls at hl ⊢
  have hl : lv_has ls 1 [(0, .ref (a 0))] := hl
  unfold wp_TuneSetterModel_itemDone at h
  refine lv_aload_n hx hb d_TuneSetterModel_itemDone_0 rfl (lv_at hl 0 rfl) ?_
  refine gR_TuneSetterModel_ticks hx hb hw hown hK hP (hw _ m_TuneSetterModel_38) d_TuneSetterModel_itemDone_1 ?_
  refine lv_aload_n hx hb d_TuneSetterModel_itemDone_4 rfl (lv_at hl 0 rfl) ?_
  refine gR_TuneSetterModel_items hx hb hw hown hK hP (hw _ m_TuneSetterModel_90) d_TuneSetterModel_itemDone_5 ?_
  refine lv_iconst (v := 1) hx hb d_TuneSetterModel_itemDone_8 ic_1 ?_
  refine lv_isub hx hb d_TuneSetterModel_itemDone_9 ?_
  refine lv_aload_n hx hb d_TuneSetterModel_itemDone_10 rfl (lv_at hl 0 rfl) ?_
  refine k_TuneSetterModel_parts (rest := [.int ((I 8) - 1), .ref (a 6)]) ⟨hx, hb, hml, hown, hw⟩ hK hD hA hS hP hl.1 (hw _ m_TuneSetterModel_238) (Nat.le_of_ble_eq_true rfl) ⟨Nat.le_of_ble_eq_true rfl, Nat.le_of_ble_eq_true rfl⟩ ⟨Nat.zero_le _, Nat.zero_le _⟩ d_TuneSetterModel_itemDone_11 h (fun r11 I11 A11 H locs h hP hS => ?_)
  refine lv_aload_n hx hb d_TuneSetterModel_itemDone_14 rfl (lv_at hl 0 rfl) ?_
  refine k_TuneSetterModel_divisor (rest := [.int r11, .int ((I 8) - 1), .ref (a 6)]) ⟨hx, hb, hml, hown, hw⟩ hK hD hA hS hP hl.1 (hw _ m_TuneSetterModel_241) (Nat.le_of_ble_eq_true rfl) ⟨Nat.le_of_ble_eq_true rfl, Nat.le_of_ble_eq_true rfl⟩ ⟨Nat.zero_le _, Nat.zero_le _⟩ d_TuneSetterModel_itemDone_15 h (fun r15 I15 A15 H locs h hP hS => ?_)
  obtain ⟨hne, h⟩ := h
  refine lv_idiv hx hb d_TuneSetterModel_itemDone_18 hne ?_
  obtain ⟨hin, h⟩ := h
  refine sR6 hx hb hK hD hS hP hin d_TuneSetterModel_itemDone_19 (fun H locs hP hS => ?_)
  refine lv_aload_n hx hb d_TuneSetterModel_itemDone_20 rfl (lv_at hl 0 rfl) ?_
  refine gR_TuneSetterModel_barTicks hx hb hw hown hK hP (hw _ m_TuneSetterModel_32) d_TuneSetterModel_itemDone_21 ?_
  refine lv_aload_n hx hb d_TuneSetterModel_itemDone_24 rfl (lv_at hl 0 rfl) ?_
  refine gR_TuneSetterModel_bars hx hb hw hown hK hP (hw _ m_TuneSetterModel_87) d_TuneSetterModel_itemDone_25 ?_
  refine lv_iconst (v := 1) hx hb d_TuneSetterModel_itemDone_28 ic_1 ?_
  refine lv_isub hx hb d_TuneSetterModel_itemDone_29 ?_
  refine lv_dup2_11 hx hb d_TuneSetterModel_itemDone_30 rfl rfl ?_
  obtain ⟨hin, h⟩ := h
  refine lR4 hx hb hK hP hin d_TuneSetterModel_itemDone_31 ?_
  refine lv_aload_n hx hb d_TuneSetterModel_itemDone_32 rfl (lv_at hl 0 rfl) ?_
  refine gR_TuneSetterModel_ticks hx hb hw hown hK hP (hw _ m_TuneSetterModel_38) d_TuneSetterModel_itemDone_33 ?_
  refine lv_aload_n hx hb d_TuneSetterModel_itemDone_36 rfl (lv_at hl 0 rfl) ?_
  refine gR_TuneSetterModel_items hx hb hw hown hK hP (hw _ m_TuneSetterModel_90) d_TuneSetterModel_itemDone_37 ?_
  refine lv_iconst (v := 1) hx hb d_TuneSetterModel_itemDone_40 ic_1 ?_
  refine lv_isub hx hb d_TuneSetterModel_itemDone_41 ?_
  obtain ⟨hin, h⟩ := h
  refine lR6 hx hb hK hP hin d_TuneSetterModel_itemDone_42 ?_
  refine lv_iadd hx hb d_TuneSetterModel_itemDone_43 ?_
  obtain ⟨hin, h⟩ := h
  refine sR4 hx hb hK hD hS hP hin d_TuneSetterModel_itemDone_44 (fun H locs hP hS => ?_)
  refine lv_aload_n hx hb d_TuneSetterModel_itemDone_45 rfl (lv_at hl 0 rfl) ?_
  refine lv_aload_n hx hb d_TuneSetterModel_itemDone_46 rfl (lv_at hl 0 rfl) ?_
  refine gR_TuneSetterModel_triplet hx hb hw hown hK hP (hw _ m_TuneSetterModel_103) d_TuneSetterModel_itemDone_47 ?_
  refine lv_if_le (tgt := 62) hx hb d_TuneSetterModel_itemDone_50 rfl (fun q => ?_) (fun q => ?_)
  · have h := h.1 q
    refine lv_iconst (v := 0) hx hb d_TuneSetterModel_itemDone_62 ic_0 ?_
    refine pR_TuneSetterModel_triplet hx hb hw hown hK hD hS hP (hw _ m_TuneSetterModel_103) d_TuneSetterModel_itemDone_63 (fun H locs hP hS => ?_)
    exact W.vret hx hb hr (fun t ht hW => ⟨⟨((upd I15 13 0), (upd2 (upd2 A15 6 (((I 8) - 1).toNatClampNeg) (r11 / r15)) 4 (((I15 5) - 1).toNatClampNeg) ((A15 4 (((I15 5) - 1).toNatClampNeg)) + ((upd2 A15 6 (((I 8) - 1).toNatClampNeg) (r11 / r15)) 6 (((I15 8) - 1).toNatClampNeg))))), rfl, h, endR_of ht hP⟩, hS.F ht⟩) hS.2.2 d_TuneSetterModel_itemDone_66
  · have h := h.2 q
    refine lv_aload_n hx hb d_TuneSetterModel_itemDone_53 rfl (lv_at hl 0 rfl) ?_
    refine gR_TuneSetterModel_triplet hx hb hw hown hK hP (hw _ m_TuneSetterModel_103) d_TuneSetterModel_itemDone_54 ?_
    refine lv_iconst (v := 1) hx hb d_TuneSetterModel_itemDone_57 ic_1 ?_
    refine lv_isub hx hb d_TuneSetterModel_itemDone_58 ?_
    refine lv_goto (tgt := 63) hx hb d_TuneSetterModel_itemDone_59 rfl ?_
    refine pR_TuneSetterModel_triplet hx hb hw hown hK hD hS hP (hw _ m_TuneSetterModel_103) d_TuneSetterModel_itemDone_63 (fun H locs hP hS => ?_)
    exact W.vret hx hb hr (fun t ht hW => ⟨⟨((upd I15 13 ((I15 13) - 1)), (upd2 (upd2 A15 6 (((I 8) - 1).toNatClampNeg) (r11 / r15)) 4 (((I15 5) - 1).toNatClampNeg) ((A15 4 (((I15 5) - 1).toNatClampNeg)) + ((upd2 A15 6 (((I 8) - 1).toNatClampNeg) (r11 / r15)) 6 (((I15 8) - 1).toNatClampNeg))))), rfl, h, endR_of ht hP⟩, hS.F ht⟩) hS.2.2 d_TuneSetterModel_itemDone_66
theorem k_TuneSetterModel_itemDone {p : Program} {l : Launch} {e : Env} {R : Room} {s : State} {m : MethodId} {args : Array Value} {below : List Frame} {meth : Method} {c : Code} {H : Heap} {locs : List Loc} {cells slots : Nat} {Q : State → Prop} {cc : ByteArray} {pc nL idx : Nat} {own : String} {ls : Array Slot} {D : va_G} {cA a : Nat → Nat} {AA : Nat → Prop} {I : Nat → Int32} {A : Nat → Nat → Int32} {post : (Nat → Int32) → (Nat → Nat → Int32) → Prop} {rest : List Value} (S : CallFix p m c cc nL s args WALL own) (hK : KR D cA a AA s) (hD : ∀ I A, va_D AA (wR cA a I A)) (hA : ∀ q : Nat, s.heap.size ≤ q → AA q) (hS : va_S AA s.heap H locs) (hP : va_P D cls (wR cA a I A) H) (hl1 : ls.size = nL) (hlink : (Cond.methodLink own idx y_TuneSetterModel_itemDone).before args s = true) (hst : (rest.map fun v => v.category).sum ≤ 8) (hR : ({ frames := 1, cells := 0, slots := 0, locals := 21 } : Room).frames + 1 ≤ R.frames ∧ 8 + (1 + 11) + ({ frames := 1, cells := 0, slots := 0, locals := 21 } : Room).locals ≤ R.locals) (hcs : cells ≤ R.cells ∧ slots ≤ R.slots) (hdg : decode cc pc = .ok (.invokevirtual idx, 3)) (h : wp_TuneSetterModel_itemDone I A post) (kk : ∀ (I1 : Nat → Int32) (A1 : Nat → Nat → Int32) (H1 : Heap) (locs1 : List Loc), post I1 A1 → va_P D cls (wR cA a I1 A1) H1 → va_S AA s.heap H1 locs1 → W p l e R s m args below meth c H1 locs1 cells slots Q (F0 m (pc + 3) ls rest)) : W p l e R s m args below meth c H locs cells slots Q (F0 m pc ls (.ref (a 0) :: rest)) :=
  va_callv (va_runV (As := []) (rest := rest) S (c_TuneSetterModel_itemDone l D cA a H.size I A post h) ⟨callB_of 0 S.2.2.2.2 g_TuneSetterModel_itemDone rfl rfl rfl (S.2.2.2.2 _ mi_TuneSetterModel) hlink ⟨by decide, by decide, by decide +kernel⟩ hR, S.2.2.2.2 _ mn_TuneSetterModel_itemDone, S.2.2.2.2 _ ms_TuneSetterModel_itemDone⟩ (preRV hK hD hA hS hP 0 rfl rfl) rfl rfl hl1 rfl (lv_room hst) hdg hcs) hS (fun q _ z => AR_le hD hA hS q z) (fun q z => AR_le hD hA hS q z) (fun u t H1 locs1 ht _ hp hB _ _ hS1 => kk u.1 u.2 H1 locs1 hp (of_endR ht hB) hS1)
def wp_TuneSetterModel_next_158 (post : Int32 → (Nat → Int32) → (Nat → Nat → Int32) → Prop) (y1 : Int32) (y2 : Int32) (y3 : Int32) (y4 : Int32) (y5 : Int32) (I : Nat → Int32) (A : Nat → Nat → Int32) : Prop := ((y5 = 0 → ((y4 = 0 → ((y3 = 0 → (wp_TuneSetterModel_go y1 y2 I A (fun r246 I246 A246 => post r246 I246 A246))) ∧ (¬ y3 = 0 → (wp_TuneSetterModel_inChord y1 I A (fun r237 I237 A237 => post r237 I237 A237))))) ∧ (¬ y4 = 0 → (wp_TuneSetterModel_count y1 (upd I 9 11) A (fun I226 A226 => post 0 I226 A226))))) ∧ (¬ y5 = 0 → (wp_TuneSetterModel_itemDone I A (fun I164 A164 => ((y1 = 45 → (((I164 12) = 0 → (vp_in ((I164 8) - 1) 48 ∧ post 0 (upd I164 9 12) (upd2 A164 7 (((I164 8) - 1).toNatClampNeg) 1))) ∧ (¬ (I164 12) = 0 → (wp_TuneSetterModel_inside y1 y2 (upd I164 9 12) A164 (fun r209 I209 A209 => post r209 I209 A209))))) ∧ (¬ y1 = 45 → (wp_TuneSetterModel_inside y1 y2 (upd I164 9 12) A164 (fun r209 I209 A209 => post r209 I209 A209))))))))
def wp_TuneSetterModel_next_127 (post : Int32 → (Nat → Int32) → (Nat → Nat → Int32) → Prop) (y1 : Int32) (y2 : Int32) (y3 : Int32) (y4 : Int32) (y5 : Int32) (I : Nat → Int32) (A : Nat → Nat → Int32) : Prop := ((y3 = 0 → wp_TuneSetterModel_next_158 post y1 y2 y3 y4 y5 I A) ∧ (¬ y3 = 0 → (wp_TuneSetterModel_toneOf I A (fun r132 I132 A132 => ((r132 < 0 → post (-4) I132 A132) ∧ (¬ r132 < 0 → ((r132 ≤ 127 → (wp_TuneSetterModel_noteDone r132 I132 A132 (fun I155 A155 => wp_TuneSetterModel_next_158 post y1 y2 y3 y4 y5 I155 A155))) ∧ (¬ r132 ≤ 127 → post (-4) I132 A132))))))))
def wp_TuneSetterModel_next_109 (post : Int32 → (Nat → Int32) → (Nat → Nat → Int32) → Prop) (y1 : Int32) (y2 : Int32) (y3 : Int32) (y4 : Int32) (I : Nat → Int32) (A : Nat → Nat → Int32) : Prop := (((0 : Int32) = 0 → wp_TuneSetterModel_next_127 post y1 y2 y3 y4 0 I A) ∧ (¬ (0 : Int32) = 0 → (wp_TuneSetterModel_hasLength I A (fun r118 I118 A118 => ((r118 = 0 → post (-3) I118 A118) ∧ (¬ r118 = 0 → wp_TuneSetterModel_next_127 post y1 y2 y3 y4 0 I118 A118))))))
def wp_TuneSetterModel_next_92 (post : Int32 → (Nat → Int32) → (Nat → Nat → Int32) → Prop) (y1 : Int32) (y2 : Int32) (y3 : Int32) (y4 : Int32) (I : Nat → Int32) (A : Nat → Nat → Int32) : Prop := ((y4 = 0 → wp_TuneSetterModel_next_109 post y1 y2 y3 y4 I A) ∧ (¬ y4 = 0 → (wp_TuneSetterModel_goesOnNumber y1 I A (fun r99 I99 A99 => ((r99 = 0 → (((1 : Int32) = 0 → wp_TuneSetterModel_next_127 post y1 y2 y3 y4 1 I99 A99) ∧ (¬ (1 : Int32) = 0 → (wp_TuneSetterModel_hasLength I99 A99 (fun r118 I118 A118 => ((r118 = 0 → post (-3) I118 A118) ∧ (¬ r118 = 0 → wp_TuneSetterModel_next_127 post y1 y2 y3 y4 1 I118 A118))))))) ∧ (¬ r99 = 0 → wp_TuneSetterModel_next_109 post y1 y2 y3 y4 I99 A99))))))
def wp_TuneSetterModel_next_65 (post : Int32 → (Nat → Int32) → (Nat → Nat → Int32) → Prop) (y1 : Int32) (y2 : Int32) (y3 : Int32) (y4 : Int32) (I : Nat → Int32) (A : Nat → Nat → Int32) : Prop := (((I 9) = 11 → (wp_TuneSetterModel_isDigit y1 I A (fun r75 I75 A75 => ((r75 = 0 → wp_TuneSetterModel_next_92 post y1 y2 y3 y4 I75 A75) ∧ (¬ r75 = 0 → (wp_TuneSetterModel_goesOnNumber y1 I75 A75 (fun r83 I83 A83 => ((r83 = 0 → post (-2) I83 A83) ∧ (¬ r83 = 0 → wp_TuneSetterModel_next_92 post y1 y2 y3 y4 I83 A83))))))))) ∧ (¬ (I 9) = 11 → wp_TuneSetterModel_next_92 post y1 y2 y3 y4 I A))
def wp_TuneSetterModel_next_48 (post : Int32 → (Nat → Int32) → (Nat → Nat → Int32) → Prop) (y1 : Int32) (y2 : Int32) (y3 : Int32) (s0 : Int32) (I : Nat → Int32) (A : Nat → Nat → Int32) : Prop := ((y3 = 0 → wp_TuneSetterModel_next_65 post y1 y2 y3 s0 I A) ∧ (¬ y3 = 0 → (((I 11) = 0 → (wp_TuneSetterModel_openNumber I A (fun I62 A62 => wp_TuneSetterModel_next_65 post y1 y2 y3 s0 I62 A62))) ∧ (¬ (I 11) = 0 → wp_TuneSetterModel_next_65 post y1 y2 y3 s0 I A))))
def wp_TuneSetterModel_next_22 (post : Int32 → (Nat → Int32) → (Nat → Nat → Int32) → Prop) (y1 : Int32) (y2 : Int32) (s0 : Int32) (I : Nat → Int32) (A : Nat → Nat → Int32) : Prop := (((I 9) = 11 → wp_TuneSetterModel_next_48 post y1 y2 s0 1 I A) ∧ (¬ (I 9) = 11 → ((s0 = 0 → wp_TuneSetterModel_next_48 post y1 y2 s0 0 I A) ∧ (¬ s0 = 0 → (((I 11) = 0 → wp_TuneSetterModel_next_48 post y1 y2 s0 1 I A) ∧ (¬ (I 11) = 0 → wp_TuneSetterModel_next_48 post y1 y2 s0 0 I A))))))
def wp_TuneSetterModel_next (x1 : Int32) (x2 : Int32) (I : Nat → Int32) (A : Nat → Nat → Int32) (post : Int32 → (Nat → Int32) → (Nat → Nat → Int32) → Prop) : Prop := (((I 9) = 9 → (wp_TuneSetterModel_goesOnLetter x1 I A (fun r11 I11 A11 => ((r11 = 0 → wp_TuneSetterModel_next_22 post x1 x2 1 I11 A11) ∧ (¬ r11 = 0 → wp_TuneSetterModel_next_22 post x1 x2 0 I11 A11))))) ∧ (¬ (I 9) = 9 → wp_TuneSetterModel_next_22 post x1 x2 0 I A))
theorem d_TuneSetterModel_next_0 : decode b_TuneSetterModel_next 0 = .ok (.aload_n 0, 1) := by decide +kernel
theorem d_TuneSetterModel_next_1 : decode b_TuneSetterModel_next 1 = .ok (.getfield 100, 3) := by decide +kernel
theorem d_TuneSetterModel_next_4 : decode b_TuneSetterModel_next 4 = .ok (.bipush 9, 2) := by decide +kernel
theorem d_TuneSetterModel_next_6 : decode b_TuneSetterModel_next 6 = .ok (.if_icmp .ne 15, 3) := by decide +kernel
theorem d_TuneSetterModel_next_9 : decode b_TuneSetterModel_next 9 = .ok (.aload_n 0, 1) := by decide +kernel
theorem d_TuneSetterModel_next_10 : decode b_TuneSetterModel_next 10 = .ok (.iload_n 1, 1) := by decide +kernel
theorem d_TuneSetterModel_next_11 : decode b_TuneSetterModel_next 11 = .ok (.invokevirtual 137, 3) := by decide +kernel
theorem d_TuneSetterModel_next_14 : decode b_TuneSetterModel_next 14 = .ok (.ifCond .ne 7, 3) := by decide +kernel
theorem d_TuneSetterModel_next_17 : decode b_TuneSetterModel_next 17 = .ok (.iconst 1, 1) := by decide +kernel
theorem d_TuneSetterModel_next_18 : decode b_TuneSetterModel_next 18 = .ok (.goto 4, 3) := by decide +kernel
theorem d_TuneSetterModel_next_21 : decode b_TuneSetterModel_next 21 = .ok (.iconst 0, 1) := by decide +kernel
theorem d_TuneSetterModel_next_22 : decode b_TuneSetterModel_next 22 = .ok (.istore_n 3, 1) := by decide +kernel
theorem d_TuneSetterModel_next_23 : decode b_TuneSetterModel_next 23 = .ok (.aload_n 0, 1) := by decide +kernel
theorem d_TuneSetterModel_next_24 : decode b_TuneSetterModel_next 24 = .ok (.getfield 100, 3) := by decide +kernel
theorem d_TuneSetterModel_next_27 : decode b_TuneSetterModel_next 27 = .ok (.bipush 11, 2) := by decide +kernel
theorem d_TuneSetterModel_next_29 : decode b_TuneSetterModel_next 29 = .ok (.if_icmp .eq 14, 3) := by decide +kernel
theorem d_TuneSetterModel_next_32 : decode b_TuneSetterModel_next 32 = .ok (.iload_n 3, 1) := by decide +kernel
theorem d_TuneSetterModel_next_33 : decode b_TuneSetterModel_next 33 = .ok (.ifCond .eq 14, 3) := by decide +kernel
theorem d_TuneSetterModel_next_36 : decode b_TuneSetterModel_next 36 = .ok (.aload_n 0, 1) := by decide +kernel
theorem d_TuneSetterModel_next_37 : decode b_TuneSetterModel_next 37 = .ok (.getfield 140, 3) := by decide +kernel
theorem d_TuneSetterModel_next_40 : decode b_TuneSetterModel_next 40 = .ok (.ifCond .ne 7, 3) := by decide +kernel
theorem d_TuneSetterModel_next_43 : decode b_TuneSetterModel_next 43 = .ok (.iconst 1, 1) := by decide +kernel
theorem d_TuneSetterModel_next_44 : decode b_TuneSetterModel_next 44 = .ok (.goto 4, 3) := by decide +kernel
theorem d_TuneSetterModel_next_47 : decode b_TuneSetterModel_next 47 = .ok (.iconst 0, 1) := by decide +kernel
theorem d_TuneSetterModel_next_48 : decode b_TuneSetterModel_next 48 = .ok (.istore 4, 2) := by decide +kernel
theorem d_TuneSetterModel_next_50 : decode b_TuneSetterModel_next 50 = .ok (.iload_n 3, 1) := by decide +kernel
theorem d_TuneSetterModel_next_51 : decode b_TuneSetterModel_next 51 = .ok (.ifCond .eq 14, 3) := by decide +kernel
theorem d_TuneSetterModel_next_54 : decode b_TuneSetterModel_next 54 = .ok (.aload_n 0, 1) := by decide +kernel
theorem d_TuneSetterModel_next_55 : decode b_TuneSetterModel_next 55 = .ok (.getfield 140, 3) := by decide +kernel
theorem d_TuneSetterModel_next_58 : decode b_TuneSetterModel_next 58 = .ok (.ifCond .ne 7, 3) := by decide +kernel
theorem d_TuneSetterModel_next_61 : decode b_TuneSetterModel_next 61 = .ok (.aload_n 0, 1) := by decide +kernel
theorem d_TuneSetterModel_next_62 : decode b_TuneSetterModel_next 62 = .ok (.invokevirtual 143, 3) := by decide +kernel
theorem d_TuneSetterModel_next_65 : decode b_TuneSetterModel_next 65 = .ok (.aload_n 0, 1) := by decide +kernel
theorem d_TuneSetterModel_next_66 : decode b_TuneSetterModel_next 66 = .ok (.getfield 100, 3) := by decide +kernel
theorem d_TuneSetterModel_next_69 : decode b_TuneSetterModel_next 69 = .ok (.bipush 11, 2) := by decide +kernel
theorem d_TuneSetterModel_next_71 : decode b_TuneSetterModel_next 71 = .ok (.if_icmp .ne 21, 3) := by decide +kernel
theorem d_TuneSetterModel_next_74 : decode b_TuneSetterModel_next 74 = .ok (.iload_n 1, 1) := by decide +kernel
theorem d_TuneSetterModel_next_75 : decode b_TuneSetterModel_next 75 = .ok (.invokestatic 128, 3) := by decide +kernel
theorem d_TuneSetterModel_next_78 : decode b_TuneSetterModel_next 78 = .ok (.ifCond .eq 14, 3) := by decide +kernel
theorem d_TuneSetterModel_next_81 : decode b_TuneSetterModel_next 81 = .ok (.aload_n 0, 1) := by decide +kernel
theorem d_TuneSetterModel_next_82 : decode b_TuneSetterModel_next 82 = .ok (.iload_n 1, 1) := by decide +kernel
theorem d_TuneSetterModel_next_83 : decode b_TuneSetterModel_next 83 = .ok (.invokevirtual 146, 3) := by decide +kernel
theorem d_TuneSetterModel_next_86 : decode b_TuneSetterModel_next 86 = .ok (.ifCond .ne 6, 3) := by decide +kernel
theorem d_TuneSetterModel_next_89 : decode b_TuneSetterModel_next 89 = .ok (.bipush (-2), 2) := by decide +kernel
theorem d_TuneSetterModel_next_91 : decode b_TuneSetterModel_next 91 = .ok (.ireturn, 1) := by decide +kernel
theorem d_TuneSetterModel_next_92 : decode b_TuneSetterModel_next 92 = .ok (.iload 4, 2) := by decide +kernel
theorem d_TuneSetterModel_next_94 : decode b_TuneSetterModel_next 94 = .ok (.ifCond .eq 15, 3) := by decide +kernel
theorem d_TuneSetterModel_next_97 : decode b_TuneSetterModel_next 97 = .ok (.aload_n 0, 1) := by decide +kernel
theorem d_TuneSetterModel_next_98 : decode b_TuneSetterModel_next 98 = .ok (.iload_n 1, 1) := by decide +kernel
theorem d_TuneSetterModel_next_99 : decode b_TuneSetterModel_next 99 = .ok (.invokevirtual 146, 3) := by decide +kernel
theorem d_TuneSetterModel_next_102 : decode b_TuneSetterModel_next 102 = .ok (.ifCond .ne 7, 3) := by decide +kernel
theorem d_TuneSetterModel_next_105 : decode b_TuneSetterModel_next 105 = .ok (.iconst 1, 1) := by decide +kernel
theorem d_TuneSetterModel_next_106 : decode b_TuneSetterModel_next 106 = .ok (.goto 4, 3) := by decide +kernel
theorem d_TuneSetterModel_next_109 : decode b_TuneSetterModel_next 109 = .ok (.iconst 0, 1) := by decide +kernel
theorem d_TuneSetterModel_next_110 : decode b_TuneSetterModel_next 110 = .ok (.istore 5, 2) := by decide +kernel
theorem d_TuneSetterModel_next_112 : decode b_TuneSetterModel_next 112 = .ok (.iload 5, 2) := by decide +kernel
theorem d_TuneSetterModel_next_114 : decode b_TuneSetterModel_next 114 = .ok (.ifCond .eq 13, 3) := by decide +kernel
theorem d_TuneSetterModel_next_117 : decode b_TuneSetterModel_next 117 = .ok (.aload_n 0, 1) := by decide +kernel
theorem d_TuneSetterModel_next_118 : decode b_TuneSetterModel_next 118 = .ok (.invokevirtual 149, 3) := by decide +kernel
theorem d_TuneSetterModel_next_121 : decode b_TuneSetterModel_next 121 = .ok (.ifCond .ne 6, 3) := by decide +kernel
theorem d_TuneSetterModel_next_124 : decode b_TuneSetterModel_next 124 = .ok (.bipush (-3), 2) := by decide +kernel
theorem d_TuneSetterModel_next_126 : decode b_TuneSetterModel_next 126 = .ok (.ireturn, 1) := by decide +kernel
theorem d_TuneSetterModel_next_127 : decode b_TuneSetterModel_next 127 = .ok (.iload_n 3, 1) := by decide +kernel
theorem d_TuneSetterModel_next_128 : decode b_TuneSetterModel_next 128 = .ok (.ifCond .eq 30, 3) := by decide +kernel
theorem d_TuneSetterModel_next_131 : decode b_TuneSetterModel_next 131 = .ok (.aload_n 0, 1) := by decide +kernel
theorem d_TuneSetterModel_next_132 : decode b_TuneSetterModel_next 132 = .ok (.invokevirtual 153, 3) := by decide +kernel
theorem d_TuneSetterModel_next_135 : decode b_TuneSetterModel_next 135 = .ok (.istore 6, 2) := by decide +kernel
theorem d_TuneSetterModel_next_137 : decode b_TuneSetterModel_next 137 = .ok (.iload 6, 2) := by decide +kernel
theorem d_TuneSetterModel_next_139 : decode b_TuneSetterModel_next 139 = .ok (.ifCond .lt 10, 3) := by decide +kernel
theorem d_TuneSetterModel_next_142 : decode b_TuneSetterModel_next 142 = .ok (.iload 6, 2) := by decide +kernel
theorem d_TuneSetterModel_next_144 : decode b_TuneSetterModel_next 144 = .ok (.bipush 127, 2) := by decide +kernel
theorem d_TuneSetterModel_next_146 : decode b_TuneSetterModel_next 146 = .ok (.if_icmp .le 6, 3) := by decide +kernel
theorem d_TuneSetterModel_next_149 : decode b_TuneSetterModel_next 149 = .ok (.bipush (-4), 2) := by decide +kernel
theorem d_TuneSetterModel_next_151 : decode b_TuneSetterModel_next 151 = .ok (.ireturn, 1) := by decide +kernel
theorem d_TuneSetterModel_next_152 : decode b_TuneSetterModel_next 152 = .ok (.aload_n 0, 1) := by decide +kernel
theorem d_TuneSetterModel_next_153 : decode b_TuneSetterModel_next 153 = .ok (.iload 6, 2) := by decide +kernel
theorem d_TuneSetterModel_next_155 : decode b_TuneSetterModel_next 155 = .ok (.invokevirtual 156, 3) := by decide +kernel
theorem d_TuneSetterModel_next_158 : decode b_TuneSetterModel_next 158 = .ok (.iload 5, 2) := by decide +kernel
theorem d_TuneSetterModel_next_160 : decode b_TuneSetterModel_next 160 = .ok (.ifCond .eq 53, 3) := by decide +kernel
theorem d_TuneSetterModel_next_163 : decode b_TuneSetterModel_next 163 = .ok (.aload_n 0, 1) := by decide +kernel
theorem d_TuneSetterModel_next_164 : decode b_TuneSetterModel_next 164 = .ok (.invokevirtual 160, 3) := by decide +kernel
theorem d_TuneSetterModel_next_167 : decode b_TuneSetterModel_next 167 = .ok (.iload_n 1, 1) := by decide +kernel
theorem d_TuneSetterModel_next_168 : decode b_TuneSetterModel_next 168 = .ok (.bipush 45, 2) := by decide +kernel
theorem d_TuneSetterModel_next_170 : decode b_TuneSetterModel_next 170 = .ok (.if_icmp .ne 30, 3) := by decide +kernel
theorem d_TuneSetterModel_next_173 : decode b_TuneSetterModel_next 173 = .ok (.aload_n 0, 1) := by decide +kernel
theorem d_TuneSetterModel_next_174 : decode b_TuneSetterModel_next 174 = .ok (.getfield 163, 3) := by decide +kernel
theorem d_TuneSetterModel_next_177 : decode b_TuneSetterModel_next 177 = .ok (.ifCond .ne 23, 3) := by decide +kernel
theorem d_TuneSetterModel_next_180 : decode b_TuneSetterModel_next 180 = .ok (.aload_n 0, 1) := by decide +kernel
theorem d_TuneSetterModel_next_181 : decode b_TuneSetterModel_next 181 = .ok (.getfield 41, 3) := by decide +kernel
theorem d_TuneSetterModel_next_184 : decode b_TuneSetterModel_next 184 = .ok (.aload_n 0, 1) := by decide +kernel
theorem d_TuneSetterModel_next_185 : decode b_TuneSetterModel_next 185 = .ok (.getfield 90, 3) := by decide +kernel
theorem d_TuneSetterModel_next_188 : decode b_TuneSetterModel_next 188 = .ok (.iconst 1, 1) := by decide +kernel
theorem d_TuneSetterModel_next_189 : decode b_TuneSetterModel_next 189 = .ok (.isub, 1) := by decide +kernel
theorem d_TuneSetterModel_next_190 : decode b_TuneSetterModel_next 190 = .ok (.iconst 1, 1) := by decide +kernel
theorem d_TuneSetterModel_next_191 : decode b_TuneSetterModel_next 191 = .ok (.bastore, 1) := by decide +kernel
theorem d_TuneSetterModel_next_192 : decode b_TuneSetterModel_next 192 = .ok (.aload_n 0, 1) := by decide +kernel
theorem d_TuneSetterModel_next_193 : decode b_TuneSetterModel_next 193 = .ok (.bipush 12, 2) := by decide +kernel
theorem d_TuneSetterModel_next_195 : decode b_TuneSetterModel_next 195 = .ok (.putfield 100, 3) := by decide +kernel
theorem d_TuneSetterModel_next_198 : decode b_TuneSetterModel_next 198 = .ok (.iconst 0, 1) := by decide +kernel
theorem d_TuneSetterModel_next_199 : decode b_TuneSetterModel_next 199 = .ok (.ireturn, 1) := by decide +kernel
theorem d_TuneSetterModel_next_200 : decode b_TuneSetterModel_next 200 = .ok (.aload_n 0, 1) := by decide +kernel
theorem d_TuneSetterModel_next_201 : decode b_TuneSetterModel_next 201 = .ok (.bipush 12, 2) := by decide +kernel
theorem d_TuneSetterModel_next_203 : decode b_TuneSetterModel_next 203 = .ok (.putfield 100, 3) := by decide +kernel
theorem d_TuneSetterModel_next_206 : decode b_TuneSetterModel_next 206 = .ok (.aload_n 0, 1) := by decide +kernel
theorem d_TuneSetterModel_next_207 : decode b_TuneSetterModel_next 207 = .ok (.iload_n 1, 1) := by decide +kernel
theorem d_TuneSetterModel_next_208 : decode b_TuneSetterModel_next 208 = .ok (.iload_n 2, 1) := by decide +kernel
theorem d_TuneSetterModel_next_209 : decode b_TuneSetterModel_next 209 = .ok (.invokevirtual 166, 3) := by decide +kernel
theorem d_TuneSetterModel_next_212 : decode b_TuneSetterModel_next 212 = .ok (.ireturn, 1) := by decide +kernel
theorem d_TuneSetterModel_next_213 : decode b_TuneSetterModel_next 213 = .ok (.iload 4, 2) := by decide +kernel
theorem d_TuneSetterModel_next_215 : decode b_TuneSetterModel_next 215 = .ok (.ifCond .eq 16, 3) := by decide +kernel
theorem d_TuneSetterModel_next_218 : decode b_TuneSetterModel_next 218 = .ok (.aload_n 0, 1) := by decide +kernel
theorem d_TuneSetterModel_next_219 : decode b_TuneSetterModel_next 219 = .ok (.bipush 11, 2) := by decide +kernel
theorem d_TuneSetterModel_next_221 : decode b_TuneSetterModel_next 221 = .ok (.putfield 100, 3) := by decide +kernel
theorem d_TuneSetterModel_next_224 : decode b_TuneSetterModel_next 224 = .ok (.aload_n 0, 1) := by decide +kernel
theorem d_TuneSetterModel_next_225 : decode b_TuneSetterModel_next 225 = .ok (.iload_n 1, 1) := by decide +kernel
theorem d_TuneSetterModel_next_226 : decode b_TuneSetterModel_next 226 = .ok (.invokevirtual 169, 3) := by decide +kernel
theorem d_TuneSetterModel_next_229 : decode b_TuneSetterModel_next 229 = .ok (.iconst 0, 1) := by decide +kernel
theorem d_TuneSetterModel_next_230 : decode b_TuneSetterModel_next 230 = .ok (.ireturn, 1) := by decide +kernel
theorem d_TuneSetterModel_next_231 : decode b_TuneSetterModel_next 231 = .ok (.iload_n 3, 1) := by decide +kernel
theorem d_TuneSetterModel_next_232 : decode b_TuneSetterModel_next 232 = .ok (.ifCond .eq 11, 3) := by decide +kernel
theorem d_TuneSetterModel_next_235 : decode b_TuneSetterModel_next 235 = .ok (.aload_n 0, 1) := by decide +kernel
theorem d_TuneSetterModel_next_236 : decode b_TuneSetterModel_next 236 = .ok (.iload_n 1, 1) := by decide +kernel
theorem d_TuneSetterModel_next_237 : decode b_TuneSetterModel_next 237 = .ok (.invokevirtual 172, 3) := by decide +kernel
theorem d_TuneSetterModel_next_240 : decode b_TuneSetterModel_next 240 = .ok (.goto 9, 3) := by decide +kernel
theorem d_TuneSetterModel_next_243 : decode b_TuneSetterModel_next 243 = .ok (.aload_n 0, 1) := by decide +kernel
theorem d_TuneSetterModel_next_244 : decode b_TuneSetterModel_next 244 = .ok (.iload_n 1, 1) := by decide +kernel
theorem d_TuneSetterModel_next_245 : decode b_TuneSetterModel_next 245 = .ok (.iload_n 2, 1) := by decide +kernel
theorem d_TuneSetterModel_next_246 : decode b_TuneSetterModel_next 246 = .ok (.invokevirtual 175, 3) := by decide +kernel
theorem d_TuneSetterModel_next_249 : decode b_TuneSetterModel_next 249 = .ok (.ireturn, 1) := by decide +kernel
def w_TuneSetterModel_next : List Cond := .code y_TuneSetterModel_next b_TuneSetterModel_next 7 (some .int) :: WALL
theorem g_TuneSetterModel_next : GoodIn WALL w_TuneSetterModel_next := good_of mc_TuneSetterModel_next
set_option maxHeartbeats 4000000 in
set_option maxRecDepth 100000 in
theorem c_TuneSetterModel_next (l : Launch) (D : va_G) (cA a : Nat → Nat) (sz : Nat) (x1 : Int32) (x2 : Int32) (I : Nat → Int32) (A : Nat → Nat → Int32) (post : Int32 → (Nat → Int32) → (Nat → Nat → Int32) → Prop) (h : wp_TuneSetterModel_next x1 x2 I A post) : Met l y_TuneSetterModel_next w_TuneSetterModel_next ({ frames := 9, cells := 0, slots := 0, locals := 195 }) (va_Pc [.ref (a 0), .int x1, .int x2] (PreR D cA a I A sz)) (va_Qi (fun r (u : StW) => post r u.1 u.2) (EndR D cA a) (AR a sz)) 0 0 (AR a sz) := by
  refine Met.ofW (cc := b_TuneSetterModel_next) (maxL := 7) (ret := (some .int)) (by decide) rfl ?_
  intro p e s m args below meth c s₁ B hml hv
  obtain ⟨rfl, hsz, hP, hK, hD0⟩ := hv
  have hx := B.exec
  have hb := B.bytes
  have hr := B.returns
  have hts := atoms_spec (ws := w_TuneSetterModel_next) B.pre
  have hw := wall_of hts
  have hown : s.vm.findClass R_TuneSetterModel = some m.cls := findClass_of_methodNamed B.named
  have hlocks := B.notSynchronized
  subst hsz
  have hD := hDR (sz := s.heap.size) hD0
  have hA : ∀ q : Nat, s.heap.size ≤ q → AR a s.heap.size q := fun q h => Or.inr h
  have hS : va_S (AR a s.heap.size) s.heap s.heap [] := va_S.rf
  have j158 : ∀ (y1 : Int32) (y2 : Int32) (y3 : Int32) (y4 : Int32) (y5 : Int32) (I : Nat → Int32) (A : Nat → Nat → Int32) (H : Heap) (locs : List Loc) (ls : Array Slot), wp_TuneSetterModel_next_158 post y1 y2 y3 y4 y5 I A → va_P D cls (wR cA a I A) H → va_S (AR a s.heap.size) s.heap H locs → lv_has ls 7 [(0, .ref (a 0)), (1, .int y1), (2, .int y2), (3, .int y3), (4, .int y4), (5, .int y5)] → W p l e (headSpec w_TuneSetterModel_next ({ frames := 9, cells := 0, slots := 0, locals := 195 })).room s m [.ref (a 0), .int x1, .int x2].toArray below meth c H locs 0 0 (MQ below (va_Qi (fun r (u : StW) => post r u.1 u.2) (EndR D cA a) (AR a s.heap.size)) [.ref (a 0), .int x1, .int x2].toArray s 0 0 (AR a s.heap.size)) (F0 m 158 ls []) := by
    intro y1 y2 y3 y4 y5 I A H locs ls h hP hS hl
    unfold wp_TuneSetterModel_next_158 at h
    refine lv_iload hx hb d_TuneSetterModel_next_158 (lv_at hl 5 rfl) ?_
    refine lv_if_eq (tgt := 213) hx hb d_TuneSetterModel_next_160 rfl (fun q => ?_) (fun q => ?_)
    · have h := h.1 q
      refine lv_iload hx hb d_TuneSetterModel_next_213 (lv_at hl 4 rfl) ?_
      refine lv_if_eq (tgt := 231) hx hb d_TuneSetterModel_next_215 rfl (fun q => ?_) (fun q => ?_)
      · have h := h.1 q
        refine lv_iload_n hx hb d_TuneSetterModel_next_231 rfl (lv_at hl 3 rfl) ?_
        refine lv_if_eq (tgt := 243) hx hb d_TuneSetterModel_next_232 rfl (fun q => ?_) (fun q => ?_)
        · have h := h.1 q
          refine lv_aload_n hx hb d_TuneSetterModel_next_243 rfl (lv_at hl 0 rfl) ?_
          refine lv_iload_n hx hb d_TuneSetterModel_next_244 rfl (lv_at hl 1 rfl) ?_
          refine lv_iload_n hx hb d_TuneSetterModel_next_245 rfl (lv_at hl 2 rfl) ?_
          refine k_TuneSetterModel_go y1 y2 (rest := []) ⟨hx, hb, hml, hown, hw⟩ hK hD hA hS hP hl.1 (hw _ m_TuneSetterModel_175) (Nat.le_of_ble_eq_true rfl) ⟨Nat.le_of_ble_eq_true rfl, Nat.le_of_ble_eq_true rfl⟩ ⟨Nat.zero_le _, Nat.zero_le _⟩ d_TuneSetterModel_next_246 h (fun r246 I246 A246 H locs h hP hS => ?_)
          exact W.iret hx hb hr (fun t ht hW => ⟨⟨_, (I246, A246), rfl, h, endR_of ht hP⟩, hS.F ht⟩) hS.2.2 d_TuneSetterModel_next_249
        · have h := h.2 q
          refine lv_aload_n hx hb d_TuneSetterModel_next_235 rfl (lv_at hl 0 rfl) ?_
          refine lv_iload_n hx hb d_TuneSetterModel_next_236 rfl (lv_at hl 1 rfl) ?_
          refine k_TuneSetterModel_inChord y1 (rest := []) ⟨hx, hb, hml, hown, hw⟩ hK hD hA hS hP hl.1 (hw _ m_TuneSetterModel_172) (Nat.le_of_ble_eq_true rfl) ⟨Nat.le_of_ble_eq_true rfl, Nat.le_of_ble_eq_true rfl⟩ ⟨Nat.zero_le _, Nat.zero_le _⟩ d_TuneSetterModel_next_237 h (fun r237 I237 A237 H locs h hP hS => ?_)
          refine lv_goto (tgt := 249) hx hb d_TuneSetterModel_next_240 rfl ?_
          exact W.iret hx hb hr (fun t ht hW => ⟨⟨_, (I237, A237), rfl, h, endR_of ht hP⟩, hS.F ht⟩) hS.2.2 d_TuneSetterModel_next_249
      · have h := h.2 q
        refine lv_aload_n hx hb d_TuneSetterModel_next_218 rfl (lv_at hl 0 rfl) ?_
        refine lv_bipush (v := 11) hx hb d_TuneSetterModel_next_219 bp_11 ?_
        refine pR_TuneSetterModel_state hx hb hw hown hK hD hS hP (hw _ m_TuneSetterModel_100) d_TuneSetterModel_next_221 (fun H locs hP hS => ?_)
        refine lv_aload_n hx hb d_TuneSetterModel_next_224 rfl (lv_at hl 0 rfl) ?_
        refine lv_iload_n hx hb d_TuneSetterModel_next_225 rfl (lv_at hl 1 rfl) ?_
        refine k_TuneSetterModel_count y1 (rest := []) ⟨hx, hb, hml, hown, hw⟩ hK hD hA hS hP hl.1 (hw _ m_TuneSetterModel_169) (Nat.le_of_ble_eq_true rfl) ⟨Nat.le_of_ble_eq_true rfl, Nat.le_of_ble_eq_true rfl⟩ ⟨Nat.zero_le _, Nat.zero_le _⟩ d_TuneSetterModel_next_226 h (fun I226 A226 H locs h hP hS => ?_)
        refine lv_iconst (v := 0) hx hb d_TuneSetterModel_next_229 ic_0 ?_
        exact W.iret hx hb hr (fun t ht hW => ⟨⟨_, (I226, A226), rfl, h, endR_of ht hP⟩, hS.F ht⟩) hS.2.2 d_TuneSetterModel_next_230
    · have h := h.2 q
      refine lv_aload_n hx hb d_TuneSetterModel_next_163 rfl (lv_at hl 0 rfl) ?_
      refine k_TuneSetterModel_itemDone (rest := []) ⟨hx, hb, hml, hown, hw⟩ hK hD hA hS hP hl.1 (hw _ m_TuneSetterModel_160) (Nat.le_of_ble_eq_true rfl) ⟨Nat.le_of_ble_eq_true rfl, Nat.le_of_ble_eq_true rfl⟩ ⟨Nat.zero_le _, Nat.zero_le _⟩ d_TuneSetterModel_next_164 h (fun I164 A164 H locs h hP hS => ?_)
      refine lv_iload_n hx hb d_TuneSetterModel_next_167 rfl (lv_at hl 1 rfl) ?_
      refine lv_bipush (v := 45) hx hb d_TuneSetterModel_next_168 bp_45 ?_
      refine lv_icmp_ne (tgt := 200) hx hb d_TuneSetterModel_next_170 rfl (fun q => ?_) (fun q => ?_)
      · have h := h.2 q
        refine lv_aload_n hx hb d_TuneSetterModel_next_200 rfl (lv_at hl 0 rfl) ?_
        refine lv_bipush (v := 12) hx hb d_TuneSetterModel_next_201 bp_12 ?_
        refine pR_TuneSetterModel_state hx hb hw hown hK hD hS hP (hw _ m_TuneSetterModel_100) d_TuneSetterModel_next_203 (fun H locs hP hS => ?_)
        refine lv_aload_n hx hb d_TuneSetterModel_next_206 rfl (lv_at hl 0 rfl) ?_
        refine lv_iload_n hx hb d_TuneSetterModel_next_207 rfl (lv_at hl 1 rfl) ?_
        refine lv_iload_n hx hb d_TuneSetterModel_next_208 rfl (lv_at hl 2 rfl) ?_
        refine k_TuneSetterModel_inside y1 y2 (rest := []) ⟨hx, hb, hml, hown, hw⟩ hK hD hA hS hP hl.1 (hw _ m_TuneSetterModel_166) (Nat.le_of_ble_eq_true rfl) ⟨Nat.le_of_ble_eq_true rfl, Nat.le_of_ble_eq_true rfl⟩ ⟨Nat.zero_le _, Nat.zero_le _⟩ d_TuneSetterModel_next_209 h (fun r209 I209 A209 H locs h hP hS => ?_)
        exact W.iret hx hb hr (fun t ht hW => ⟨⟨_, (I209, A209), rfl, h, endR_of ht hP⟩, hS.F ht⟩) hS.2.2 d_TuneSetterModel_next_212
      · have h := h.1 q
        refine lv_aload_n hx hb d_TuneSetterModel_next_173 rfl (lv_at hl 0 rfl) ?_
        refine gR_TuneSetterModel_rest hx hb hw hown hK hP (hw _ m_TuneSetterModel_163) d_TuneSetterModel_next_174 ?_
        refine lv_if_ne (tgt := 200) hx hb d_TuneSetterModel_next_177 rfl (fun q => ?_) (fun q => ?_)
        · have h := h.2 q
          refine lv_aload_n hx hb d_TuneSetterModel_next_200 rfl (lv_at hl 0 rfl) ?_
          refine lv_bipush (v := 12) hx hb d_TuneSetterModel_next_201 bp_12 ?_
          refine pR_TuneSetterModel_state hx hb hw hown hK hD hS hP (hw _ m_TuneSetterModel_100) d_TuneSetterModel_next_203 (fun H locs hP hS => ?_)
          refine lv_aload_n hx hb d_TuneSetterModel_next_206 rfl (lv_at hl 0 rfl) ?_
          refine lv_iload_n hx hb d_TuneSetterModel_next_207 rfl (lv_at hl 1 rfl) ?_
          refine lv_iload_n hx hb d_TuneSetterModel_next_208 rfl (lv_at hl 2 rfl) ?_
          refine k_TuneSetterModel_inside y1 y2 (rest := []) ⟨hx, hb, hml, hown, hw⟩ hK hD hA hS hP hl.1 (hw _ m_TuneSetterModel_166) (Nat.le_of_ble_eq_true rfl) ⟨Nat.le_of_ble_eq_true rfl, Nat.le_of_ble_eq_true rfl⟩ ⟨Nat.zero_le _, Nat.zero_le _⟩ d_TuneSetterModel_next_209 h (fun r209 I209 A209 H locs h hP hS => ?_)
          exact W.iret hx hb hr (fun t ht hW => ⟨⟨_, (I209, A209), rfl, h, endR_of ht hP⟩, hS.F ht⟩) hS.2.2 d_TuneSetterModel_next_212
        · have h := h.1 q
          refine lv_aload_n hx hb d_TuneSetterModel_next_180 rfl (lv_at hl 0 rfl) ?_
          refine gR_TuneSetterModel_tie hx hb hw hown hK hP (hw _ m_TuneSetterModel_41) d_TuneSetterModel_next_181 ?_
          refine lv_aload_n hx hb d_TuneSetterModel_next_184 rfl (lv_at hl 0 rfl) ?_
          refine gR_TuneSetterModel_items hx hb hw hown hK hP (hw _ m_TuneSetterModel_90) d_TuneSetterModel_next_185 ?_
          refine lv_iconst (v := 1) hx hb d_TuneSetterModel_next_188 ic_1 ?_
          refine lv_isub hx hb d_TuneSetterModel_next_189 ?_
          refine lv_iconst (v := 1) hx hb d_TuneSetterModel_next_190 ic_1 ?_
          obtain ⟨hin, h⟩ := h
          refine sR7 hx hb hK hD hS hP hin vz1 d_TuneSetterModel_next_191 (fun H locs hP hS => ?_)
          refine lv_aload_n hx hb d_TuneSetterModel_next_192 rfl (lv_at hl 0 rfl) ?_
          refine lv_bipush (v := 12) hx hb d_TuneSetterModel_next_193 bp_12 ?_
          refine pR_TuneSetterModel_state hx hb hw hown hK hD hS hP (hw _ m_TuneSetterModel_100) d_TuneSetterModel_next_195 (fun H locs hP hS => ?_)
          refine lv_iconst (v := 0) hx hb d_TuneSetterModel_next_198 ic_0 ?_
          exact W.iret hx hb hr (fun t ht hW => ⟨⟨_, ((upd I164 9 12), (upd2 A164 7 (((I164 8) - 1).toNatClampNeg) 1)), rfl, h, endR_of ht hP⟩, hS.F ht⟩) hS.2.2 d_TuneSetterModel_next_199
  have j127 : ∀ (y1 : Int32) (y2 : Int32) (y3 : Int32) (y4 : Int32) (y5 : Int32) (I : Nat → Int32) (A : Nat → Nat → Int32) (H : Heap) (locs : List Loc) (ls : Array Slot), wp_TuneSetterModel_next_127 post y1 y2 y3 y4 y5 I A → va_P D cls (wR cA a I A) H → va_S (AR a s.heap.size) s.heap H locs → lv_has ls 7 [(0, .ref (a 0)), (1, .int y1), (2, .int y2), (3, .int y3), (4, .int y4), (5, .int y5)] → W p l e (headSpec w_TuneSetterModel_next ({ frames := 9, cells := 0, slots := 0, locals := 195 })).room s m [.ref (a 0), .int x1, .int x2].toArray below meth c H locs 0 0 (MQ below (va_Qi (fun r (u : StW) => post r u.1 u.2) (EndR D cA a) (AR a s.heap.size)) [.ref (a 0), .int x1, .int x2].toArray s 0 0 (AR a s.heap.size)) (F0 m 127 ls []) := by
    intro y1 y2 y3 y4 y5 I A H locs ls h hP hS hl
    unfold wp_TuneSetterModel_next_127 at h
    refine lv_iload_n hx hb d_TuneSetterModel_next_127 rfl (lv_at hl 3 rfl) ?_
    refine lv_if_eq (tgt := 158) hx hb d_TuneSetterModel_next_128 rfl (fun q => ?_) (fun q => ?_)
    · have h := h.1 q
      exact j158 y1 y2 y3 y4 y5 I A _ _ _ h hP hS (lv_sub hl [0, 1, 2, 3, 4, 5] rfl)
    · have h := h.2 q
      refine lv_aload_n hx hb d_TuneSetterModel_next_131 rfl (lv_at hl 0 rfl) ?_
      refine k_TuneSetterModel_toneOf (rest := []) ⟨hx, hb, hml, hown, hw⟩ hK hD hA hS hP hl.1 (hw _ m_TuneSetterModel_153) (Nat.le_of_ble_eq_true rfl) ⟨Nat.le_of_ble_eq_true rfl, Nat.le_of_ble_eq_true rfl⟩ ⟨Nat.zero_le _, Nat.zero_le _⟩ d_TuneSetterModel_next_132 h (fun r132 I132 A132 H locs h hP hS => ?_)
      refine lv_istore (lv' := [(6, .int r132), (0, .ref (a 0)), (1, .int y1), (2, .int y2), (3, .int y3), (4, .int y4), (5, .int y5)]) hx hb d_TuneSetterModel_next_135 hl (by decide) rfl (fun ls hl => ?_)
      refine lv_iload hx hb d_TuneSetterModel_next_137 (lv_at hl 0 rfl) ?_
      refine lv_if_lt (tgt := 149) hx hb d_TuneSetterModel_next_139 rfl (fun q => ?_) (fun q => ?_)
      · have h := h.1 q
        refine lv_bipush (v := (-4)) hx hb d_TuneSetterModel_next_149 bp_m4 ?_
        exact W.iret hx hb hr (fun t ht hW => ⟨⟨_, (I132, A132), rfl, h, endR_of ht hP⟩, hS.F ht⟩) hS.2.2 d_TuneSetterModel_next_151
      · have h := h.2 q
        refine lv_iload hx hb d_TuneSetterModel_next_142 (lv_at hl 0 rfl) ?_
        refine lv_bipush (v := 127) hx hb d_TuneSetterModel_next_144 bp_127 ?_
        refine lv_icmp_le (tgt := 152) hx hb d_TuneSetterModel_next_146 rfl (fun q => ?_) (fun q => ?_)
        · have h := h.1 q
          refine lv_aload_n hx hb d_TuneSetterModel_next_152 rfl (lv_at hl 1 rfl) ?_
          refine lv_iload hx hb d_TuneSetterModel_next_153 (lv_at hl 0 rfl) ?_
          refine k_TuneSetterModel_noteDone r132 (rest := []) ⟨hx, hb, hml, hown, hw⟩ hK hD hA hS hP hl.1 (hw _ m_TuneSetterModel_156) (Nat.le_of_ble_eq_true rfl) ⟨Nat.le_of_ble_eq_true rfl, Nat.le_of_ble_eq_true rfl⟩ ⟨Nat.zero_le _, Nat.zero_le _⟩ d_TuneSetterModel_next_155 h (fun I155 A155 H locs h hP hS => ?_)
          exact j158 y1 y2 y3 y4 y5 I155 A155 _ _ _ h hP hS (lv_sub hl [1, 2, 3, 4, 5, 6] rfl)
        · have h := h.2 q
          refine lv_bipush (v := (-4)) hx hb d_TuneSetterModel_next_149 bp_m4 ?_
          exact W.iret hx hb hr (fun t ht hW => ⟨⟨_, (I132, A132), rfl, h, endR_of ht hP⟩, hS.F ht⟩) hS.2.2 d_TuneSetterModel_next_151
  have j109 : ∀ (y1 : Int32) (y2 : Int32) (y3 : Int32) (y4 : Int32) (I : Nat → Int32) (A : Nat → Nat → Int32) (H : Heap) (locs : List Loc) (ls : Array Slot), wp_TuneSetterModel_next_109 post y1 y2 y3 y4 I A → va_P D cls (wR cA a I A) H → va_S (AR a s.heap.size) s.heap H locs → lv_has ls 7 [(0, .ref (a 0)), (1, .int y1), (2, .int y2), (3, .int y3), (4, .int y4)] → W p l e (headSpec w_TuneSetterModel_next ({ frames := 9, cells := 0, slots := 0, locals := 195 })).room s m [.ref (a 0), .int x1, .int x2].toArray below meth c H locs 0 0 (MQ below (va_Qi (fun r (u : StW) => post r u.1 u.2) (EndR D cA a) (AR a s.heap.size)) [.ref (a 0), .int x1, .int x2].toArray s 0 0 (AR a s.heap.size)) (F0 m 109 ls []) := by
    intro y1 y2 y3 y4 I A H locs ls h hP hS hl
    unfold wp_TuneSetterModel_next_109 at h
    refine lv_iconst (v := 0) hx hb d_TuneSetterModel_next_109 ic_0 ?_
    refine lv_istore (lv' := [(5, .int 0), (0, .ref (a 0)), (1, .int y1), (2, .int y2), (3, .int y3), (4, .int y4)]) hx hb d_TuneSetterModel_next_110 hl (by decide) rfl (fun ls hl => ?_)
    refine lv_iload hx hb d_TuneSetterModel_next_112 (lv_at hl 0 rfl) ?_
    refine lv_if_eq (tgt := 127) hx hb d_TuneSetterModel_next_114 rfl (fun q => ?_) (fun q => ?_)
    · have h := h.1 q
      exact j127 y1 y2 y3 y4 0 I A _ _ _ h hP hS (lv_sub hl [1, 2, 3, 4, 5, 0] rfl)
    · have h := h.2 q
      refine lv_aload_n hx hb d_TuneSetterModel_next_117 rfl (lv_at hl 1 rfl) ?_
      refine k_TuneSetterModel_hasLength (rest := []) ⟨hx, hb, hml, hown, hw⟩ hK hD hA hS hP hl.1 (hw _ m_TuneSetterModel_149) (Nat.le_of_ble_eq_true rfl) ⟨Nat.le_of_ble_eq_true rfl, Nat.le_of_ble_eq_true rfl⟩ ⟨Nat.zero_le _, Nat.zero_le _⟩ d_TuneSetterModel_next_118 h (fun r118 I118 A118 H locs h hP hS => ?_)
      refine lv_if_ne (tgt := 127) hx hb d_TuneSetterModel_next_121 rfl (fun q => ?_) (fun q => ?_)
      · have h := h.2 q
        exact j127 y1 y2 y3 y4 0 I118 A118 _ _ _ h hP hS (lv_sub hl [1, 2, 3, 4, 5, 0] rfl)
      · have h := h.1 q
        refine lv_bipush (v := (-3)) hx hb d_TuneSetterModel_next_124 bp_m3 ?_
        exact W.iret hx hb hr (fun t ht hW => ⟨⟨_, (I118, A118), rfl, h, endR_of ht hP⟩, hS.F ht⟩) hS.2.2 d_TuneSetterModel_next_126
  have j92 : ∀ (y1 : Int32) (y2 : Int32) (y3 : Int32) (y4 : Int32) (I : Nat → Int32) (A : Nat → Nat → Int32) (H : Heap) (locs : List Loc) (ls : Array Slot), wp_TuneSetterModel_next_92 post y1 y2 y3 y4 I A → va_P D cls (wR cA a I A) H → va_S (AR a s.heap.size) s.heap H locs → lv_has ls 7 [(0, .ref (a 0)), (1, .int y1), (2, .int y2), (3, .int y3), (4, .int y4)] → W p l e (headSpec w_TuneSetterModel_next ({ frames := 9, cells := 0, slots := 0, locals := 195 })).room s m [.ref (a 0), .int x1, .int x2].toArray below meth c H locs 0 0 (MQ below (va_Qi (fun r (u : StW) => post r u.1 u.2) (EndR D cA a) (AR a s.heap.size)) [.ref (a 0), .int x1, .int x2].toArray s 0 0 (AR a s.heap.size)) (F0 m 92 ls []) := by
    intro y1 y2 y3 y4 I A H locs ls h hP hS hl
    unfold wp_TuneSetterModel_next_92 at h
    refine lv_iload hx hb d_TuneSetterModel_next_92 (lv_at hl 4 rfl) ?_
    refine lv_if_eq (tgt := 109) hx hb d_TuneSetterModel_next_94 rfl (fun q => ?_) (fun q => ?_)
    · have h := h.1 q
      exact j109 y1 y2 y3 y4 I A _ _ _ h hP hS (lv_sub hl [0, 1, 2, 3, 4] rfl)
    · have h := h.2 q
      refine lv_aload_n hx hb d_TuneSetterModel_next_97 rfl (lv_at hl 0 rfl) ?_
      refine lv_iload_n hx hb d_TuneSetterModel_next_98 rfl (lv_at hl 1 rfl) ?_
      refine k_TuneSetterModel_goesOnNumber y1 (rest := []) ⟨hx, hb, hml, hown, hw⟩ hK hD hA hS hP hl.1 (hw _ m_TuneSetterModel_146) (Nat.le_of_ble_eq_true rfl) ⟨Nat.le_of_ble_eq_true rfl, Nat.le_of_ble_eq_true rfl⟩ ⟨Nat.zero_le _, Nat.zero_le _⟩ d_TuneSetterModel_next_99 h (fun r99 I99 A99 H locs h hP hS => ?_)
      refine lv_if_ne (tgt := 109) hx hb d_TuneSetterModel_next_102 rfl (fun q => ?_) (fun q => ?_)
      · have h := h.2 q
        exact j109 y1 y2 y3 y4 I99 A99 _ _ _ h hP hS (lv_sub hl [0, 1, 2, 3, 4] rfl)
      · have h := h.1 q
        refine lv_iconst (v := 1) hx hb d_TuneSetterModel_next_105 ic_1 ?_
        refine lv_goto (tgt := 110) hx hb d_TuneSetterModel_next_106 rfl ?_
        refine lv_istore (lv' := [(5, .int 1), (0, .ref (a 0)), (1, .int y1), (2, .int y2), (3, .int y3), (4, .int y4)]) hx hb d_TuneSetterModel_next_110 hl (by decide) rfl (fun ls hl => ?_)
        refine lv_iload hx hb d_TuneSetterModel_next_112 (lv_at hl 0 rfl) ?_
        refine lv_if_eq (tgt := 127) hx hb d_TuneSetterModel_next_114 rfl (fun q => ?_) (fun q => ?_)
        · have h := h.1 q
          exact j127 y1 y2 y3 y4 1 I99 A99 _ _ _ h hP hS (lv_sub hl [1, 2, 3, 4, 5, 0] rfl)
        · have h := h.2 q
          refine lv_aload_n hx hb d_TuneSetterModel_next_117 rfl (lv_at hl 1 rfl) ?_
          refine k_TuneSetterModel_hasLength (rest := []) ⟨hx, hb, hml, hown, hw⟩ hK hD hA hS hP hl.1 (hw _ m_TuneSetterModel_149) (Nat.le_of_ble_eq_true rfl) ⟨Nat.le_of_ble_eq_true rfl, Nat.le_of_ble_eq_true rfl⟩ ⟨Nat.zero_le _, Nat.zero_le _⟩ d_TuneSetterModel_next_118 h (fun r118 I118 A118 H locs h hP hS => ?_)
          refine lv_if_ne (tgt := 127) hx hb d_TuneSetterModel_next_121 rfl (fun q => ?_) (fun q => ?_)
          · have h := h.2 q
            exact j127 y1 y2 y3 y4 1 I118 A118 _ _ _ h hP hS (lv_sub hl [1, 2, 3, 4, 5, 0] rfl)
          · have h := h.1 q
            refine lv_bipush (v := (-3)) hx hb d_TuneSetterModel_next_124 bp_m3 ?_
            exact W.iret hx hb hr (fun t ht hW => ⟨⟨_, (I118, A118), rfl, h, endR_of ht hP⟩, hS.F ht⟩) hS.2.2 d_TuneSetterModel_next_126
  have j65 : ∀ (y1 : Int32) (y2 : Int32) (y3 : Int32) (y4 : Int32) (I : Nat → Int32) (A : Nat → Nat → Int32) (H : Heap) (locs : List Loc) (ls : Array Slot), wp_TuneSetterModel_next_65 post y1 y2 y3 y4 I A → va_P D cls (wR cA a I A) H → va_S (AR a s.heap.size) s.heap H locs → lv_has ls 7 [(0, .ref (a 0)), (1, .int y1), (2, .int y2), (3, .int y3), (4, .int y4)] → W p l e (headSpec w_TuneSetterModel_next ({ frames := 9, cells := 0, slots := 0, locals := 195 })).room s m [.ref (a 0), .int x1, .int x2].toArray below meth c H locs 0 0 (MQ below (va_Qi (fun r (u : StW) => post r u.1 u.2) (EndR D cA a) (AR a s.heap.size)) [.ref (a 0), .int x1, .int x2].toArray s 0 0 (AR a s.heap.size)) (F0 m 65 ls []) := by
    intro y1 y2 y3 y4 I A H locs ls h hP hS hl
    unfold wp_TuneSetterModel_next_65 at h
    refine lv_aload_n hx hb d_TuneSetterModel_next_65 rfl (lv_at hl 0 rfl) ?_
    refine gR_TuneSetterModel_state hx hb hw hown hK hP (hw _ m_TuneSetterModel_100) d_TuneSetterModel_next_66 ?_
    refine lv_bipush (v := 11) hx hb d_TuneSetterModel_next_69 bp_11 ?_
    refine lv_icmp_ne (tgt := 92) hx hb d_TuneSetterModel_next_71 rfl (fun q => ?_) (fun q => ?_)
    · have h := h.2 q
      exact j92 y1 y2 y3 y4 I A _ _ _ h hP hS (lv_sub hl [0, 1, 2, 3, 4] rfl)
    · have h := h.1 q
      refine lv_iload_n hx hb d_TuneSetterModel_next_74 rfl (lv_at hl 1 rfl) ?_
      refine k_TuneSetterModel_isDigit y1 (rest := []) ⟨hx, hb, hml, hown, hw⟩ hK hD hA hS hP hl.1 (hw _ m_TuneSetterModel_128) (Nat.le_of_ble_eq_true rfl) ⟨Nat.le_of_ble_eq_true rfl, Nat.le_of_ble_eq_true rfl⟩ ⟨Nat.zero_le _, Nat.zero_le _⟩ d_TuneSetterModel_next_75 h (fun r75 I75 A75 H locs h hP hS => ?_)
      refine lv_if_eq (tgt := 92) hx hb d_TuneSetterModel_next_78 rfl (fun q => ?_) (fun q => ?_)
      · have h := h.1 q
        exact j92 y1 y2 y3 y4 I75 A75 _ _ _ h hP hS (lv_sub hl [0, 1, 2, 3, 4] rfl)
      · have h := h.2 q
        refine lv_aload_n hx hb d_TuneSetterModel_next_81 rfl (lv_at hl 0 rfl) ?_
        refine lv_iload_n hx hb d_TuneSetterModel_next_82 rfl (lv_at hl 1 rfl) ?_
        refine k_TuneSetterModel_goesOnNumber y1 (rest := []) ⟨hx, hb, hml, hown, hw⟩ hK hD hA hS hP hl.1 (hw _ m_TuneSetterModel_146) (Nat.le_of_ble_eq_true rfl) ⟨Nat.le_of_ble_eq_true rfl, Nat.le_of_ble_eq_true rfl⟩ ⟨Nat.zero_le _, Nat.zero_le _⟩ d_TuneSetterModel_next_83 h (fun r83 I83 A83 H locs h hP hS => ?_)
        refine lv_if_ne (tgt := 92) hx hb d_TuneSetterModel_next_86 rfl (fun q => ?_) (fun q => ?_)
        · have h := h.2 q
          exact j92 y1 y2 y3 y4 I83 A83 _ _ _ h hP hS (lv_sub hl [0, 1, 2, 3, 4] rfl)
        · have h := h.1 q
          refine lv_bipush (v := (-2)) hx hb d_TuneSetterModel_next_89 bp_m2 ?_
          exact W.iret hx hb hr (fun t ht hW => ⟨⟨_, (I83, A83), rfl, h, endR_of ht hP⟩, hS.F ht⟩) hS.2.2 d_TuneSetterModel_next_91
  have j48 : ∀ (y1 : Int32) (y2 : Int32) (y3 : Int32) (s0 : Int32) (I : Nat → Int32) (A : Nat → Nat → Int32) (H : Heap) (locs : List Loc) (ls : Array Slot), wp_TuneSetterModel_next_48 post y1 y2 y3 s0 I A → va_P D cls (wR cA a I A) H → va_S (AR a s.heap.size) s.heap H locs → lv_has ls 7 [(0, .ref (a 0)), (1, .int y1), (2, .int y2), (3, .int y3)] → W p l e (headSpec w_TuneSetterModel_next ({ frames := 9, cells := 0, slots := 0, locals := 195 })).room s m [.ref (a 0), .int x1, .int x2].toArray below meth c H locs 0 0 (MQ below (va_Qi (fun r (u : StW) => post r u.1 u.2) (EndR D cA a) (AR a s.heap.size)) [.ref (a 0), .int x1, .int x2].toArray s 0 0 (AR a s.heap.size)) (F0 m 48 ls [.int s0]) := by
    intro y1 y2 y3 s0 I A H locs ls h hP hS hl
    unfold wp_TuneSetterModel_next_48 at h
    refine lv_istore (lv' := [(4, .int s0), (0, .ref (a 0)), (1, .int y1), (2, .int y2), (3, .int y3)]) hx hb d_TuneSetterModel_next_48 hl (by decide) rfl (fun ls hl => ?_)
    refine lv_iload_n hx hb d_TuneSetterModel_next_50 rfl (lv_at hl 4 rfl) ?_
    refine lv_if_eq (tgt := 65) hx hb d_TuneSetterModel_next_51 rfl (fun q => ?_) (fun q => ?_)
    · have h := h.1 q
      exact j65 y1 y2 y3 s0 I A _ _ _ h hP hS (lv_sub hl [1, 2, 3, 4, 0] rfl)
    · have h := h.2 q
      refine lv_aload_n hx hb d_TuneSetterModel_next_54 rfl (lv_at hl 1 rfl) ?_
      refine gR_TuneSetterModel_chord hx hb hw hown hK hP (hw _ m_TuneSetterModel_140) d_TuneSetterModel_next_55 ?_
      refine lv_if_ne (tgt := 65) hx hb d_TuneSetterModel_next_58 rfl (fun q => ?_) (fun q => ?_)
      · have h := h.2 q
        exact j65 y1 y2 y3 s0 I A _ _ _ h hP hS (lv_sub hl [1, 2, 3, 4, 0] rfl)
      · have h := h.1 q
        refine lv_aload_n hx hb d_TuneSetterModel_next_61 rfl (lv_at hl 1 rfl) ?_
        refine k_TuneSetterModel_openNumber (rest := []) ⟨hx, hb, hml, hown, hw⟩ hK hD hA hS hP hl.1 (hw _ m_TuneSetterModel_143) (Nat.le_of_ble_eq_true rfl) ⟨Nat.le_of_ble_eq_true rfl, Nat.le_of_ble_eq_true rfl⟩ ⟨Nat.zero_le _, Nat.zero_le _⟩ d_TuneSetterModel_next_62 h (fun I62 A62 H locs h hP hS => ?_)
        exact j65 y1 y2 y3 s0 I62 A62 _ _ _ h hP hS (lv_sub hl [1, 2, 3, 4, 0] rfl)
  have j22 : ∀ (y1 : Int32) (y2 : Int32) (s0 : Int32) (I : Nat → Int32) (A : Nat → Nat → Int32) (H : Heap) (locs : List Loc) (ls : Array Slot), wp_TuneSetterModel_next_22 post y1 y2 s0 I A → va_P D cls (wR cA a I A) H → va_S (AR a s.heap.size) s.heap H locs → lv_has ls 7 [(0, .ref (a 0)), (1, .int y1), (2, .int y2)] → W p l e (headSpec w_TuneSetterModel_next ({ frames := 9, cells := 0, slots := 0, locals := 195 })).room s m [.ref (a 0), .int x1, .int x2].toArray below meth c H locs 0 0 (MQ below (va_Qi (fun r (u : StW) => post r u.1 u.2) (EndR D cA a) (AR a s.heap.size)) [.ref (a 0), .int x1, .int x2].toArray s 0 0 (AR a s.heap.size)) (F0 m 22 ls [.int s0]) := by
    intro y1 y2 s0 I A H locs ls h hP hS hl
    unfold wp_TuneSetterModel_next_22 at h
    refine lv_istore_n (lv' := [(3, .int s0), (0, .ref (a 0)), (1, .int y1), (2, .int y2)]) hx hb d_TuneSetterModel_next_22 rfl hl (by decide) rfl (fun ls hl => ?_)
    refine lv_aload_n hx hb d_TuneSetterModel_next_23 rfl (lv_at hl 1 rfl) ?_
    refine gR_TuneSetterModel_state hx hb hw hown hK hP (hw _ m_TuneSetterModel_100) d_TuneSetterModel_next_24 ?_
    refine lv_bipush (v := 11) hx hb d_TuneSetterModel_next_27 bp_11 ?_
    refine lv_icmp_eq (tgt := 43) hx hb d_TuneSetterModel_next_29 rfl (fun q => ?_) (fun q => ?_)
    · have h := h.1 q
      refine lv_iconst (v := 1) hx hb d_TuneSetterModel_next_43 ic_1 ?_
      refine lv_goto (tgt := 48) hx hb d_TuneSetterModel_next_44 rfl ?_
      exact j48 y1 y2 s0 1 I A _ _ _ h hP hS (lv_sub hl [1, 2, 3, 0] rfl)
    · have h := h.2 q
      refine lv_iload_n hx hb d_TuneSetterModel_next_32 rfl (lv_at hl 0 rfl) ?_
      refine lv_if_eq (tgt := 47) hx hb d_TuneSetterModel_next_33 rfl (fun q => ?_) (fun q => ?_)
      · have h := h.1 q
        refine lv_iconst (v := 0) hx hb d_TuneSetterModel_next_47 ic_0 ?_
        exact j48 y1 y2 s0 0 I A _ _ _ h hP hS (lv_sub hl [1, 2, 3, 0] rfl)
      · have h := h.2 q
        refine lv_aload_n hx hb d_TuneSetterModel_next_36 rfl (lv_at hl 1 rfl) ?_
        refine gR_TuneSetterModel_chord hx hb hw hown hK hP (hw _ m_TuneSetterModel_140) d_TuneSetterModel_next_37 ?_
        refine lv_if_ne (tgt := 47) hx hb d_TuneSetterModel_next_40 rfl (fun q => ?_) (fun q => ?_)
        · have h := h.2 q
          refine lv_iconst (v := 0) hx hb d_TuneSetterModel_next_47 ic_0 ?_
          exact j48 y1 y2 s0 0 I A _ _ _ h hP hS (lv_sub hl [1, 2, 3, 0] rfl)
        · have h := h.1 q
          refine lv_iconst (v := 1) hx hb d_TuneSetterModel_next_43 ic_1 ?_
          refine lv_goto (tgt := 48) hx hb d_TuneSetterModel_next_44 rfl ?_
          exact j48 y1 y2 s0 1 I A _ _ _ h hP hS (lv_sub hl [1, 2, 3, 0] rfl)
  have hl := lv_entry ([.ref (a 0), .int x1, .int x2]) (n := 7) (Nat.le_of_ble_eq_true rfl)
  rw [lg_entry_eq]
  generalize (lg_sl ([.ref (a 0), .int x1, .int x2]) ++ List.replicate (7 - (lg_sl ([.ref (a 0), .int x1, .int x2])).length) Slot.unset).toArray = ls at hl ⊢
  have hl : lv_has ls 7 [(0, .ref (a 0)), (1, .int x1), (2, .int x2)] := hl
  unfold wp_TuneSetterModel_next at h
  refine lv_aload_n hx hb d_TuneSetterModel_next_0 rfl (lv_at hl 0 rfl) ?_
  refine gR_TuneSetterModel_state hx hb hw hown hK hP (hw _ m_TuneSetterModel_100) d_TuneSetterModel_next_1 ?_
  refine lv_bipush (v := 9) hx hb d_TuneSetterModel_next_4 bp_9 ?_
  refine lv_icmp_ne (tgt := 21) hx hb d_TuneSetterModel_next_6 rfl (fun q => ?_) (fun q => ?_)
  · have h := h.2 q
    refine lv_iconst (v := 0) hx hb d_TuneSetterModel_next_21 ic_0 ?_
    exact j22 x1 x2 0 I A _ _ _ h hP hS (lv_sub hl [0, 1, 2] rfl)
  · have h := h.1 q
    refine lv_aload_n hx hb d_TuneSetterModel_next_9 rfl (lv_at hl 0 rfl) ?_
    refine lv_iload_n hx hb d_TuneSetterModel_next_10 rfl (lv_at hl 1 rfl) ?_
    refine k_TuneSetterModel_goesOnLetter x1 (rest := []) ⟨hx, hb, hml, hown, hw⟩ hK hD hA hS hP hl.1 (hw _ m_TuneSetterModel_137) (Nat.le_of_ble_eq_true rfl) ⟨Nat.le_of_ble_eq_true rfl, Nat.le_of_ble_eq_true rfl⟩ ⟨Nat.zero_le _, Nat.zero_le _⟩ d_TuneSetterModel_next_11 h (fun r11 I11 A11 H locs h hP hS => ?_)
    refine lv_if_ne (tgt := 21) hx hb d_TuneSetterModel_next_14 rfl (fun q => ?_) (fun q => ?_)
    · have h := h.2 q
      refine lv_iconst (v := 0) hx hb d_TuneSetterModel_next_21 ic_0 ?_
      exact j22 x1 x2 0 I11 A11 _ _ _ h hP hS (lv_sub hl [0, 1, 2] rfl)
    · have h := h.1 q
      refine lv_iconst (v := 1) hx hb d_TuneSetterModel_next_17 ic_1 ?_
      refine lv_goto (tgt := 22) hx hb d_TuneSetterModel_next_18 rfl ?_
      exact j22 x1 x2 1 I11 A11 _ _ _ h hP hS (lv_sub hl [0, 1, 2] rfl)
theorem k_TuneSetterModel_next {p : Program} {l : Launch} {e : Env} {R : Room} {s : State} {m : MethodId} {args : Array Value} {below : List Frame} {meth : Method} {c : Code} {H : Heap} {locs : List Loc} {cells slots : Nat} {Q : State → Prop} {cc : ByteArray} {pc nL idx : Nat} {own : String} {ls : Array Slot} {D : va_G} {cA a : Nat → Nat} {AA : Nat → Prop} {I : Nat → Int32} {A : Nat → Nat → Int32} {post : Int32 → (Nat → Int32) → (Nat → Nat → Int32) → Prop} (x1 : Int32) (x2 : Int32) {rest : List Value} (S : CallFix p m c cc nL s args WALL own) (hK : KR D cA a AA s) (hD : ∀ I A, va_D AA (wR cA a I A)) (hA : ∀ q : Nat, s.heap.size ≤ q → AA q) (hS : va_S AA s.heap H locs) (hP : va_P D cls (wR cA a I A) H) (hl1 : ls.size = nL) (hlink : (Cond.methodLink own idx y_TuneSetterModel_next).before args s = true) (hst : (rest.map fun v => v.category).sum ≤ 8) (hR : ({ frames := 9, cells := 0, slots := 0, locals := 195 } : Room).frames + 1 ≤ R.frames ∧ 8 + (7 + 11) + ({ frames := 9, cells := 0, slots := 0, locals := 195 } : Room).locals ≤ R.locals) (hcs : cells ≤ R.cells ∧ slots ≤ R.slots) (hdg : decode cc pc = .ok (.invokevirtual idx, 3)) (h : wp_TuneSetterModel_next x1 x2 I A post) (kk : ∀ (r : Int32) (I1 : Nat → Int32) (A1 : Nat → Nat → Int32) (H1 : Heap) (locs1 : List Loc), post r I1 A1 → va_P D cls (wR cA a I1 A1) H1 → va_S AA s.heap H1 locs1 → W p l e R s m args below meth c H1 locs1 cells slots Q (F0 m (pc + 3) ls (.int r :: rest))) : W p l e R s m args below meth c H locs cells slots Q (F0 m pc ls (.int x2 :: .int x1 :: .ref (a 0) :: rest)) :=
  va_calli (va_runV (As := [.int x1, .int x2]) (rest := rest) S (c_TuneSetterModel_next l D cA a H.size x1 x2 I A post h) ⟨callB_of 2 S.2.2.2.2 g_TuneSetterModel_next rfl rfl rfl (S.2.2.2.2 _ mi_TuneSetterModel) hlink ⟨by decide, by decide, by decide +kernel⟩ hR, S.2.2.2.2 _ mn_TuneSetterModel_next, S.2.2.2.2 _ ms_TuneSetterModel_next⟩ (preRV hK hD hA hS hP 0 rfl rfl) rfl rfl hl1 rfl (lv_room hst) hdg hcs) hS (fun q _ z => AR_le hD hA hS q z) (fun q z => AR_le hD hA hS q z) (fun r u t H1 locs1 ht _ hp hB _ _ hS1 => kk r u.1 u.2 H1 locs1 hp (of_endR ht hB) hS1)
def wp_TuneSetterModel_read_97 (post : Int32 → (Nat → Int32) → (Nat → Nat → Int32) → Prop) (y1 : Int32) (I : Nat → Int32) (A : Nat → Nat → Int32) : Prop := ((0 ≤ y1 → post (I 25) (upd (upd I 7 (-1)) 6 1) A) ∧ (¬ 0 ≤ y1 → post y1 (upd (upd I 5 0) 25 0) A))
def wp_TuneSetterModel_read_41 (post : Int32 → (Nat → Int32) → (Nat → Nat → Int32) → Prop) : Nat → Int32 → Int32 → (Nat → Int32) → (Nat → Nat → Int32) → Prop
  | 0, _, _, _, _ => False
  | n + 1, y1, y2, I, A => (((I 4) < y2 → ((y1 = 0 → (wp_TuneSetterModel_perform I A (fun r93 I93 A93 => wp_TuneSetterModel_read_97 post r93 I93 A93))) ∧ (¬ y1 = 0 → wp_TuneSetterModel_read_97 post y1 I A))) ∧ (¬ (I 4) < y2 → ((y1 = 0 → (((I 4) ≤ y2 → (wp_TuneSetterModel_next (-1) y2 (upd I 7 y2) A (fun r78 I78 A78 => (∀ v82 : Int32, v82 = y2 + 1 → wp_TuneSetterModel_read_41 post n r78 v82 I78 A78)))) ∧ (¬ (I 4) ≤ y2 → (vp_in y2 121 ∧ (wp_TuneSetterModel_next (A 1 (y2.toNatClampNeg)) y2 (upd I 7 y2) A (fun r78 I78 A78 => (∀ v82 : Int32, v82 = y2 + 1 → wp_TuneSetterModel_read_41 post n r78 v82 I78 A78))))))) ∧ (¬ y1 = 0 → ((y1 = 0 → (wp_TuneSetterModel_perform I A (fun r93 I93 A93 => wp_TuneSetterModel_read_97 post r93 I93 A93))) ∧ (¬ y1 = 0 → wp_TuneSetterModel_read_97 post y1 I A))))))
def wp_TuneSetterModel_read (I : Nat → Int32) (A : Nat → Nat → Int32) (post : Int32 → (Nat → Int32) → (Nat → Nat → Int32) → Prop) : Prop := (vp_in 0 9 ∧ (∃ n41, wp_TuneSetterModel_read_41 post n41 0 0 (upd (upd (upd (upd (upd (upd I 5 0) 8 0) 6 0) 25 0) 9 0) 13 0) (upd2 A 5 ((0 : Int32).toNatClampNeg) 0)))
theorem d_TuneSetterModel_read_0 : decode b_TuneSetterModel_read 0 = .ok (.aload_n 0, 1) := by decide +kernel
theorem d_TuneSetterModel_read_1 : decode b_TuneSetterModel_read 1 = .ok (.iconst 0, 1) := by decide +kernel
theorem d_TuneSetterModel_read_2 : decode b_TuneSetterModel_read 2 = .ok (.putfield 87, 3) := by decide +kernel
theorem d_TuneSetterModel_read_5 : decode b_TuneSetterModel_read 5 = .ok (.aload_n 0, 1) := by decide +kernel
theorem d_TuneSetterModel_read_6 : decode b_TuneSetterModel_read 6 = .ok (.iconst 0, 1) := by decide +kernel
theorem d_TuneSetterModel_read_7 : decode b_TuneSetterModel_read 7 = .ok (.putfield 90, 3) := by decide +kernel
theorem d_TuneSetterModel_read_10 : decode b_TuneSetterModel_read 10 = .ok (.aload_n 0, 1) := by decide +kernel
theorem d_TuneSetterModel_read_11 : decode b_TuneSetterModel_read 11 = .ok (.iconst 0, 1) := by decide +kernel
theorem d_TuneSetterModel_read_12 : decode b_TuneSetterModel_read 12 = .ok (.putfield 93, 3) := by decide +kernel
theorem d_TuneSetterModel_read_15 : decode b_TuneSetterModel_read 15 = .ok (.aload_n 0, 1) := by decide +kernel
theorem d_TuneSetterModel_read_16 : decode b_TuneSetterModel_read 16 = .ok (.iconst 0, 1) := by decide +kernel
theorem d_TuneSetterModel_read_17 : decode b_TuneSetterModel_read 17 = .ok (.putfield 97, 3) := by decide +kernel
theorem d_TuneSetterModel_read_20 : decode b_TuneSetterModel_read 20 = .ok (.aload_n 0, 1) := by decide +kernel
theorem d_TuneSetterModel_read_21 : decode b_TuneSetterModel_read 21 = .ok (.iconst 0, 1) := by decide +kernel
theorem d_TuneSetterModel_read_22 : decode b_TuneSetterModel_read 22 = .ok (.putfield 100, 3) := by decide +kernel
theorem d_TuneSetterModel_read_25 : decode b_TuneSetterModel_read 25 = .ok (.aload_n 0, 1) := by decide +kernel
theorem d_TuneSetterModel_read_26 : decode b_TuneSetterModel_read 26 = .ok (.iconst 0, 1) := by decide +kernel
theorem d_TuneSetterModel_read_27 : decode b_TuneSetterModel_read 27 = .ok (.putfield 103, 3) := by decide +kernel
theorem d_TuneSetterModel_read_30 : decode b_TuneSetterModel_read 30 = .ok (.aload_n 0, 1) := by decide +kernel
theorem d_TuneSetterModel_read_31 : decode b_TuneSetterModel_read 31 = .ok (.getfield 35, 3) := by decide +kernel
theorem d_TuneSetterModel_read_34 : decode b_TuneSetterModel_read 34 = .ok (.iconst 0, 1) := by decide +kernel
theorem d_TuneSetterModel_read_35 : decode b_TuneSetterModel_read 35 = .ok (.iconst 0, 1) := by decide +kernel
theorem d_TuneSetterModel_read_36 : decode b_TuneSetterModel_read 36 = .ok (.iastore, 1) := by decide +kernel
theorem d_TuneSetterModel_read_37 : decode b_TuneSetterModel_read 37 = .ok (.iconst 0, 1) := by decide +kernel
theorem d_TuneSetterModel_read_38 : decode b_TuneSetterModel_read 38 = .ok (.istore_n 1, 1) := by decide +kernel
theorem d_TuneSetterModel_read_39 : decode b_TuneSetterModel_read 39 = .ok (.iconst 0, 1) := by decide +kernel
theorem d_TuneSetterModel_read_40 : decode b_TuneSetterModel_read 40 = .ok (.istore_n 2, 1) := by decide +kernel
theorem d_TuneSetterModel_read_41 : decode b_TuneSetterModel_read 41 = .ok (.iload_n 2, 1) := by decide +kernel
theorem d_TuneSetterModel_read_42 : decode b_TuneSetterModel_read 42 = .ok (.aload_n 0, 1) := by decide +kernel
theorem d_TuneSetterModel_read_43 : decode b_TuneSetterModel_read 43 = .ok (.getfield 84, 3) := by decide +kernel
theorem d_TuneSetterModel_read_46 : decode b_TuneSetterModel_read 46 = .ok (.if_icmp .gt 42, 3) := by decide +kernel
theorem d_TuneSetterModel_read_49 : decode b_TuneSetterModel_read 49 = .ok (.iload_n 1, 1) := by decide +kernel
theorem d_TuneSetterModel_read_50 : decode b_TuneSetterModel_read 50 = .ok (.ifCond .ne 38, 3) := by decide +kernel
theorem d_TuneSetterModel_read_53 : decode b_TuneSetterModel_read 53 = .ok (.aload_n 0, 1) := by decide +kernel
theorem d_TuneSetterModel_read_54 : decode b_TuneSetterModel_read 54 = .ok (.iload_n 2, 1) := by decide +kernel
theorem d_TuneSetterModel_read_55 : decode b_TuneSetterModel_read 55 = .ok (.putfield 23, 3) := by decide +kernel
theorem d_TuneSetterModel_read_58 : decode b_TuneSetterModel_read 58 = .ok (.aload_n 0, 1) := by decide +kernel
theorem d_TuneSetterModel_read_59 : decode b_TuneSetterModel_read 59 = .ok (.iload_n 2, 1) := by decide +kernel
theorem d_TuneSetterModel_read_60 : decode b_TuneSetterModel_read 60 = .ok (.aload_n 0, 1) := by decide +kernel
theorem d_TuneSetterModel_read_61 : decode b_TuneSetterModel_read 61 = .ok (.getfield 84, 3) := by decide +kernel
theorem d_TuneSetterModel_read_64 : decode b_TuneSetterModel_read 64 = .ok (.if_icmp .ge 12, 3) := by decide +kernel
theorem d_TuneSetterModel_read_67 : decode b_TuneSetterModel_read 67 = .ok (.aload_n 0, 1) := by decide +kernel
theorem d_TuneSetterModel_read_68 : decode b_TuneSetterModel_read 68 = .ok (.getfield 19, 3) := by decide +kernel
theorem d_TuneSetterModel_read_71 : decode b_TuneSetterModel_read 71 = .ok (.iload_n 2, 1) := by decide +kernel
theorem d_TuneSetterModel_read_72 : decode b_TuneSetterModel_read 72 = .ok (.iaload, 1) := by decide +kernel
theorem d_TuneSetterModel_read_73 : decode b_TuneSetterModel_read 73 = .ok (.goto 4, 3) := by decide +kernel
theorem d_TuneSetterModel_read_76 : decode b_TuneSetterModel_read 76 = .ok (.iconst (-1), 1) := by decide +kernel
theorem d_TuneSetterModel_read_77 : decode b_TuneSetterModel_read 77 = .ok (.iload_n 2, 1) := by decide +kernel
theorem d_TuneSetterModel_read_78 : decode b_TuneSetterModel_read 78 = .ok (.invokevirtual 106, 3) := by decide +kernel
theorem d_TuneSetterModel_read_81 : decode b_TuneSetterModel_read 81 = .ok (.istore_n 1, 1) := by decide +kernel
theorem d_TuneSetterModel_read_82 : decode b_TuneSetterModel_read 82 = .ok (.iinc 2 1, 3) := by decide +kernel
theorem d_TuneSetterModel_read_85 : decode b_TuneSetterModel_read 85 = .ok (.goto (-44), 3) := by decide +kernel
theorem d_TuneSetterModel_read_88 : decode b_TuneSetterModel_read 88 = .ok (.iload_n 1, 1) := by decide +kernel
theorem d_TuneSetterModel_read_89 : decode b_TuneSetterModel_read 89 = .ok (.ifCond .ne 8, 3) := by decide +kernel
theorem d_TuneSetterModel_read_92 : decode b_TuneSetterModel_read 92 = .ok (.aload_n 0, 1) := by decide +kernel
theorem d_TuneSetterModel_read_93 : decode b_TuneSetterModel_read 93 = .ok (.invokevirtual 110, 3) := by decide +kernel
theorem d_TuneSetterModel_read_96 : decode b_TuneSetterModel_read 96 = .ok (.istore_n 1, 1) := by decide +kernel
theorem d_TuneSetterModel_read_97 : decode b_TuneSetterModel_read 97 = .ok (.iload_n 1, 1) := by decide +kernel
theorem d_TuneSetterModel_read_98 : decode b_TuneSetterModel_read 98 = .ok (.ifCond .ge 15, 3) := by decide +kernel
theorem d_TuneSetterModel_read_101 : decode b_TuneSetterModel_read 101 = .ok (.aload_n 0, 1) := by decide +kernel
theorem d_TuneSetterModel_read_102 : decode b_TuneSetterModel_read 102 = .ok (.iconst 0, 1) := by decide +kernel
theorem d_TuneSetterModel_read_103 : decode b_TuneSetterModel_read 103 = .ok (.putfield 87, 3) := by decide +kernel
theorem d_TuneSetterModel_read_106 : decode b_TuneSetterModel_read 106 = .ok (.aload_n 0, 1) := by decide +kernel
theorem d_TuneSetterModel_read_107 : decode b_TuneSetterModel_read 107 = .ok (.iconst 0, 1) := by decide +kernel
theorem d_TuneSetterModel_read_108 : decode b_TuneSetterModel_read 108 = .ok (.putfield 97, 3) := by decide +kernel
theorem d_TuneSetterModel_read_111 : decode b_TuneSetterModel_read 111 = .ok (.iload_n 1, 1) := by decide +kernel
theorem d_TuneSetterModel_read_112 : decode b_TuneSetterModel_read 112 = .ok (.ireturn, 1) := by decide +kernel
theorem d_TuneSetterModel_read_113 : decode b_TuneSetterModel_read 113 = .ok (.aload_n 0, 1) := by decide +kernel
theorem d_TuneSetterModel_read_114 : decode b_TuneSetterModel_read 114 = .ok (.iconst (-1), 1) := by decide +kernel
theorem d_TuneSetterModel_read_115 : decode b_TuneSetterModel_read 115 = .ok (.putfield 23, 3) := by decide +kernel
theorem d_TuneSetterModel_read_118 : decode b_TuneSetterModel_read 118 = .ok (.aload_n 0, 1) := by decide +kernel
theorem d_TuneSetterModel_read_119 : decode b_TuneSetterModel_read 119 = .ok (.iconst 1, 1) := by decide +kernel
theorem d_TuneSetterModel_read_120 : decode b_TuneSetterModel_read 120 = .ok (.putfield 93, 3) := by decide +kernel
theorem d_TuneSetterModel_read_123 : decode b_TuneSetterModel_read 123 = .ok (.aload_n 0, 1) := by decide +kernel
theorem d_TuneSetterModel_read_124 : decode b_TuneSetterModel_read 124 = .ok (.getfield 97, 3) := by decide +kernel
theorem d_TuneSetterModel_read_127 : decode b_TuneSetterModel_read 127 = .ok (.ireturn, 1) := by decide +kernel
def w_TuneSetterModel_read : List Cond := .code y_TuneSetterModel_read b_TuneSetterModel_read 3 (some .int) :: WALL
theorem g_TuneSetterModel_read : GoodIn WALL w_TuneSetterModel_read := good_of mc_TuneSetterModel_read
set_option maxHeartbeats 4000000 in
set_option maxRecDepth 100000 in
theorem c_TuneSetterModel_read (l : Launch) (D : va_G) (cA a : Nat → Nat) (sz : Nat) (I : Nat → Int32) (A : Nat → Nat → Int32) (post : Int32 → (Nat → Int32) → (Nat → Nat → Int32) → Prop) (h : wp_TuneSetterModel_read I A post) : Met l y_TuneSetterModel_read w_TuneSetterModel_read ({ frames := 10, cells := 0, slots := 0, locals := 221 }) (va_Pc [.ref (a 0)] (PreR D cA a I A sz)) (va_Qi (fun r (u : StW) => post r u.1 u.2) (EndR D cA a) (AR a sz)) 0 0 (AR a sz) := by
  refine Met.ofW (cc := b_TuneSetterModel_read) (maxL := 3) (ret := (some .int)) (by decide) rfl ?_
  intro p e s m args below meth c s₁ B hml hv
  obtain ⟨rfl, hsz, hP, hK, hD0⟩ := hv
  have hx := B.exec
  have hb := B.bytes
  have hr := B.returns
  have hts := atoms_spec (ws := w_TuneSetterModel_read) B.pre
  have hw := wall_of hts
  have hown : s.vm.findClass R_TuneSetterModel = some m.cls := findClass_of_methodNamed B.named
  have hlocks := B.notSynchronized
  subst hsz
  have hD := hDR (sz := s.heap.size) hD0
  have hA : ∀ q : Nat, s.heap.size ≤ q → AR a s.heap.size q := fun q h => Or.inr h
  have hS : va_S (AR a s.heap.size) s.heap s.heap [] := va_S.rf
  have j97 : ∀ (y1 : Int32) (I : Nat → Int32) (A : Nat → Nat → Int32) (H : Heap) (locs : List Loc) (ls : Array Slot), wp_TuneSetterModel_read_97 post y1 I A → va_P D cls (wR cA a I A) H → va_S (AR a s.heap.size) s.heap H locs → lv_has ls 3 [(0, .ref (a 0)), (1, .int y1)] → W p l e (headSpec w_TuneSetterModel_read ({ frames := 10, cells := 0, slots := 0, locals := 221 })).room s m [.ref (a 0)].toArray below meth c H locs 0 0 (MQ below (va_Qi (fun r (u : StW) => post r u.1 u.2) (EndR D cA a) (AR a s.heap.size)) [.ref (a 0)].toArray s 0 0 (AR a s.heap.size)) (F0 m 97 ls []) := by
    intro y1 I A H locs ls h hP hS hl
    unfold wp_TuneSetterModel_read_97 at h
    refine lv_iload_n hx hb d_TuneSetterModel_read_97 rfl (lv_at hl 1 rfl) ?_
    refine lv_if_ge (tgt := 113) hx hb d_TuneSetterModel_read_98 rfl (fun q => ?_) (fun q => ?_)
    · have h := h.1 q
      refine lv_aload_n hx hb d_TuneSetterModel_read_113 rfl (lv_at hl 0 rfl) ?_
      refine lv_iconst (v := (-1)) hx hb d_TuneSetterModel_read_114 ic_m1 ?_
      refine pR_TuneSetterModel_place hx hb hw hown hK hD hS hP (hw _ m_TuneSetterModel_23) d_TuneSetterModel_read_115 (fun H locs hP hS => ?_)
      refine lv_aload_n hx hb d_TuneSetterModel_read_118 rfl (lv_at hl 0 rfl) ?_
      refine lv_iconst (v := 1) hx hb d_TuneSetterModel_read_119 ic_1 ?_
      refine pR_TuneSetterModel_tune hx hb hw hown hK hD hS hP (hw _ m_TuneSetterModel_93) vz1 d_TuneSetterModel_read_120 (fun H locs hP hS => ?_)
      refine lv_aload_n hx hb d_TuneSetterModel_read_123 rfl (lv_at hl 0 rfl) ?_
      refine gR_TuneSetterModel_notes hx hb hw hown hK hP (hw _ m_TuneSetterModel_97) d_TuneSetterModel_read_124 ?_
      exact W.iret hx hb hr (fun t ht hW => ⟨⟨_, ((upd (upd I 7 (-1)) 6 1), A), rfl, h, endR_of ht hP⟩, hS.F ht⟩) hS.2.2 d_TuneSetterModel_read_127
    · have h := h.2 q
      refine lv_aload_n hx hb d_TuneSetterModel_read_101 rfl (lv_at hl 0 rfl) ?_
      refine lv_iconst (v := 0) hx hb d_TuneSetterModel_read_102 ic_0 ?_
      refine pR_TuneSetterModel_bars hx hb hw hown hK hD hS hP (hw _ m_TuneSetterModel_87) d_TuneSetterModel_read_103 (fun H locs hP hS => ?_)
      refine lv_aload_n hx hb d_TuneSetterModel_read_106 rfl (lv_at hl 0 rfl) ?_
      refine lv_iconst (v := 0) hx hb d_TuneSetterModel_read_107 ic_0 ?_
      refine pR_TuneSetterModel_notes hx hb hw hown hK hD hS hP (hw _ m_TuneSetterModel_97) d_TuneSetterModel_read_108 (fun H locs hP hS => ?_)
      refine lv_iload_n hx hb d_TuneSetterModel_read_111 rfl (lv_at hl 1 rfl) ?_
      exact W.iret hx hb hr (fun t ht hW => ⟨⟨_, ((upd (upd I 5 0) 25 0), A), rfl, h, endR_of ht hP⟩, hS.F ht⟩) hS.2.2 d_TuneSetterModel_read_112
  have j41 : ∀ n : Nat, ∀ (y1 : Int32) (y2 : Int32) (I : Nat → Int32) (A : Nat → Nat → Int32) (H : Heap) (locs : List Loc) (ls : Array Slot), wp_TuneSetterModel_read_41 post n y1 y2 I A → va_P D cls (wR cA a I A) H → va_S (AR a s.heap.size) s.heap H locs → lv_has ls 3 [(0, .ref (a 0)), (1, .int y1), (2, .int y2)] → W p l e (headSpec w_TuneSetterModel_read ({ frames := 10, cells := 0, slots := 0, locals := 221 })).room s m [.ref (a 0)].toArray below meth c H locs 0 0 (MQ below (va_Qi (fun r (u : StW) => post r u.1 u.2) (EndR D cA a) (AR a s.heap.size)) [.ref (a 0)].toArray s 0 0 (AR a s.heap.size)) (F0 m 41 ls []) := by
    intro n
    induction n with
    | zero =>
      intro y1 y2 I A H locs ls h hP hS hl
      exact False.elim h
    | succ n ih =>
      intro y1 y2 I A H locs ls h hP hS hl
      unfold wp_TuneSetterModel_read_41 at h
      refine lv_iload_n hx hb d_TuneSetterModel_read_41 rfl (lv_at hl 2 rfl) ?_
      refine lv_aload_n hx hb d_TuneSetterModel_read_42 rfl (lv_at hl 0 rfl) ?_
      refine gR_TuneSetterModel_size hx hb hw hown hK hP (hw _ m_TuneSetterModel_84) d_TuneSetterModel_read_43 ?_
      refine lv_icmp_gt (tgt := 88) hx hb d_TuneSetterModel_read_46 rfl (fun q => ?_) (fun q => ?_)
      · have h := h.1 q
        refine lv_iload_n hx hb d_TuneSetterModel_read_88 rfl (lv_at hl 1 rfl) ?_
        refine lv_if_ne (tgt := 97) hx hb d_TuneSetterModel_read_89 rfl (fun q => ?_) (fun q => ?_)
        · have h := h.2 q
          exact j97 y1 I A _ _ _ h hP hS (lv_sub hl [0, 1] rfl)
        · have h := h.1 q
          refine lv_aload_n hx hb d_TuneSetterModel_read_92 rfl (lv_at hl 0 rfl) ?_
          refine k_TuneSetterModel_perform (rest := []) ⟨hx, hb, hml, hown, hw⟩ hK hD hA hS hP hl.1 (hw _ m_TuneSetterModel_110) (Nat.le_of_ble_eq_true rfl) ⟨Nat.le_of_ble_eq_true rfl, Nat.le_of_ble_eq_true rfl⟩ ⟨Nat.zero_le _, Nat.zero_le _⟩ d_TuneSetterModel_read_93 h (fun r93 I93 A93 H locs h hP hS => ?_)
          refine lv_istore_n (lv' := [(1, .int r93), (0, .ref (a 0)), (2, .int y2)]) hx hb d_TuneSetterModel_read_96 rfl hl (by decide) rfl (fun ls hl => ?_)
          exact j97 r93 I93 A93 _ _ _ h hP hS (lv_sub hl [1, 0] rfl)
      · have h := h.2 q
        refine lv_iload_n hx hb d_TuneSetterModel_read_49 rfl (lv_at hl 1 rfl) ?_
        refine lv_if_ne (tgt := 88) hx hb d_TuneSetterModel_read_50 rfl (fun q => ?_) (fun q => ?_)
        · have h := h.2 q
          refine lv_iload_n hx hb d_TuneSetterModel_read_88 rfl (lv_at hl 1 rfl) ?_
          refine lv_if_ne (tgt := 97) hx hb d_TuneSetterModel_read_89 rfl (fun q => ?_) (fun q => ?_)
          · have h := h.2 q
            exact j97 y1 I A _ _ _ h hP hS (lv_sub hl [0, 1] rfl)
          · have h := h.1 q
            refine lv_aload_n hx hb d_TuneSetterModel_read_92 rfl (lv_at hl 0 rfl) ?_
            refine k_TuneSetterModel_perform (rest := []) ⟨hx, hb, hml, hown, hw⟩ hK hD hA hS hP hl.1 (hw _ m_TuneSetterModel_110) (Nat.le_of_ble_eq_true rfl) ⟨Nat.le_of_ble_eq_true rfl, Nat.le_of_ble_eq_true rfl⟩ ⟨Nat.zero_le _, Nat.zero_le _⟩ d_TuneSetterModel_read_93 h (fun r93 I93 A93 H locs h hP hS => ?_)
            refine lv_istore_n (lv' := [(1, .int r93), (0, .ref (a 0)), (2, .int y2)]) hx hb d_TuneSetterModel_read_96 rfl hl (by decide) rfl (fun ls hl => ?_)
            exact j97 r93 I93 A93 _ _ _ h hP hS (lv_sub hl [1, 0] rfl)
        · have h := h.1 q
          refine lv_aload_n hx hb d_TuneSetterModel_read_53 rfl (lv_at hl 0 rfl) ?_
          refine lv_iload_n hx hb d_TuneSetterModel_read_54 rfl (lv_at hl 2 rfl) ?_
          refine pR_TuneSetterModel_place hx hb hw hown hK hD hS hP (hw _ m_TuneSetterModel_23) d_TuneSetterModel_read_55 (fun H locs hP hS => ?_)
          refine lv_aload_n hx hb d_TuneSetterModel_read_58 rfl (lv_at hl 0 rfl) ?_
          refine lv_iload_n hx hb d_TuneSetterModel_read_59 rfl (lv_at hl 2 rfl) ?_
          refine lv_aload_n hx hb d_TuneSetterModel_read_60 rfl (lv_at hl 0 rfl) ?_
          refine gR_TuneSetterModel_size hx hb hw hown hK hP (hw _ m_TuneSetterModel_84) d_TuneSetterModel_read_61 ?_
          refine lv_icmp_ge (tgt := 76) hx hb d_TuneSetterModel_read_64 rfl (fun q => ?_) (fun q => ?_)
          · have h := h.1 q
            refine lv_iconst (v := (-1)) hx hb d_TuneSetterModel_read_76 ic_m1 ?_
            refine lv_iload_n hx hb d_TuneSetterModel_read_77 rfl (lv_at hl 2 rfl) ?_
            refine k_TuneSetterModel_next (-1) y2 (rest := []) ⟨hx, hb, hml, hown, hw⟩ hK hD hA hS hP hl.1 (hw _ m_TuneSetterModel_106) (Nat.le_of_ble_eq_true rfl) ⟨Nat.le_of_ble_eq_true rfl, Nat.le_of_ble_eq_true rfl⟩ ⟨Nat.zero_le _, Nat.zero_le _⟩ d_TuneSetterModel_read_78 h (fun r78 I78 A78 H locs h hP hS => ?_)
            refine lv_istore_n (lv' := [(1, .int r78), (0, .ref (a 0)), (2, .int y2)]) hx hb d_TuneSetterModel_read_81 rfl hl (by decide) rfl (fun ls hl => ?_)
            obtain ⟨v82, ev82⟩ : ∃ z : Int32, z = y2 + 1 := ⟨_, rfl⟩
            have h := h v82 ev82
            refine lv_iinc (k := 2) (v := v82) (lv' := [(2, .int v82), (1, .int r78), (0, .ref (a 0))]) hx hb d_TuneSetterModel_read_82 hl rfl (by rw [ev82, ic_1]) (by decide) rfl (fun ls hl => ?_)
            refine lv_goto (tgt := 41) hx hb d_TuneSetterModel_read_85 rfl ?_
            exact ih r78 v82 I78 A78 _ _ _ h hP hS (lv_sub hl [2, 1, 0] rfl)
          · have h := h.2 q
            refine lv_aload_n hx hb d_TuneSetterModel_read_67 rfl (lv_at hl 0 rfl) ?_
            refine gR_TuneSetterModel_text hx hb hw hown hK hP (hw _ m_TuneSetterModel_19) d_TuneSetterModel_read_68 ?_
            refine lv_iload_n hx hb d_TuneSetterModel_read_71 rfl (lv_at hl 2 rfl) ?_
            obtain ⟨hin, h⟩ := h
            refine lR1 hx hb hK hP hin d_TuneSetterModel_read_72 ?_
            refine lv_goto (tgt := 77) hx hb d_TuneSetterModel_read_73 rfl ?_
            refine lv_iload_n hx hb d_TuneSetterModel_read_77 rfl (lv_at hl 2 rfl) ?_
            refine k_TuneSetterModel_next (A 1 (y2.toNatClampNeg)) y2 (rest := []) ⟨hx, hb, hml, hown, hw⟩ hK hD hA hS hP hl.1 (hw _ m_TuneSetterModel_106) (Nat.le_of_ble_eq_true rfl) ⟨Nat.le_of_ble_eq_true rfl, Nat.le_of_ble_eq_true rfl⟩ ⟨Nat.zero_le _, Nat.zero_le _⟩ d_TuneSetterModel_read_78 h (fun r78 I78 A78 H locs h hP hS => ?_)
            refine lv_istore_n (lv' := [(1, .int r78), (0, .ref (a 0)), (2, .int y2)]) hx hb d_TuneSetterModel_read_81 rfl hl (by decide) rfl (fun ls hl => ?_)
            obtain ⟨v82, ev82⟩ : ∃ z : Int32, z = y2 + 1 := ⟨_, rfl⟩
            have h := h v82 ev82
            refine lv_iinc (k := 2) (v := v82) (lv' := [(2, .int v82), (1, .int r78), (0, .ref (a 0))]) hx hb d_TuneSetterModel_read_82 hl rfl (by rw [ev82, ic_1]) (by decide) rfl (fun ls hl => ?_)
            refine lv_goto (tgt := 41) hx hb d_TuneSetterModel_read_85 rfl ?_
            exact ih r78 v82 I78 A78 _ _ _ h hP hS (lv_sub hl [2, 1, 0] rfl)
  have hl := lv_entry ([.ref (a 0)]) (n := 3) (Nat.le_of_ble_eq_true rfl)
  rw [lg_entry_eq]
  generalize (lg_sl ([.ref (a 0)]) ++ List.replicate (3 - (lg_sl ([.ref (a 0)])).length) Slot.unset).toArray = ls at hl ⊢
  have hl : lv_has ls 3 [(0, .ref (a 0))] := hl
  unfold wp_TuneSetterModel_read at h
  refine lv_aload_n hx hb d_TuneSetterModel_read_0 rfl (lv_at hl 0 rfl) ?_
  refine lv_iconst (v := 0) hx hb d_TuneSetterModel_read_1 ic_0 ?_
  refine pR_TuneSetterModel_bars hx hb hw hown hK hD hS hP (hw _ m_TuneSetterModel_87) d_TuneSetterModel_read_2 (fun H locs hP hS => ?_)
  refine lv_aload_n hx hb d_TuneSetterModel_read_5 rfl (lv_at hl 0 rfl) ?_
  refine lv_iconst (v := 0) hx hb d_TuneSetterModel_read_6 ic_0 ?_
  refine pR_TuneSetterModel_items hx hb hw hown hK hD hS hP (hw _ m_TuneSetterModel_90) d_TuneSetterModel_read_7 (fun H locs hP hS => ?_)
  refine lv_aload_n hx hb d_TuneSetterModel_read_10 rfl (lv_at hl 0 rfl) ?_
  refine lv_iconst (v := 0) hx hb d_TuneSetterModel_read_11 ic_0 ?_
  refine pR_TuneSetterModel_tune hx hb hw hown hK hD hS hP (hw _ m_TuneSetterModel_93) vz0 d_TuneSetterModel_read_12 (fun H locs hP hS => ?_)
  refine lv_aload_n hx hb d_TuneSetterModel_read_15 rfl (lv_at hl 0 rfl) ?_
  refine lv_iconst (v := 0) hx hb d_TuneSetterModel_read_16 ic_0 ?_
  refine pR_TuneSetterModel_notes hx hb hw hown hK hD hS hP (hw _ m_TuneSetterModel_97) d_TuneSetterModel_read_17 (fun H locs hP hS => ?_)
  refine lv_aload_n hx hb d_TuneSetterModel_read_20 rfl (lv_at hl 0 rfl) ?_
  refine lv_iconst (v := 0) hx hb d_TuneSetterModel_read_21 ic_0 ?_
  refine pR_TuneSetterModel_state hx hb hw hown hK hD hS hP (hw _ m_TuneSetterModel_100) d_TuneSetterModel_read_22 (fun H locs hP hS => ?_)
  refine lv_aload_n hx hb d_TuneSetterModel_read_25 rfl (lv_at hl 0 rfl) ?_
  refine lv_iconst (v := 0) hx hb d_TuneSetterModel_read_26 ic_0 ?_
  refine pR_TuneSetterModel_triplet hx hb hw hown hK hD hS hP (hw _ m_TuneSetterModel_103) d_TuneSetterModel_read_27 (fun H locs hP hS => ?_)
  refine lv_aload_n hx hb d_TuneSetterModel_read_30 rfl (lv_at hl 0 rfl) ?_
  refine gR_TuneSetterModel_line hx hb hw hown hK hP (hw _ m_TuneSetterModel_35) d_TuneSetterModel_read_31 ?_
  refine lv_iconst (v := 0) hx hb d_TuneSetterModel_read_34 ic_0 ?_
  refine lv_iconst (v := 0) hx hb d_TuneSetterModel_read_35 ic_0 ?_
  obtain ⟨hin, h⟩ := h
  refine sR5 hx hb hK hD hS hP hin d_TuneSetterModel_read_36 (fun H locs hP hS => ?_)
  refine lv_iconst (v := 0) hx hb d_TuneSetterModel_read_37 ic_0 ?_
  refine lv_istore_n (lv' := [(1, .int 0), (0, .ref (a 0))]) hx hb d_TuneSetterModel_read_38 rfl hl (by decide) rfl (fun ls hl => ?_)
  refine lv_iconst (v := 0) hx hb d_TuneSetterModel_read_39 ic_0 ?_
  refine lv_istore_n (lv' := [(2, .int 0), (1, .int 0), (0, .ref (a 0))]) hx hb d_TuneSetterModel_read_40 rfl hl (by decide) rfl (fun ls hl => ?_)
  obtain ⟨n41, h⟩ := h
  exact j41 n41 0 0 (upd (upd (upd (upd (upd (upd I 5 0) 8 0) 6 0) 25 0) 9 0) 13 0) (upd2 A 5 ((0 : Int32).toNatClampNeg) 0) _ _ _ h hP hS (lv_sub hl [2, 1, 0] rfl)
theorem k_TuneSetterModel_read {p : Program} {l : Launch} {e : Env} {R : Room} {s : State} {m : MethodId} {args : Array Value} {below : List Frame} {meth : Method} {c : Code} {H : Heap} {locs : List Loc} {cells slots : Nat} {Q : State → Prop} {cc : ByteArray} {pc nL idx : Nat} {own : String} {ls : Array Slot} {D : va_G} {cA a : Nat → Nat} {AA : Nat → Prop} {I : Nat → Int32} {A : Nat → Nat → Int32} {post : Int32 → (Nat → Int32) → (Nat → Nat → Int32) → Prop} {rest : List Value} (S : CallFix p m c cc nL s args WALL own) (hK : KR D cA a AA s) (hD : ∀ I A, va_D AA (wR cA a I A)) (hA : ∀ q : Nat, s.heap.size ≤ q → AA q) (hS : va_S AA s.heap H locs) (hP : va_P D cls (wR cA a I A) H) (hl1 : ls.size = nL) (hlink : (Cond.methodLink own idx y_TuneSetterModel_read).before args s = true) (hst : (rest.map fun v => v.category).sum ≤ 8) (hR : ({ frames := 10, cells := 0, slots := 0, locals := 221 } : Room).frames + 1 ≤ R.frames ∧ 8 + (3 + 11) + ({ frames := 10, cells := 0, slots := 0, locals := 221 } : Room).locals ≤ R.locals) (hcs : cells ≤ R.cells ∧ slots ≤ R.slots) (hdg : decode cc pc = .ok (.invokevirtual idx, 3)) (h : wp_TuneSetterModel_read I A post) (kk : ∀ (r : Int32) (I1 : Nat → Int32) (A1 : Nat → Nat → Int32) (H1 : Heap) (locs1 : List Loc), post r I1 A1 → va_P D cls (wR cA a I1 A1) H1 → va_S AA s.heap H1 locs1 → W p l e R s m args below meth c H1 locs1 cells slots Q (F0 m (pc + 3) ls (.int r :: rest))) : W p l e R s m args below meth c H locs cells slots Q (F0 m pc ls (.ref (a 0) :: rest)) :=
  va_calli (va_runV (As := []) (rest := rest) S (c_TuneSetterModel_read l D cA a H.size I A post h) ⟨callB_of 0 S.2.2.2.2 g_TuneSetterModel_read rfl rfl rfl (S.2.2.2.2 _ mi_TuneSetterModel) hlink ⟨by decide, by decide, by decide +kernel⟩ hR, S.2.2.2.2 _ mn_TuneSetterModel_read, S.2.2.2.2 _ ms_TuneSetterModel_read⟩ (preRV hK hD hA hS hP 0 rfl rfl) rfl rfl hl1 rfl (lv_room hst) hdg hcs) hS (fun q _ z => AR_le hD hA hS q z) (fun q z => AR_le hD hA hS q z) (fun r u t H1 locs1 ht _ hp hB _ _ hS1 => kk r u.1 u.2 H1 locs1 hp (of_endR ht hB) hS1)
def wp_TuneSetterModel_place (I : Nat → Int32) (A : Nat → Nat → Int32) (post : Int32 → (Nat → Int32) → (Nat → Nat → Int32) → Prop) : Prop := post (I 7) I A
theorem d_TuneSetterModel_place_0 : decode b_TuneSetterModel_place 0 = .ok (.aload_n 0, 1) := by decide +kernel
theorem d_TuneSetterModel_place_1 : decode b_TuneSetterModel_place 1 = .ok (.getfield 23, 3) := by decide +kernel
theorem d_TuneSetterModel_place_4 : decode b_TuneSetterModel_place 4 = .ok (.ireturn, 1) := by decide +kernel
def w_TuneSetterModel_place : List Cond := .code y_TuneSetterModel_place b_TuneSetterModel_place 1 (some .int) :: WALL
theorem g_TuneSetterModel_place : GoodIn WALL w_TuneSetterModel_place := good_of mc_TuneSetterModel_place
set_option maxHeartbeats 4000000 in
set_option maxRecDepth 100000 in
theorem c_TuneSetterModel_place (l : Launch) (D : va_G) (cA a : Nat → Nat) (sz : Nat) (I : Nat → Int32) (A : Nat → Nat → Int32) (post : Int32 → (Nat → Int32) → (Nat → Nat → Int32) → Prop) (h : wp_TuneSetterModel_place I A post) : Met l y_TuneSetterModel_place w_TuneSetterModel_place ({ frames := 0, cells := 0, slots := 0, locals := 0 }) (va_Pc [.ref (a 0)] (PreR D cA a I A sz)) (va_Qi (fun r (u : StW) => post r u.1 u.2) (EndR D cA a) (AR a sz)) 0 0 (AR a sz) := by
  refine Met.ofW (cc := b_TuneSetterModel_place) (maxL := 1) (ret := (some .int)) (by decide) rfl ?_
  intro p e s m args below meth c s₁ B hml hv
  obtain ⟨rfl, hsz, hP, hK, hD0⟩ := hv
  have hx := B.exec
  have hb := B.bytes
  have hr := B.returns
  have hts := atoms_spec (ws := w_TuneSetterModel_place) B.pre
  have hw := wall_of hts
  have hown : s.vm.findClass R_TuneSetterModel = some m.cls := findClass_of_methodNamed B.named
  have hlocks := B.notSynchronized
  subst hsz
  have hD := hDR (sz := s.heap.size) hD0
  have hA : ∀ q : Nat, s.heap.size ≤ q → AR a s.heap.size q := fun q h => Or.inr h
  have hS : va_S (AR a s.heap.size) s.heap s.heap [] := va_S.rf
  have hl := lv_entry ([.ref (a 0)]) (n := 1) (Nat.le_of_ble_eq_true rfl)
  rw [lg_entry_eq]
  generalize (lg_sl ([.ref (a 0)]) ++ List.replicate (1 - (lg_sl ([.ref (a 0)])).length) Slot.unset).toArray = ls at hl ⊢
  have hl : lv_has ls 1 [(0, .ref (a 0))] := hl
  unfold wp_TuneSetterModel_place at h
  refine lv_aload_n hx hb d_TuneSetterModel_place_0 rfl (lv_at hl 0 rfl) ?_
  refine gR_TuneSetterModel_place hx hb hw hown hK hP (hw _ m_TuneSetterModel_23) d_TuneSetterModel_place_1 ?_
  exact W.iret hx hb hr (fun t ht hW => ⟨⟨_, (I, A), rfl, h, endR_of ht hP⟩, hS.F ht⟩) hS.2.2 d_TuneSetterModel_place_4
theorem k_TuneSetterModel_place {p : Program} {l : Launch} {e : Env} {R : Room} {s : State} {m : MethodId} {args : Array Value} {below : List Frame} {meth : Method} {c : Code} {H : Heap} {locs : List Loc} {cells slots : Nat} {Q : State → Prop} {cc : ByteArray} {pc nL idx : Nat} {own : String} {ls : Array Slot} {D : va_G} {cA a : Nat → Nat} {AA : Nat → Prop} {I : Nat → Int32} {A : Nat → Nat → Int32} {post : Int32 → (Nat → Int32) → (Nat → Nat → Int32) → Prop} {rest : List Value} (S : CallFix p m c cc nL s args WALL own) (hK : KR D cA a AA s) (hD : ∀ I A, va_D AA (wR cA a I A)) (hA : ∀ q : Nat, s.heap.size ≤ q → AA q) (hS : va_S AA s.heap H locs) (hP : va_P D cls (wR cA a I A) H) (hl1 : ls.size = nL) (hlink : (Cond.methodLink own idx y_TuneSetterModel_place).before args s = true) (hst : (rest.map fun v => v.category).sum ≤ 8) (hR : ({ frames := 0, cells := 0, slots := 0, locals := 0 } : Room).frames + 1 ≤ R.frames ∧ 8 + (1 + 11) + ({ frames := 0, cells := 0, slots := 0, locals := 0 } : Room).locals ≤ R.locals) (hcs : cells ≤ R.cells ∧ slots ≤ R.slots) (hdg : decode cc pc = .ok (.invokevirtual idx, 3)) (h : wp_TuneSetterModel_place I A post) (kk : ∀ (r : Int32) (I1 : Nat → Int32) (A1 : Nat → Nat → Int32) (H1 : Heap) (locs1 : List Loc), post r I1 A1 → va_P D cls (wR cA a I1 A1) H1 → va_S AA s.heap H1 locs1 → W p l e R s m args below meth c H1 locs1 cells slots Q (F0 m (pc + 3) ls (.int r :: rest))) : W p l e R s m args below meth c H locs cells slots Q (F0 m pc ls (.ref (a 0) :: rest)) :=
  va_calli (va_runV (As := []) (rest := rest) S (c_TuneSetterModel_place l D cA a H.size I A post h) ⟨callB_of 0 S.2.2.2.2 g_TuneSetterModel_place rfl rfl rfl (S.2.2.2.2 _ mi_TuneSetterModel) hlink ⟨by decide, by decide, by decide +kernel⟩ hR, S.2.2.2.2 _ mn_TuneSetterModel_place, S.2.2.2.2 _ ms_TuneSetterModel_place⟩ (preRV hK hD hA hS hP 0 rfl rfl) rfl rfl hl1 rfl (lv_room hst) hdg hcs) hS (fun q _ z => AR_le hD hA hS q z) (fun q z => AR_le hD hA hS q z) (fun r u t H1 locs1 ht _ hp hB _ _ hS1 => kk r u.1 u.2 H1 locs1 hp (of_endR ht hB) hS1)
def wp_TuneSetterModel_bars (I : Nat → Int32) (A : Nat → Nat → Int32) (post : Int32 → (Nat → Int32) → (Nat → Nat → Int32) → Prop) : Prop := (((I 6) = 0 → post 0 I A) ∧ (¬ (I 6) = 0 → post (I 5) I A))
theorem d_TuneSetterModel_bars_0 : decode b_TuneSetterModel_bars 0 = .ok (.aload_n 0, 1) := by decide +kernel
theorem d_TuneSetterModel_bars_1 : decode b_TuneSetterModel_bars 1 = .ok (.getfield 93, 3) := by decide +kernel
theorem d_TuneSetterModel_bars_4 : decode b_TuneSetterModel_bars 4 = .ok (.ifCond .eq 10, 3) := by decide +kernel
theorem d_TuneSetterModel_bars_7 : decode b_TuneSetterModel_bars 7 = .ok (.aload_n 0, 1) := by decide +kernel
theorem d_TuneSetterModel_bars_8 : decode b_TuneSetterModel_bars 8 = .ok (.getfield 87, 3) := by decide +kernel
theorem d_TuneSetterModel_bars_11 : decode b_TuneSetterModel_bars 11 = .ok (.goto 4, 3) := by decide +kernel
theorem d_TuneSetterModel_bars_14 : decode b_TuneSetterModel_bars 14 = .ok (.iconst 0, 1) := by decide +kernel
theorem d_TuneSetterModel_bars_15 : decode b_TuneSetterModel_bars 15 = .ok (.ireturn, 1) := by decide +kernel
def w_TuneSetterModel_bars : List Cond := .code y_TuneSetterModel_bars b_TuneSetterModel_bars 1 (some .int) :: WALL
theorem g_TuneSetterModel_bars : GoodIn WALL w_TuneSetterModel_bars := good_of mc_TuneSetterModel_bars
set_option maxHeartbeats 4000000 in
set_option maxRecDepth 100000 in
theorem c_TuneSetterModel_bars (l : Launch) (D : va_G) (cA a : Nat → Nat) (sz : Nat) (I : Nat → Int32) (A : Nat → Nat → Int32) (post : Int32 → (Nat → Int32) → (Nat → Nat → Int32) → Prop) (h : wp_TuneSetterModel_bars I A post) : Met l y_TuneSetterModel_bars w_TuneSetterModel_bars ({ frames := 0, cells := 0, slots := 0, locals := 0 }) (va_Pc [.ref (a 0)] (PreR D cA a I A sz)) (va_Qi (fun r (u : StW) => post r u.1 u.2) (EndR D cA a) (AR a sz)) 0 0 (AR a sz) := by
  refine Met.ofW (cc := b_TuneSetterModel_bars) (maxL := 1) (ret := (some .int)) (by decide) rfl ?_
  intro p e s m args below meth c s₁ B hml hv
  obtain ⟨rfl, hsz, hP, hK, hD0⟩ := hv
  have hx := B.exec
  have hb := B.bytes
  have hr := B.returns
  have hts := atoms_spec (ws := w_TuneSetterModel_bars) B.pre
  have hw := wall_of hts
  have hown : s.vm.findClass R_TuneSetterModel = some m.cls := findClass_of_methodNamed B.named
  have hlocks := B.notSynchronized
  subst hsz
  have hD := hDR (sz := s.heap.size) hD0
  have hA : ∀ q : Nat, s.heap.size ≤ q → AR a s.heap.size q := fun q h => Or.inr h
  have hS : va_S (AR a s.heap.size) s.heap s.heap [] := va_S.rf
  have hl := lv_entry ([.ref (a 0)]) (n := 1) (Nat.le_of_ble_eq_true rfl)
  rw [lg_entry_eq]
  generalize (lg_sl ([.ref (a 0)]) ++ List.replicate (1 - (lg_sl ([.ref (a 0)])).length) Slot.unset).toArray = ls at hl ⊢
  have hl : lv_has ls 1 [(0, .ref (a 0))] := hl
  unfold wp_TuneSetterModel_bars at h
  refine lv_aload_n hx hb d_TuneSetterModel_bars_0 rfl (lv_at hl 0 rfl) ?_
  refine gR_TuneSetterModel_tune hx hb hw hown hK hP (hw _ m_TuneSetterModel_93) d_TuneSetterModel_bars_1 ?_
  refine lv_if_eq (tgt := 14) hx hb d_TuneSetterModel_bars_4 rfl (fun q => ?_) (fun q => ?_)
  · have h := h.1 q
    refine lv_iconst (v := 0) hx hb d_TuneSetterModel_bars_14 ic_0 ?_
    exact W.iret hx hb hr (fun t ht hW => ⟨⟨_, (I, A), rfl, h, endR_of ht hP⟩, hS.F ht⟩) hS.2.2 d_TuneSetterModel_bars_15
  · have h := h.2 q
    refine lv_aload_n hx hb d_TuneSetterModel_bars_7 rfl (lv_at hl 0 rfl) ?_
    refine gR_TuneSetterModel_bars hx hb hw hown hK hP (hw _ m_TuneSetterModel_87) d_TuneSetterModel_bars_8 ?_
    refine lv_goto (tgt := 15) hx hb d_TuneSetterModel_bars_11 rfl ?_
    exact W.iret hx hb hr (fun t ht hW => ⟨⟨_, (I, A), rfl, h, endR_of ht hP⟩, hS.F ht⟩) hS.2.2 d_TuneSetterModel_bars_15
theorem k_TuneSetterModel_bars {p : Program} {l : Launch} {e : Env} {R : Room} {s : State} {m : MethodId} {args : Array Value} {below : List Frame} {meth : Method} {c : Code} {H : Heap} {locs : List Loc} {cells slots : Nat} {Q : State → Prop} {cc : ByteArray} {pc nL idx : Nat} {own : String} {ls : Array Slot} {D : va_G} {cA a : Nat → Nat} {AA : Nat → Prop} {I : Nat → Int32} {A : Nat → Nat → Int32} {post : Int32 → (Nat → Int32) → (Nat → Nat → Int32) → Prop} {rest : List Value} (S : CallFix p m c cc nL s args WALL own) (hK : KR D cA a AA s) (hD : ∀ I A, va_D AA (wR cA a I A)) (hA : ∀ q : Nat, s.heap.size ≤ q → AA q) (hS : va_S AA s.heap H locs) (hP : va_P D cls (wR cA a I A) H) (hl1 : ls.size = nL) (hlink : (Cond.methodLink own idx y_TuneSetterModel_bars).before args s = true) (hst : (rest.map fun v => v.category).sum ≤ 8) (hR : ({ frames := 0, cells := 0, slots := 0, locals := 0 } : Room).frames + 1 ≤ R.frames ∧ 8 + (1 + 11) + ({ frames := 0, cells := 0, slots := 0, locals := 0 } : Room).locals ≤ R.locals) (hcs : cells ≤ R.cells ∧ slots ≤ R.slots) (hdg : decode cc pc = .ok (.invokevirtual idx, 3)) (h : wp_TuneSetterModel_bars I A post) (kk : ∀ (r : Int32) (I1 : Nat → Int32) (A1 : Nat → Nat → Int32) (H1 : Heap) (locs1 : List Loc), post r I1 A1 → va_P D cls (wR cA a I1 A1) H1 → va_S AA s.heap H1 locs1 → W p l e R s m args below meth c H1 locs1 cells slots Q (F0 m (pc + 3) ls (.int r :: rest))) : W p l e R s m args below meth c H locs cells slots Q (F0 m pc ls (.ref (a 0) :: rest)) :=
  va_calli (va_runV (As := []) (rest := rest) S (c_TuneSetterModel_bars l D cA a H.size I A post h) ⟨callB_of 0 S.2.2.2.2 g_TuneSetterModel_bars rfl rfl rfl (S.2.2.2.2 _ mi_TuneSetterModel) hlink ⟨by decide, by decide, by decide +kernel⟩ hR, S.2.2.2.2 _ mn_TuneSetterModel_bars, S.2.2.2.2 _ ms_TuneSetterModel_bars⟩ (preRV hK hD hA hS hP 0 rfl rfl) rfl rfl hl1 rfl (lv_room hst) hdg hcs) hS (fun q _ z => AR_le hD hA hS q z) (fun q z => AR_le hD hA hS q z) (fun r u t H1 locs1 ht _ hp hB _ _ hS1 => kk r u.1 u.2 H1 locs1 hp (of_endR ht hB) hS1)
def wp_TuneSetterModel_notes (I : Nat → Int32) (A : Nat → Nat → Int32) (post : Int32 → (Nat → Int32) → (Nat → Nat → Int32) → Prop) : Prop := (((I 6) = 0 → post 0 I A) ∧ (¬ (I 6) = 0 → post (I 25) I A))
theorem d_TuneSetterModel_notes_0 : decode b_TuneSetterModel_notes 0 = .ok (.aload_n 0, 1) := by decide +kernel
theorem d_TuneSetterModel_notes_1 : decode b_TuneSetterModel_notes 1 = .ok (.getfield 93, 3) := by decide +kernel
theorem d_TuneSetterModel_notes_4 : decode b_TuneSetterModel_notes 4 = .ok (.ifCond .eq 10, 3) := by decide +kernel
theorem d_TuneSetterModel_notes_7 : decode b_TuneSetterModel_notes 7 = .ok (.aload_n 0, 1) := by decide +kernel
theorem d_TuneSetterModel_notes_8 : decode b_TuneSetterModel_notes 8 = .ok (.getfield 97, 3) := by decide +kernel
theorem d_TuneSetterModel_notes_11 : decode b_TuneSetterModel_notes 11 = .ok (.goto 4, 3) := by decide +kernel
theorem d_TuneSetterModel_notes_14 : decode b_TuneSetterModel_notes 14 = .ok (.iconst 0, 1) := by decide +kernel
theorem d_TuneSetterModel_notes_15 : decode b_TuneSetterModel_notes 15 = .ok (.ireturn, 1) := by decide +kernel
def w_TuneSetterModel_notes : List Cond := .code y_TuneSetterModel_notes b_TuneSetterModel_notes 1 (some .int) :: WALL
theorem g_TuneSetterModel_notes : GoodIn WALL w_TuneSetterModel_notes := good_of mc_TuneSetterModel_notes
set_option maxHeartbeats 4000000 in
set_option maxRecDepth 100000 in
theorem c_TuneSetterModel_notes (l : Launch) (D : va_G) (cA a : Nat → Nat) (sz : Nat) (I : Nat → Int32) (A : Nat → Nat → Int32) (post : Int32 → (Nat → Int32) → (Nat → Nat → Int32) → Prop) (h : wp_TuneSetterModel_notes I A post) : Met l y_TuneSetterModel_notes w_TuneSetterModel_notes ({ frames := 0, cells := 0, slots := 0, locals := 0 }) (va_Pc [.ref (a 0)] (PreR D cA a I A sz)) (va_Qi (fun r (u : StW) => post r u.1 u.2) (EndR D cA a) (AR a sz)) 0 0 (AR a sz) := by
  refine Met.ofW (cc := b_TuneSetterModel_notes) (maxL := 1) (ret := (some .int)) (by decide) rfl ?_
  intro p e s m args below meth c s₁ B hml hv
  obtain ⟨rfl, hsz, hP, hK, hD0⟩ := hv
  have hx := B.exec
  have hb := B.bytes
  have hr := B.returns
  have hts := atoms_spec (ws := w_TuneSetterModel_notes) B.pre
  have hw := wall_of hts
  have hown : s.vm.findClass R_TuneSetterModel = some m.cls := findClass_of_methodNamed B.named
  have hlocks := B.notSynchronized
  subst hsz
  have hD := hDR (sz := s.heap.size) hD0
  have hA : ∀ q : Nat, s.heap.size ≤ q → AR a s.heap.size q := fun q h => Or.inr h
  have hS : va_S (AR a s.heap.size) s.heap s.heap [] := va_S.rf
  have hl := lv_entry ([.ref (a 0)]) (n := 1) (Nat.le_of_ble_eq_true rfl)
  rw [lg_entry_eq]
  generalize (lg_sl ([.ref (a 0)]) ++ List.replicate (1 - (lg_sl ([.ref (a 0)])).length) Slot.unset).toArray = ls at hl ⊢
  have hl : lv_has ls 1 [(0, .ref (a 0))] := hl
  unfold wp_TuneSetterModel_notes at h
  refine lv_aload_n hx hb d_TuneSetterModel_notes_0 rfl (lv_at hl 0 rfl) ?_
  refine gR_TuneSetterModel_tune hx hb hw hown hK hP (hw _ m_TuneSetterModel_93) d_TuneSetterModel_notes_1 ?_
  refine lv_if_eq (tgt := 14) hx hb d_TuneSetterModel_notes_4 rfl (fun q => ?_) (fun q => ?_)
  · have h := h.1 q
    refine lv_iconst (v := 0) hx hb d_TuneSetterModel_notes_14 ic_0 ?_
    exact W.iret hx hb hr (fun t ht hW => ⟨⟨_, (I, A), rfl, h, endR_of ht hP⟩, hS.F ht⟩) hS.2.2 d_TuneSetterModel_notes_15
  · have h := h.2 q
    refine lv_aload_n hx hb d_TuneSetterModel_notes_7 rfl (lv_at hl 0 rfl) ?_
    refine gR_TuneSetterModel_notes hx hb hw hown hK hP (hw _ m_TuneSetterModel_97) d_TuneSetterModel_notes_8 ?_
    refine lv_goto (tgt := 15) hx hb d_TuneSetterModel_notes_11 rfl ?_
    exact W.iret hx hb hr (fun t ht hW => ⟨⟨_, (I, A), rfl, h, endR_of ht hP⟩, hS.F ht⟩) hS.2.2 d_TuneSetterModel_notes_15
theorem k_TuneSetterModel_notes {p : Program} {l : Launch} {e : Env} {R : Room} {s : State} {m : MethodId} {args : Array Value} {below : List Frame} {meth : Method} {c : Code} {H : Heap} {locs : List Loc} {cells slots : Nat} {Q : State → Prop} {cc : ByteArray} {pc nL idx : Nat} {own : String} {ls : Array Slot} {D : va_G} {cA a : Nat → Nat} {AA : Nat → Prop} {I : Nat → Int32} {A : Nat → Nat → Int32} {post : Int32 → (Nat → Int32) → (Nat → Nat → Int32) → Prop} {rest : List Value} (S : CallFix p m c cc nL s args WALL own) (hK : KR D cA a AA s) (hD : ∀ I A, va_D AA (wR cA a I A)) (hA : ∀ q : Nat, s.heap.size ≤ q → AA q) (hS : va_S AA s.heap H locs) (hP : va_P D cls (wR cA a I A) H) (hl1 : ls.size = nL) (hlink : (Cond.methodLink own idx y_TuneSetterModel_notes).before args s = true) (hst : (rest.map fun v => v.category).sum ≤ 8) (hR : ({ frames := 0, cells := 0, slots := 0, locals := 0 } : Room).frames + 1 ≤ R.frames ∧ 8 + (1 + 11) + ({ frames := 0, cells := 0, slots := 0, locals := 0 } : Room).locals ≤ R.locals) (hcs : cells ≤ R.cells ∧ slots ≤ R.slots) (hdg : decode cc pc = .ok (.invokevirtual idx, 3)) (h : wp_TuneSetterModel_notes I A post) (kk : ∀ (r : Int32) (I1 : Nat → Int32) (A1 : Nat → Nat → Int32) (H1 : Heap) (locs1 : List Loc), post r I1 A1 → va_P D cls (wR cA a I1 A1) H1 → va_S AA s.heap H1 locs1 → W p l e R s m args below meth c H1 locs1 cells slots Q (F0 m (pc + 3) ls (.int r :: rest))) : W p l e R s m args below meth c H locs cells slots Q (F0 m pc ls (.ref (a 0) :: rest)) :=
  va_calli (va_runV (As := []) (rest := rest) S (c_TuneSetterModel_notes l D cA a H.size I A post h) ⟨callB_of 0 S.2.2.2.2 g_TuneSetterModel_notes rfl rfl rfl (S.2.2.2.2 _ mi_TuneSetterModel) hlink ⟨by decide, by decide, by decide +kernel⟩ hR, S.2.2.2.2 _ mn_TuneSetterModel_notes, S.2.2.2.2 _ ms_TuneSetterModel_notes⟩ (preRV hK hD hA hS hP 0 rfl rfl) rfl rfl hl1 rfl (lv_room hst) hdg hcs) hS (fun q _ z => AR_le hD hA hS q z) (fun q z => AR_le hD hA hS q z) (fun r u t H1 locs1 ht _ hp hB _ _ hS1 => kk r u.1 u.2 H1 locs1 hp (of_endR ht hB) hS1)
def wp_TuneSetterModel_note (x1 : Int32) (x2 : Int32) (I : Nat → Int32) (A : Nat → Nat → Int32) (post : Int32 → (Nat → Int32) → (Nat → Nat → Int32) → Prop) : Prop := (((I 6) = 0 → post (-1) I A) ∧ (¬ (I 6) = 0 → ((x1 < 0 → post (-1) I A) ∧ (¬ x1 < 0 → (((I 25) ≤ x1 → post (-1) I A) ∧ (¬ (I 25) ≤ x1 → ((x2 < 0 → post (-1) I A) ∧ (¬ x2 < 0 → ((x2 ≤ 2 → ((x2 = 0 → (vp_in x1 64 ∧ post (A 13 (x1.toNatClampNeg)) I A)) ∧ (¬ x2 = 0 → ((x2 = 1 → (vp_in x1 64 ∧ post (A 14 (x1.toNatClampNeg)) I A)) ∧ (¬ x2 = 1 → (vp_in x1 64 ∧ post (A 15 (x1.toNatClampNeg)) I A)))))) ∧ (¬ x2 ≤ 2 → post (-1) I A))))))))))
theorem d_TuneSetterModel_note_0 : decode b_TuneSetterModel_note 0 = .ok (.aload_n 0, 1) := by decide +kernel
theorem d_TuneSetterModel_note_1 : decode b_TuneSetterModel_note 1 = .ok (.getfield 93, 3) := by decide +kernel
theorem d_TuneSetterModel_note_4 : decode b_TuneSetterModel_note 4 = .ok (.ifCond .eq 24, 3) := by decide +kernel
theorem d_TuneSetterModel_note_7 : decode b_TuneSetterModel_note 7 = .ok (.iload_n 1, 1) := by decide +kernel
theorem d_TuneSetterModel_note_8 : decode b_TuneSetterModel_note 8 = .ok (.ifCond .lt 20, 3) := by decide +kernel
theorem d_TuneSetterModel_note_11 : decode b_TuneSetterModel_note 11 = .ok (.iload_n 1, 1) := by decide +kernel
theorem d_TuneSetterModel_note_12 : decode b_TuneSetterModel_note 12 = .ok (.aload_n 0, 1) := by decide +kernel
theorem d_TuneSetterModel_note_13 : decode b_TuneSetterModel_note 13 = .ok (.getfield 97, 3) := by decide +kernel
theorem d_TuneSetterModel_note_16 : decode b_TuneSetterModel_note 16 = .ok (.if_icmp .ge 12, 3) := by decide +kernel
theorem d_TuneSetterModel_note_19 : decode b_TuneSetterModel_note 19 = .ok (.iload_n 2, 1) := by decide +kernel
theorem d_TuneSetterModel_note_20 : decode b_TuneSetterModel_note 20 = .ok (.ifCond .lt 8, 3) := by decide +kernel
theorem d_TuneSetterModel_note_23 : decode b_TuneSetterModel_note 23 = .ok (.iload_n 2, 1) := by decide +kernel
theorem d_TuneSetterModel_note_24 : decode b_TuneSetterModel_note 24 = .ok (.iconst 2, 1) := by decide +kernel
theorem d_TuneSetterModel_note_25 : decode b_TuneSetterModel_note 25 = .ok (.if_icmp .le 5, 3) := by decide +kernel
theorem d_TuneSetterModel_note_28 : decode b_TuneSetterModel_note 28 = .ok (.iconst (-1), 1) := by decide +kernel
theorem d_TuneSetterModel_note_29 : decode b_TuneSetterModel_note 29 = .ok (.ireturn, 1) := by decide +kernel
theorem d_TuneSetterModel_note_30 : decode b_TuneSetterModel_note 30 = .ok (.iload_n 2, 1) := by decide +kernel
theorem d_TuneSetterModel_note_31 : decode b_TuneSetterModel_note 31 = .ok (.ifCond .ne 12, 3) := by decide +kernel
theorem d_TuneSetterModel_note_34 : decode b_TuneSetterModel_note 34 = .ok (.aload_n 0, 1) := by decide +kernel
theorem d_TuneSetterModel_note_35 : decode b_TuneSetterModel_note 35 = .ok (.getfield 60, 3) := by decide +kernel
theorem d_TuneSetterModel_note_38 : decode b_TuneSetterModel_note 38 = .ok (.iload_n 1, 1) := by decide +kernel
theorem d_TuneSetterModel_note_39 : decode b_TuneSetterModel_note 39 = .ok (.iaload, 1) := by decide +kernel
theorem d_TuneSetterModel_note_40 : decode b_TuneSetterModel_note 40 = .ok (.goto 23, 3) := by decide +kernel
theorem d_TuneSetterModel_note_43 : decode b_TuneSetterModel_note 43 = .ok (.iload_n 2, 1) := by decide +kernel
theorem d_TuneSetterModel_note_44 : decode b_TuneSetterModel_note 44 = .ok (.iconst 1, 1) := by decide +kernel
theorem d_TuneSetterModel_note_45 : decode b_TuneSetterModel_note 45 = .ok (.if_icmp .ne 12, 3) := by decide +kernel
theorem d_TuneSetterModel_note_48 : decode b_TuneSetterModel_note 48 = .ok (.aload_n 0, 1) := by decide +kernel
theorem d_TuneSetterModel_note_49 : decode b_TuneSetterModel_note 49 = .ok (.getfield 63, 3) := by decide +kernel
theorem d_TuneSetterModel_note_52 : decode b_TuneSetterModel_note 52 = .ok (.iload_n 1, 1) := by decide +kernel
theorem d_TuneSetterModel_note_53 : decode b_TuneSetterModel_note 53 = .ok (.iaload, 1) := by decide +kernel
theorem d_TuneSetterModel_note_54 : decode b_TuneSetterModel_note 54 = .ok (.goto 9, 3) := by decide +kernel
theorem d_TuneSetterModel_note_57 : decode b_TuneSetterModel_note 57 = .ok (.aload_n 0, 1) := by decide +kernel
theorem d_TuneSetterModel_note_58 : decode b_TuneSetterModel_note 58 = .ok (.getfield 66, 3) := by decide +kernel
theorem d_TuneSetterModel_note_61 : decode b_TuneSetterModel_note 61 = .ok (.iload_n 1, 1) := by decide +kernel
theorem d_TuneSetterModel_note_62 : decode b_TuneSetterModel_note 62 = .ok (.iaload, 1) := by decide +kernel
theorem d_TuneSetterModel_note_63 : decode b_TuneSetterModel_note 63 = .ok (.ireturn, 1) := by decide +kernel
def w_TuneSetterModel_note : List Cond := .code y_TuneSetterModel_note b_TuneSetterModel_note 3 (some .int) :: WALL
theorem g_TuneSetterModel_note : GoodIn WALL w_TuneSetterModel_note := good_of mc_TuneSetterModel_note
set_option maxHeartbeats 4000000 in
set_option maxRecDepth 100000 in
theorem c_TuneSetterModel_note (l : Launch) (D : va_G) (cA a : Nat → Nat) (sz : Nat) (x1 : Int32) (x2 : Int32) (I : Nat → Int32) (A : Nat → Nat → Int32) (post : Int32 → (Nat → Int32) → (Nat → Nat → Int32) → Prop) (h : wp_TuneSetterModel_note x1 x2 I A post) : Met l y_TuneSetterModel_note w_TuneSetterModel_note ({ frames := 0, cells := 0, slots := 0, locals := 0 }) (va_Pc [.ref (a 0), .int x1, .int x2] (PreR D cA a I A sz)) (va_Qi (fun r (u : StW) => post r u.1 u.2) (EndR D cA a) (AR a sz)) 0 0 (AR a sz) := by
  refine Met.ofW (cc := b_TuneSetterModel_note) (maxL := 3) (ret := (some .int)) (by decide) rfl ?_
  intro p e s m args below meth c s₁ B hml hv
  obtain ⟨rfl, hsz, hP, hK, hD0⟩ := hv
  have hx := B.exec
  have hb := B.bytes
  have hr := B.returns
  have hts := atoms_spec (ws := w_TuneSetterModel_note) B.pre
  have hw := wall_of hts
  have hown : s.vm.findClass R_TuneSetterModel = some m.cls := findClass_of_methodNamed B.named
  have hlocks := B.notSynchronized
  subst hsz
  have hD := hDR (sz := s.heap.size) hD0
  have hA : ∀ q : Nat, s.heap.size ≤ q → AR a s.heap.size q := fun q h => Or.inr h
  have hS : va_S (AR a s.heap.size) s.heap s.heap [] := va_S.rf
  have hl := lv_entry ([.ref (a 0), .int x1, .int x2]) (n := 3) (Nat.le_of_ble_eq_true rfl)
  rw [lg_entry_eq]
  generalize (lg_sl ([.ref (a 0), .int x1, .int x2]) ++ List.replicate (3 - (lg_sl ([.ref (a 0), .int x1, .int x2])).length) Slot.unset).toArray = ls at hl ⊢
  have hl : lv_has ls 3 [(0, .ref (a 0)), (1, .int x1), (2, .int x2)] := hl
  unfold wp_TuneSetterModel_note at h
  refine lv_aload_n hx hb d_TuneSetterModel_note_0 rfl (lv_at hl 0 rfl) ?_
  refine gR_TuneSetterModel_tune hx hb hw hown hK hP (hw _ m_TuneSetterModel_93) d_TuneSetterModel_note_1 ?_
  refine lv_if_eq (tgt := 28) hx hb d_TuneSetterModel_note_4 rfl (fun q => ?_) (fun q => ?_)
  · have h := h.1 q
    refine lv_iconst (v := (-1)) hx hb d_TuneSetterModel_note_28 ic_m1 ?_
    exact W.iret hx hb hr (fun t ht hW => ⟨⟨_, (I, A), rfl, h, endR_of ht hP⟩, hS.F ht⟩) hS.2.2 d_TuneSetterModel_note_29
  · have h := h.2 q
    refine lv_iload_n hx hb d_TuneSetterModel_note_7 rfl (lv_at hl 1 rfl) ?_
    refine lv_if_lt (tgt := 28) hx hb d_TuneSetterModel_note_8 rfl (fun q => ?_) (fun q => ?_)
    · have h := h.1 q
      refine lv_iconst (v := (-1)) hx hb d_TuneSetterModel_note_28 ic_m1 ?_
      exact W.iret hx hb hr (fun t ht hW => ⟨⟨_, (I, A), rfl, h, endR_of ht hP⟩, hS.F ht⟩) hS.2.2 d_TuneSetterModel_note_29
    · have h := h.2 q
      refine lv_iload_n hx hb d_TuneSetterModel_note_11 rfl (lv_at hl 1 rfl) ?_
      refine lv_aload_n hx hb d_TuneSetterModel_note_12 rfl (lv_at hl 0 rfl) ?_
      refine gR_TuneSetterModel_notes hx hb hw hown hK hP (hw _ m_TuneSetterModel_97) d_TuneSetterModel_note_13 ?_
      refine lv_icmp_ge (tgt := 28) hx hb d_TuneSetterModel_note_16 rfl (fun q => ?_) (fun q => ?_)
      · have h := h.1 q
        refine lv_iconst (v := (-1)) hx hb d_TuneSetterModel_note_28 ic_m1 ?_
        exact W.iret hx hb hr (fun t ht hW => ⟨⟨_, (I, A), rfl, h, endR_of ht hP⟩, hS.F ht⟩) hS.2.2 d_TuneSetterModel_note_29
      · have h := h.2 q
        refine lv_iload_n hx hb d_TuneSetterModel_note_19 rfl (lv_at hl 2 rfl) ?_
        refine lv_if_lt (tgt := 28) hx hb d_TuneSetterModel_note_20 rfl (fun q => ?_) (fun q => ?_)
        · have h := h.1 q
          refine lv_iconst (v := (-1)) hx hb d_TuneSetterModel_note_28 ic_m1 ?_
          exact W.iret hx hb hr (fun t ht hW => ⟨⟨_, (I, A), rfl, h, endR_of ht hP⟩, hS.F ht⟩) hS.2.2 d_TuneSetterModel_note_29
        · have h := h.2 q
          refine lv_iload_n hx hb d_TuneSetterModel_note_23 rfl (lv_at hl 2 rfl) ?_
          refine lv_iconst (v := 2) hx hb d_TuneSetterModel_note_24 ic_2 ?_
          refine lv_icmp_le (tgt := 30) hx hb d_TuneSetterModel_note_25 rfl (fun q => ?_) (fun q => ?_)
          · have h := h.1 q
            refine lv_iload_n hx hb d_TuneSetterModel_note_30 rfl (lv_at hl 2 rfl) ?_
            refine lv_if_ne (tgt := 43) hx hb d_TuneSetterModel_note_31 rfl (fun q => ?_) (fun q => ?_)
            · have h := h.2 q
              refine lv_iload_n hx hb d_TuneSetterModel_note_43 rfl (lv_at hl 2 rfl) ?_
              refine lv_iconst (v := 1) hx hb d_TuneSetterModel_note_44 ic_1 ?_
              refine lv_icmp_ne (tgt := 57) hx hb d_TuneSetterModel_note_45 rfl (fun q => ?_) (fun q => ?_)
              · have h := h.2 q
                refine lv_aload_n hx hb d_TuneSetterModel_note_57 rfl (lv_at hl 0 rfl) ?_
                refine gR_TuneSetterModel_tone hx hb hw hown hK hP (hw _ m_TuneSetterModel_66) d_TuneSetterModel_note_58 ?_
                refine lv_iload_n hx hb d_TuneSetterModel_note_61 rfl (lv_at hl 1 rfl) ?_
                obtain ⟨hin, h⟩ := h
                refine lR15 hx hb hK hP hin d_TuneSetterModel_note_62 ?_
                exact W.iret hx hb hr (fun t ht hW => ⟨⟨_, (I, A), rfl, h, endR_of ht hP⟩, hS.F ht⟩) hS.2.2 d_TuneSetterModel_note_63
              · have h := h.1 q
                refine lv_aload_n hx hb d_TuneSetterModel_note_48 rfl (lv_at hl 0 rfl) ?_
                refine gR_TuneSetterModel_length hx hb hw hown hK hP (hw _ m_TuneSetterModel_63) d_TuneSetterModel_note_49 ?_
                refine lv_iload_n hx hb d_TuneSetterModel_note_52 rfl (lv_at hl 1 rfl) ?_
                obtain ⟨hin, h⟩ := h
                refine lR14 hx hb hK hP hin d_TuneSetterModel_note_53 ?_
                refine lv_goto (tgt := 63) hx hb d_TuneSetterModel_note_54 rfl ?_
                exact W.iret hx hb hr (fun t ht hW => ⟨⟨_, (I, A), rfl, h, endR_of ht hP⟩, hS.F ht⟩) hS.2.2 d_TuneSetterModel_note_63
            · have h := h.1 q
              refine lv_aload_n hx hb d_TuneSetterModel_note_34 rfl (lv_at hl 0 rfl) ?_
              refine gR_TuneSetterModel_onset hx hb hw hown hK hP (hw _ m_TuneSetterModel_60) d_TuneSetterModel_note_35 ?_
              refine lv_iload_n hx hb d_TuneSetterModel_note_38 rfl (lv_at hl 1 rfl) ?_
              obtain ⟨hin, h⟩ := h
              refine lR13 hx hb hK hP hin d_TuneSetterModel_note_39 ?_
              refine lv_goto (tgt := 63) hx hb d_TuneSetterModel_note_40 rfl ?_
              exact W.iret hx hb hr (fun t ht hW => ⟨⟨_, (I, A), rfl, h, endR_of ht hP⟩, hS.F ht⟩) hS.2.2 d_TuneSetterModel_note_63
          · have h := h.2 q
            refine lv_iconst (v := (-1)) hx hb d_TuneSetterModel_note_28 ic_m1 ?_
            exact W.iret hx hb hr (fun t ht hW => ⟨⟨_, (I, A), rfl, h, endR_of ht hP⟩, hS.F ht⟩) hS.2.2 d_TuneSetterModel_note_29
theorem k_TuneSetterModel_note {p : Program} {l : Launch} {e : Env} {R : Room} {s : State} {m : MethodId} {args : Array Value} {below : List Frame} {meth : Method} {c : Code} {H : Heap} {locs : List Loc} {cells slots : Nat} {Q : State → Prop} {cc : ByteArray} {pc nL idx : Nat} {own : String} {ls : Array Slot} {D : va_G} {cA a : Nat → Nat} {AA : Nat → Prop} {I : Nat → Int32} {A : Nat → Nat → Int32} {post : Int32 → (Nat → Int32) → (Nat → Nat → Int32) → Prop} (x1 : Int32) (x2 : Int32) {rest : List Value} (S : CallFix p m c cc nL s args WALL own) (hK : KR D cA a AA s) (hD : ∀ I A, va_D AA (wR cA a I A)) (hA : ∀ q : Nat, s.heap.size ≤ q → AA q) (hS : va_S AA s.heap H locs) (hP : va_P D cls (wR cA a I A) H) (hl1 : ls.size = nL) (hlink : (Cond.methodLink own idx y_TuneSetterModel_note).before args s = true) (hst : (rest.map fun v => v.category).sum ≤ 8) (hR : ({ frames := 0, cells := 0, slots := 0, locals := 0 } : Room).frames + 1 ≤ R.frames ∧ 8 + (3 + 11) + ({ frames := 0, cells := 0, slots := 0, locals := 0 } : Room).locals ≤ R.locals) (hcs : cells ≤ R.cells ∧ slots ≤ R.slots) (hdg : decode cc pc = .ok (.invokevirtual idx, 3)) (h : wp_TuneSetterModel_note x1 x2 I A post) (kk : ∀ (r : Int32) (I1 : Nat → Int32) (A1 : Nat → Nat → Int32) (H1 : Heap) (locs1 : List Loc), post r I1 A1 → va_P D cls (wR cA a I1 A1) H1 → va_S AA s.heap H1 locs1 → W p l e R s m args below meth c H1 locs1 cells slots Q (F0 m (pc + 3) ls (.int r :: rest))) : W p l e R s m args below meth c H locs cells slots Q (F0 m pc ls (.int x2 :: .int x1 :: .ref (a 0) :: rest)) :=
  va_calli (va_runV (As := [.int x1, .int x2]) (rest := rest) S (c_TuneSetterModel_note l D cA a H.size x1 x2 I A post h) ⟨callB_of 2 S.2.2.2.2 g_TuneSetterModel_note rfl rfl rfl (S.2.2.2.2 _ mi_TuneSetterModel) hlink ⟨by decide, by decide, by decide +kernel⟩ hR, S.2.2.2.2 _ mn_TuneSetterModel_note, S.2.2.2.2 _ ms_TuneSetterModel_note⟩ (preRV hK hD hA hS hP 0 rfl rfl) rfl rfl hl1 rfl (lv_room hst) hdg hcs) hS (fun q _ z => AR_le hD hA hS q z) (fun q z => AR_le hD hA hS q z) (fun r u t H1 locs1 ht _ hp hB _ _ hS1 => kk r u.1 u.2 H1 locs1 hp (of_endR ht hB) hS1)

def wp_TuneSetterModel_isDigit (x1 : Int32) (I : Nat → Int32) (A : Nat → Nat → Int32) (post : Int32 → (Nat → Int32) → (Nat → Nat → Int32) → Prop) : Prop := ((x1 < 48 → post 0 I A) ∧ (¬ x1 < 48 → ((57 < x1 → post 0 I A) ∧ (¬ 57 < x1 → post 1 I A))))
theorem d_TuneSetterModel_isDigit_0 : decode b_TuneSetterModel_isDigit 0 = .ok (.iload_n 0, 1) := by decide +kernel
theorem d_TuneSetterModel_isDigit_1 : decode b_TuneSetterModel_isDigit 1 = .ok (.bipush 48, 2) := by decide +kernel
theorem d_TuneSetterModel_isDigit_3 : decode b_TuneSetterModel_isDigit 3 = .ok (.if_icmp .lt 13, 3) := by decide +kernel
theorem d_TuneSetterModel_isDigit_6 : decode b_TuneSetterModel_isDigit 6 = .ok (.iload_n 0, 1) := by decide +kernel
theorem d_TuneSetterModel_isDigit_7 : decode b_TuneSetterModel_isDigit 7 = .ok (.bipush 57, 2) := by decide +kernel
theorem d_TuneSetterModel_isDigit_9 : decode b_TuneSetterModel_isDigit 9 = .ok (.if_icmp .gt 7, 3) := by decide +kernel
theorem d_TuneSetterModel_isDigit_12 : decode b_TuneSetterModel_isDigit 12 = .ok (.iconst 1, 1) := by decide +kernel
theorem d_TuneSetterModel_isDigit_13 : decode b_TuneSetterModel_isDigit 13 = .ok (.goto 4, 3) := by decide +kernel
theorem d_TuneSetterModel_isDigit_16 : decode b_TuneSetterModel_isDigit 16 = .ok (.iconst 0, 1) := by decide +kernel
theorem d_TuneSetterModel_isDigit_17 : decode b_TuneSetterModel_isDigit 17 = .ok (.ireturn, 1) := by decide +kernel
def w_TuneSetterModel_isDigit : List Cond := .code y_TuneSetterModel_isDigit b_TuneSetterModel_isDigit 1 (some .boolean) :: WALL
theorem g_TuneSetterModel_isDigit : GoodIn WALL w_TuneSetterModel_isDigit := good_of mc_TuneSetterModel_isDigit
set_option maxHeartbeats 4000000 in
set_option maxRecDepth 100000 in
theorem c_TuneSetterModel_isDigit (l : Launch) (D : va_G) (cA a : Nat → Nat) (sz : Nat) (x1 : Int32) (I : Nat → Int32) (A : Nat → Nat → Int32) (post : Int32 → (Nat → Int32) → (Nat → Nat → Int32) → Prop) (h : wp_TuneSetterModel_isDigit x1 I A post) : Met l y_TuneSetterModel_isDigit w_TuneSetterModel_isDigit ({ frames := 0, cells := 0, slots := 0, locals := 0 }) (va_Pc [.int x1] (PreR D cA a I A sz)) (va_Qi (fun r (u : StW) => post r u.1 u.2) (EndR D cA a) (AR a sz)) 0 0 (AR a sz) := by
  refine Met.ofW (cc := b_TuneSetterModel_isDigit) (maxL := 1) (ret := (some .boolean)) (by decide) rfl ?_
  intro p e s m args below meth c s₁ B hml hv
  obtain ⟨rfl, hsz, hP, hK, hD0⟩ := hv
  have hx := B.exec
  have hb := B.bytes
  have hr := B.returns
  have hts := atoms_spec (ws := w_TuneSetterModel_isDigit) B.pre
  have hw := wall_of hts
  have hown : s.vm.findClass R_TuneSetterModel = some m.cls := findClass_of_methodNamed B.named
  have hlocks := B.notSynchronized
  subst hsz
  have hD := hDR (sz := s.heap.size) hD0
  have hA : ∀ q : Nat, s.heap.size ≤ q → AR a s.heap.size q := fun q h => Or.inr h
  have hS : va_S (AR a s.heap.size) s.heap s.heap [] := va_S.rf
  have hl := lv_entry ([.int x1]) (n := 1) (Nat.le_of_ble_eq_true rfl)
  rw [lg_entry_eq]
  generalize (lg_sl ([.int x1]) ++ List.replicate (1 - (lg_sl ([.int x1])).length) Slot.unset).toArray = ls at hl ⊢
  have hl : lv_has ls 1 [(0, .int x1)] := hl
  unfold wp_TuneSetterModel_isDigit at h
  refine lv_iload_n hx hb d_TuneSetterModel_isDigit_0 rfl (lv_at hl 0 rfl) ?_
  refine lv_bipush (v := 48) hx hb d_TuneSetterModel_isDigit_1 bp_48 ?_
  refine lv_icmp_lt (tgt := 16) hx hb d_TuneSetterModel_isDigit_3 rfl (fun q => ?_) (fun q => ?_)
  · have h := h.1 q
    refine lv_iconst (v := 0) hx hb d_TuneSetterModel_isDigit_16 ic_0 ?_
    exact W.zret hx hb hr (vz_n vz0) (fun t ht hW => ⟨⟨_, (I, A), rfl, h, endR_of ht hP⟩, hS.F ht⟩) hS.2.2 d_TuneSetterModel_isDigit_17
  · have h := h.2 q
    refine lv_iload_n hx hb d_TuneSetterModel_isDigit_6 rfl (lv_at hl 0 rfl) ?_
    refine lv_bipush (v := 57) hx hb d_TuneSetterModel_isDigit_7 bp_57 ?_
    refine lv_icmp_gt (tgt := 16) hx hb d_TuneSetterModel_isDigit_9 rfl (fun q => ?_) (fun q => ?_)
    · have h := h.1 q
      refine lv_iconst (v := 0) hx hb d_TuneSetterModel_isDigit_16 ic_0 ?_
      exact W.zret hx hb hr (vz_n vz0) (fun t ht hW => ⟨⟨_, (I, A), rfl, h, endR_of ht hP⟩, hS.F ht⟩) hS.2.2 d_TuneSetterModel_isDigit_17
    · have h := h.2 q
      refine lv_iconst (v := 1) hx hb d_TuneSetterModel_isDigit_12 ic_1 ?_
      refine lv_goto (tgt := 17) hx hb d_TuneSetterModel_isDigit_13 rfl ?_
      exact W.zret hx hb hr (vz_n vz1) (fun t ht hW => ⟨⟨_, (I, A), rfl, h, endR_of ht hP⟩, hS.F ht⟩) hS.2.2 d_TuneSetterModel_isDigit_17
theorem k_TuneSetterModel_isDigit {p : Program} {l : Launch} {e : Env} {R : Room} {s : State} {m : MethodId} {args : Array Value} {below : List Frame} {meth : Method} {c : Code} {H : Heap} {locs : List Loc} {cells slots : Nat} {Q : State → Prop} {cc : ByteArray} {pc nL idx : Nat} {own : String} {ls : Array Slot} {D : va_G} {cA a : Nat → Nat} {AA : Nat → Prop} {I : Nat → Int32} {A : Nat → Nat → Int32} {post : Int32 → (Nat → Int32) → (Nat → Nat → Int32) → Prop} (x1 : Int32) {rest : List Value} (S : CallFix p m c cc nL s args WALL own) (hK : KR D cA a AA s) (hD : ∀ I A, va_D AA (wR cA a I A)) (hA : ∀ q : Nat, s.heap.size ≤ q → AA q) (hS : va_S AA s.heap H locs) (hP : va_P D cls (wR cA a I A) H) (hl1 : ls.size = nL) (hlink : (Cond.methodLink own idx y_TuneSetterModel_isDigit).before args s = true) (hst : (rest.map fun v => v.category).sum ≤ 8) (hR : ({ frames := 0, cells := 0, slots := 0, locals := 0 } : Room).frames + 1 ≤ R.frames ∧ 8 + (1 + 11) + ({ frames := 0, cells := 0, slots := 0, locals := 0 } : Room).locals ≤ R.locals) (hcs : cells ≤ R.cells ∧ slots ≤ R.slots) (hdg : decode cc pc = .ok (.invokestatic idx, 3)) (h : wp_TuneSetterModel_isDigit x1 I A post) (kk : ∀ (r : Int32) (I1 : Nat → Int32) (A1 : Nat → Nat → Int32) (H1 : Heap) (locs1 : List Loc), post r I1 A1 → va_P D cls (wR cA a I1 A1) H1 → va_S AA s.heap H1 locs1 → W p l e R s m args below meth c H1 locs1 cells slots Q (F0 m (pc + 3) ls (.int r :: rest))) : W p l e R s m args below meth c H locs cells slots Q (F0 m pc ls (.int x1 :: rest)) :=
  va_calli (va_runS (As := [.int x1]) (rest := rest) S (c_TuneSetterModel_isDigit l D cA a H.size x1 I A post h) ⟨callB_of 1 S.2.2.2.2 g_TuneSetterModel_isDigit rfl rfl rfl (S.2.2.2.2 _ mi_TuneSetterModel) hlink ⟨by decide, by decide, by decide +kernel⟩ hR, S.2.2.2.2 _ mn_TuneSetterModel_isDigit⟩ (preRS hK hD hA hS hP) rfl rfl hl1 rfl (lv_room hst) hdg hcs) hS (fun q _ z => AR_le hD hA hS q z) (fun q z => AR_le hD hA hS q z) (fun r u t H1 locs1 ht _ hp hB _ _ hS1 => kk r u.1 u.2 H1 locs1 hp (of_endR ht hB) hS1)
def wp_TuneSetterModel_goesOnNumber (x1 : Int32) (I : Nat → Int32) (A : Nat → Nat → Int32) (post : Int32 → (Nat → Int32) → (Nat → Nat → Int32) → Prop) : Prop := ((x1 = 47 → (((I 21) = 0 → post 1 I A) ∧ (¬ (I 21) = 0 → post 0 I A))) ∧ (¬ x1 = 47 → (wp_TuneSetterModel_isDigit x1 I A (fun r20 I20 A20 => ((r20 = 0 → post 0 I20 A20) ∧ (¬ r20 = 0 → (((I20 21) = 0 → ((3 ≤ (I20 20) → post 0 I20 A20) ∧ (¬ 3 ≤ (I20 20) → post 1 I20 A20))) ∧ (¬ (I20 21) = 0 → ((3 ≤ (I20 23) → post 0 I20 A20) ∧ (¬ 3 ≤ (I20 23) → post 1 I20 A20))))))))))
theorem d_TuneSetterModel_goesOnNumber_0 : decode b_TuneSetterModel_goesOnNumber 0 = .ok (.iload_n 1, 1) := by decide +kernel
theorem d_TuneSetterModel_goesOnNumber_1 : decode b_TuneSetterModel_goesOnNumber 1 = .ok (.bipush 47, 2) := by decide +kernel
theorem d_TuneSetterModel_goesOnNumber_3 : decode b_TuneSetterModel_goesOnNumber 3 = .ok (.if_icmp .ne 16, 3) := by decide +kernel
theorem d_TuneSetterModel_goesOnNumber_6 : decode b_TuneSetterModel_goesOnNumber 6 = .ok (.aload_n 0, 1) := by decide +kernel
theorem d_TuneSetterModel_goesOnNumber_7 : decode b_TuneSetterModel_goesOnNumber 7 = .ok (.getfield 125, 3) := by decide +kernel
theorem d_TuneSetterModel_goesOnNumber_10 : decode b_TuneSetterModel_goesOnNumber 10 = .ok (.ifCond .ne 7, 3) := by decide +kernel
theorem d_TuneSetterModel_goesOnNumber_13 : decode b_TuneSetterModel_goesOnNumber 13 = .ok (.iconst 1, 1) := by decide +kernel
theorem d_TuneSetterModel_goesOnNumber_14 : decode b_TuneSetterModel_goesOnNumber 14 = .ok (.goto 4, 3) := by decide +kernel
theorem d_TuneSetterModel_goesOnNumber_17 : decode b_TuneSetterModel_goesOnNumber 17 = .ok (.iconst 0, 1) := by decide +kernel
theorem d_TuneSetterModel_goesOnNumber_18 : decode b_TuneSetterModel_goesOnNumber 18 = .ok (.ireturn, 1) := by decide +kernel
theorem d_TuneSetterModel_goesOnNumber_19 : decode b_TuneSetterModel_goesOnNumber 19 = .ok (.iload_n 1, 1) := by decide +kernel
theorem d_TuneSetterModel_goesOnNumber_20 : decode b_TuneSetterModel_goesOnNumber 20 = .ok (.invokestatic 128, 3) := by decide +kernel
theorem d_TuneSetterModel_goesOnNumber_23 : decode b_TuneSetterModel_goesOnNumber 23 = .ok (.ifCond .eq 29, 3) := by decide +kernel
theorem d_TuneSetterModel_goesOnNumber_26 : decode b_TuneSetterModel_goesOnNumber 26 = .ok (.aload_n 0, 1) := by decide +kernel
theorem d_TuneSetterModel_goesOnNumber_27 : decode b_TuneSetterModel_goesOnNumber 27 = .ok (.getfield 125, 3) := by decide +kernel
theorem d_TuneSetterModel_goesOnNumber_30 : decode b_TuneSetterModel_goesOnNumber 30 = .ok (.ifCond .eq 10, 3) := by decide +kernel
theorem d_TuneSetterModel_goesOnNumber_33 : decode b_TuneSetterModel_goesOnNumber 33 = .ok (.aload_n 0, 1) := by decide +kernel
theorem d_TuneSetterModel_goesOnNumber_34 : decode b_TuneSetterModel_goesOnNumber 34 = .ok (.getfield 131, 3) := by decide +kernel
theorem d_TuneSetterModel_goesOnNumber_37 : decode b_TuneSetterModel_goesOnNumber 37 = .ok (.goto 7, 3) := by decide +kernel
theorem d_TuneSetterModel_goesOnNumber_40 : decode b_TuneSetterModel_goesOnNumber 40 = .ok (.aload_n 0, 1) := by decide +kernel
theorem d_TuneSetterModel_goesOnNumber_41 : decode b_TuneSetterModel_goesOnNumber 41 = .ok (.getfield 134, 3) := by decide +kernel
theorem d_TuneSetterModel_goesOnNumber_44 : decode b_TuneSetterModel_goesOnNumber 44 = .ok (.iconst 3, 1) := by decide +kernel
theorem d_TuneSetterModel_goesOnNumber_45 : decode b_TuneSetterModel_goesOnNumber 45 = .ok (.if_icmp .ge 7, 3) := by decide +kernel
theorem d_TuneSetterModel_goesOnNumber_48 : decode b_TuneSetterModel_goesOnNumber 48 = .ok (.iconst 1, 1) := by decide +kernel
theorem d_TuneSetterModel_goesOnNumber_49 : decode b_TuneSetterModel_goesOnNumber 49 = .ok (.goto 4, 3) := by decide +kernel
theorem d_TuneSetterModel_goesOnNumber_52 : decode b_TuneSetterModel_goesOnNumber 52 = .ok (.iconst 0, 1) := by decide +kernel
theorem d_TuneSetterModel_goesOnNumber_53 : decode b_TuneSetterModel_goesOnNumber 53 = .ok (.ireturn, 1) := by decide +kernel
def w_TuneSetterModel_goesOnNumber : List Cond := .code y_TuneSetterModel_goesOnNumber b_TuneSetterModel_goesOnNumber 2 (some .boolean) :: WALL
theorem g_TuneSetterModel_goesOnNumber : GoodIn WALL w_TuneSetterModel_goesOnNumber := good_of mc_TuneSetterModel_goesOnNumber
set_option maxHeartbeats 4000000 in
set_option maxRecDepth 100000 in
theorem c_TuneSetterModel_goesOnNumber (l : Launch) (D : va_G) (cA a : Nat → Nat) (sz : Nat) (x1 : Int32) (I : Nat → Int32) (A : Nat → Nat → Int32) (post : Int32 → (Nat → Int32) → (Nat → Nat → Int32) → Prop) (h : wp_TuneSetterModel_goesOnNumber x1 I A post) : Met l y_TuneSetterModel_goesOnNumber w_TuneSetterModel_goesOnNumber ({ frames := 1, cells := 0, slots := 0, locals := 20 }) (va_Pc [.ref (a 0), .int x1] (PreR D cA a I A sz)) (va_Qi (fun r (u : StW) => post r u.1 u.2) (EndR D cA a) (AR a sz)) 0 0 (AR a sz) := by
  refine Met.ofW (cc := b_TuneSetterModel_goesOnNumber) (maxL := 2) (ret := (some .boolean)) (by decide) rfl ?_
  intro p e s m args below meth c s₁ B hml hv
  obtain ⟨rfl, hsz, hP, hK, hD0⟩ := hv
  have hx := B.exec
  have hb := B.bytes
  have hr := B.returns
  have hts := atoms_spec (ws := w_TuneSetterModel_goesOnNumber) B.pre
  have hw := wall_of hts
  have hown : s.vm.findClass R_TuneSetterModel = some m.cls := findClass_of_methodNamed B.named
  have hlocks := B.notSynchronized
  subst hsz
  have hD := hDR (sz := s.heap.size) hD0
  have hA : ∀ q : Nat, s.heap.size ≤ q → AR a s.heap.size q := fun q h => Or.inr h
  have hS : va_S (AR a s.heap.size) s.heap s.heap [] := va_S.rf
  have hl := lv_entry ([.ref (a 0), .int x1]) (n := 2) (Nat.le_of_ble_eq_true rfl)
  rw [lg_entry_eq]
  generalize (lg_sl ([.ref (a 0), .int x1]) ++ List.replicate (2 - (lg_sl ([.ref (a 0), .int x1])).length) Slot.unset).toArray = ls at hl ⊢
  have hl : lv_has ls 2 [(0, .ref (a 0)), (1, .int x1)] := hl
  unfold wp_TuneSetterModel_goesOnNumber at h
  refine lv_iload_n hx hb d_TuneSetterModel_goesOnNumber_0 rfl (lv_at hl 1 rfl) ?_
  refine lv_bipush (v := 47) hx hb d_TuneSetterModel_goesOnNumber_1 bp_47 ?_
  refine lv_icmp_ne (tgt := 19) hx hb d_TuneSetterModel_goesOnNumber_3 rfl (fun q => ?_) (fun q => ?_)
  · have h := h.2 q
    refine lv_iload_n hx hb d_TuneSetterModel_goesOnNumber_19 rfl (lv_at hl 1 rfl) ?_
    refine k_TuneSetterModel_isDigit x1 (rest := []) ⟨hx, hb, hml, hown, hw⟩ hK hD hA hS hP hl.1 (hw _ m_TuneSetterModel_128) (Nat.le_of_ble_eq_true rfl) ⟨Nat.le_of_ble_eq_true rfl, Nat.le_of_ble_eq_true rfl⟩ ⟨Nat.zero_le _, Nat.zero_le _⟩ d_TuneSetterModel_goesOnNumber_20 h (fun r20 I20 A20 H locs h hP hS => ?_)
    refine lv_if_eq (tgt := 52) hx hb d_TuneSetterModel_goesOnNumber_23 rfl (fun q => ?_) (fun q => ?_)
    · have h := h.1 q
      refine lv_iconst (v := 0) hx hb d_TuneSetterModel_goesOnNumber_52 ic_0 ?_
      exact W.zret hx hb hr (vz_n vz0) (fun t ht hW => ⟨⟨_, (I20, A20), rfl, h, endR_of ht hP⟩, hS.F ht⟩) hS.2.2 d_TuneSetterModel_goesOnNumber_53
    · have h := h.2 q
      refine lv_aload_n hx hb d_TuneSetterModel_goesOnNumber_26 rfl (lv_at hl 0 rfl) ?_
      refine gR_TuneSetterModel_slash hx hb hw hown hK hP (hw _ m_TuneSetterModel_125) d_TuneSetterModel_goesOnNumber_27 ?_
      refine lv_if_eq (tgt := 40) hx hb d_TuneSetterModel_goesOnNumber_30 rfl (fun q => ?_) (fun q => ?_)
      · have h := h.1 q
        refine lv_aload_n hx hb d_TuneSetterModel_goesOnNumber_40 rfl (lv_at hl 0 rfl) ?_
        refine gR_TuneSetterModel_topDigits hx hb hw hown hK hP (hw _ m_TuneSetterModel_134) d_TuneSetterModel_goesOnNumber_41 ?_
        refine lv_iconst (v := 3) hx hb d_TuneSetterModel_goesOnNumber_44 ic_3 ?_
        refine lv_icmp_ge (tgt := 52) hx hb d_TuneSetterModel_goesOnNumber_45 rfl (fun q => ?_) (fun q => ?_)
        · have h := h.1 q
          refine lv_iconst (v := 0) hx hb d_TuneSetterModel_goesOnNumber_52 ic_0 ?_
          exact W.zret hx hb hr (vz_n vz0) (fun t ht hW => ⟨⟨_, (I20, A20), rfl, h, endR_of ht hP⟩, hS.F ht⟩) hS.2.2 d_TuneSetterModel_goesOnNumber_53
        · have h := h.2 q
          refine lv_iconst (v := 1) hx hb d_TuneSetterModel_goesOnNumber_48 ic_1 ?_
          refine lv_goto (tgt := 53) hx hb d_TuneSetterModel_goesOnNumber_49 rfl ?_
          exact W.zret hx hb hr (vz_n vz1) (fun t ht hW => ⟨⟨_, (I20, A20), rfl, h, endR_of ht hP⟩, hS.F ht⟩) hS.2.2 d_TuneSetterModel_goesOnNumber_53
      · have h := h.2 q
        refine lv_aload_n hx hb d_TuneSetterModel_goesOnNumber_33 rfl (lv_at hl 0 rfl) ?_
        refine gR_TuneSetterModel_belowDigits hx hb hw hown hK hP (hw _ m_TuneSetterModel_131) d_TuneSetterModel_goesOnNumber_34 ?_
        refine lv_goto (tgt := 44) hx hb d_TuneSetterModel_goesOnNumber_37 rfl ?_
        refine lv_iconst (v := 3) hx hb d_TuneSetterModel_goesOnNumber_44 ic_3 ?_
        refine lv_icmp_ge (tgt := 52) hx hb d_TuneSetterModel_goesOnNumber_45 rfl (fun q => ?_) (fun q => ?_)
        · have h := h.1 q
          refine lv_iconst (v := 0) hx hb d_TuneSetterModel_goesOnNumber_52 ic_0 ?_
          exact W.zret hx hb hr (vz_n vz0) (fun t ht hW => ⟨⟨_, (I20, A20), rfl, h, endR_of ht hP⟩, hS.F ht⟩) hS.2.2 d_TuneSetterModel_goesOnNumber_53
        · have h := h.2 q
          refine lv_iconst (v := 1) hx hb d_TuneSetterModel_goesOnNumber_48 ic_1 ?_
          refine lv_goto (tgt := 53) hx hb d_TuneSetterModel_goesOnNumber_49 rfl ?_
          exact W.zret hx hb hr (vz_n vz1) (fun t ht hW => ⟨⟨_, (I20, A20), rfl, h, endR_of ht hP⟩, hS.F ht⟩) hS.2.2 d_TuneSetterModel_goesOnNumber_53
  · have h := h.1 q
    refine lv_aload_n hx hb d_TuneSetterModel_goesOnNumber_6 rfl (lv_at hl 0 rfl) ?_
    refine gR_TuneSetterModel_slash hx hb hw hown hK hP (hw _ m_TuneSetterModel_125) d_TuneSetterModel_goesOnNumber_7 ?_
    refine lv_if_ne (tgt := 17) hx hb d_TuneSetterModel_goesOnNumber_10 rfl (fun q => ?_) (fun q => ?_)
    · have h := h.2 q
      refine lv_iconst (v := 0) hx hb d_TuneSetterModel_goesOnNumber_17 ic_0 ?_
      exact W.zret hx hb hr (vz_n vz0) (fun t ht hW => ⟨⟨_, (I, A), rfl, h, endR_of ht hP⟩, hS.F ht⟩) hS.2.2 d_TuneSetterModel_goesOnNumber_18
    · have h := h.1 q
      refine lv_iconst (v := 1) hx hb d_TuneSetterModel_goesOnNumber_13 ic_1 ?_
      refine lv_goto (tgt := 18) hx hb d_TuneSetterModel_goesOnNumber_14 rfl ?_
      exact W.zret hx hb hr (vz_n vz1) (fun t ht hW => ⟨⟨_, (I, A), rfl, h, endR_of ht hP⟩, hS.F ht⟩) hS.2.2 d_TuneSetterModel_goesOnNumber_18
theorem k_TuneSetterModel_goesOnNumber {p : Program} {l : Launch} {e : Env} {R : Room} {s : State} {m : MethodId} {args : Array Value} {below : List Frame} {meth : Method} {c : Code} {H : Heap} {locs : List Loc} {cells slots : Nat} {Q : State → Prop} {cc : ByteArray} {pc nL idx : Nat} {own : String} {ls : Array Slot} {D : va_G} {cA a : Nat → Nat} {AA : Nat → Prop} {I : Nat → Int32} {A : Nat → Nat → Int32} {post : Int32 → (Nat → Int32) → (Nat → Nat → Int32) → Prop} (x1 : Int32) {rest : List Value} (S : CallFix p m c cc nL s args WALL own) (hK : KR D cA a AA s) (hD : ∀ I A, va_D AA (wR cA a I A)) (hA : ∀ q : Nat, s.heap.size ≤ q → AA q) (hS : va_S AA s.heap H locs) (hP : va_P D cls (wR cA a I A) H) (hl1 : ls.size = nL) (hlink : (Cond.methodLink own idx y_TuneSetterModel_goesOnNumber).before args s = true) (hst : (rest.map fun v => v.category).sum ≤ 8) (hR : ({ frames := 1, cells := 0, slots := 0, locals := 20 } : Room).frames + 1 ≤ R.frames ∧ 8 + (2 + 11) + ({ frames := 1, cells := 0, slots := 0, locals := 20 } : Room).locals ≤ R.locals) (hcs : cells ≤ R.cells ∧ slots ≤ R.slots) (hdg : decode cc pc = .ok (.invokevirtual idx, 3)) (h : wp_TuneSetterModel_goesOnNumber x1 I A post) (kk : ∀ (r : Int32) (I1 : Nat → Int32) (A1 : Nat → Nat → Int32) (H1 : Heap) (locs1 : List Loc), post r I1 A1 → va_P D cls (wR cA a I1 A1) H1 → va_S AA s.heap H1 locs1 → W p l e R s m args below meth c H1 locs1 cells slots Q (F0 m (pc + 3) ls (.int r :: rest))) : W p l e R s m args below meth c H locs cells slots Q (F0 m pc ls (.int x1 :: .ref (a 0) :: rest)) :=
  va_calli (va_runV (As := [.int x1]) (rest := rest) S (c_TuneSetterModel_goesOnNumber l D cA a H.size x1 I A post h) ⟨callB_of 1 S.2.2.2.2 g_TuneSetterModel_goesOnNumber rfl rfl rfl (S.2.2.2.2 _ mi_TuneSetterModel) hlink ⟨by decide, by decide, by decide +kernel⟩ hR, S.2.2.2.2 _ mn_TuneSetterModel_goesOnNumber, S.2.2.2.2 _ ms_TuneSetterModel_goesOnNumber⟩ (preRV hK hD hA hS hP 0 rfl rfl) rfl rfl hl1 rfl (lv_room hst) hdg hcs) hS (fun q _ z => AR_le hD hA hS q z) (fun q z => AR_le hD hA hS q z) (fun r u t H1 locs1 ht _ hp hB _ _ hS1 => kk r u.1 u.2 H1 locs1 hp (of_endR ht hB) hS1)
def wp_TuneSetterModel_parts_15 (post : Int32 → (Nat → Int32) → (Nat → Nat → Int32) → Prop) (s0 : Int32) (I : Nat → Int32) (A : Nat → Nat → Int32) : Prop := (¬ (I 2) = 0 ∧ (((I 13) ≤ 0 → post ((s0 * ((384 : Int32) / (I 2))) * 1) I A) ∧ (¬ (I 13) ≤ 0 → post ((s0 * ((384 : Int32) / (I 2))) * 2) I A)))
def wp_TuneSetterModel_parts (I : Nat → Int32) (A : Nat → Nat → Int32) (post : Int32 → (Nat → Int32) → (Nat → Nat → Int32) → Prop) : Prop := (((I 20) = 0 → wp_TuneSetterModel_parts_15 post 1 I A) ∧ (¬ (I 20) = 0 → wp_TuneSetterModel_parts_15 post (I 19) I A))
theorem d_TuneSetterModel_parts_0 : decode b_TuneSetterModel_parts 0 = .ok (.aload_n 0, 1) := by decide +kernel
theorem d_TuneSetterModel_parts_1 : decode b_TuneSetterModel_parts 1 = .ok (.getfield 134, 3) := by decide +kernel
theorem d_TuneSetterModel_parts_4 : decode b_TuneSetterModel_parts 4 = .ok (.ifCond .ne 7, 3) := by decide +kernel
theorem d_TuneSetterModel_parts_7 : decode b_TuneSetterModel_parts 7 = .ok (.iconst 1, 1) := by decide +kernel
theorem d_TuneSetterModel_parts_8 : decode b_TuneSetterModel_parts 8 = .ok (.goto 7, 3) := by decide +kernel
theorem d_TuneSetterModel_parts_11 : decode b_TuneSetterModel_parts 11 = .ok (.aload_n 0, 1) := by decide +kernel
theorem d_TuneSetterModel_parts_12 : decode b_TuneSetterModel_parts 12 = .ok (.getfield 232, 3) := by decide +kernel
theorem d_TuneSetterModel_parts_15 : decode b_TuneSetterModel_parts 15 = .ok (.istore_n 1, 1) := by decide +kernel
theorem d_TuneSetterModel_parts_16 : decode b_TuneSetterModel_parts 16 = .ok (.iload_n 1, 1) := by decide +kernel
theorem d_TuneSetterModel_parts_17 : decode b_TuneSetterModel_parts 17 = .ok (.sipush 384, 3) := by decide +kernel
theorem d_TuneSetterModel_parts_20 : decode b_TuneSetterModel_parts 20 = .ok (.aload_n 0, 1) := by decide +kernel
theorem d_TuneSetterModel_parts_21 : decode b_TuneSetterModel_parts 21 = .ok (.getfield 16, 3) := by decide +kernel
theorem d_TuneSetterModel_parts_24 : decode b_TuneSetterModel_parts 24 = .ok (.idiv, 1) := by decide +kernel
theorem d_TuneSetterModel_parts_25 : decode b_TuneSetterModel_parts 25 = .ok (.imul, 1) := by decide +kernel
theorem d_TuneSetterModel_parts_26 : decode b_TuneSetterModel_parts 26 = .ok (.aload_n 0, 1) := by decide +kernel
theorem d_TuneSetterModel_parts_27 : decode b_TuneSetterModel_parts 27 = .ok (.getfield 103, 3) := by decide +kernel
theorem d_TuneSetterModel_parts_30 : decode b_TuneSetterModel_parts 30 = .ok (.ifCond .le 7, 3) := by decide +kernel
theorem d_TuneSetterModel_parts_33 : decode b_TuneSetterModel_parts 33 = .ok (.iconst 2, 1) := by decide +kernel
theorem d_TuneSetterModel_parts_34 : decode b_TuneSetterModel_parts 34 = .ok (.goto 4, 3) := by decide +kernel
theorem d_TuneSetterModel_parts_37 : decode b_TuneSetterModel_parts 37 = .ok (.iconst 1, 1) := by decide +kernel
theorem d_TuneSetterModel_parts_38 : decode b_TuneSetterModel_parts 38 = .ok (.imul, 1) := by decide +kernel
theorem d_TuneSetterModel_parts_39 : decode b_TuneSetterModel_parts 39 = .ok (.ireturn, 1) := by decide +kernel
def w_TuneSetterModel_parts : List Cond := .code y_TuneSetterModel_parts b_TuneSetterModel_parts 2 (some .int) :: WALL
theorem g_TuneSetterModel_parts : GoodIn WALL w_TuneSetterModel_parts := good_of mc_TuneSetterModel_parts
set_option maxHeartbeats 4000000 in
set_option maxRecDepth 100000 in
theorem c_TuneSetterModel_parts (l : Launch) (D : va_G) (cA a : Nat → Nat) (sz : Nat) (I : Nat → Int32) (A : Nat → Nat → Int32) (post : Int32 → (Nat → Int32) → (Nat → Nat → Int32) → Prop) (h : wp_TuneSetterModel_parts I A post) : Met l y_TuneSetterModel_parts w_TuneSetterModel_parts ({ frames := 0, cells := 0, slots := 0, locals := 0 }) (va_Pc [.ref (a 0)] (PreR D cA a I A sz)) (va_Qi (fun r (u : StW) => post r u.1 u.2) (EndR D cA a) (AR a sz)) 0 0 (AR a sz) := by
  refine Met.ofW (cc := b_TuneSetterModel_parts) (maxL := 2) (ret := (some .int)) (by decide) rfl ?_
  intro p e s m args below meth c s₁ B hml hv
  obtain ⟨rfl, hsz, hP, hK, hD0⟩ := hv
  have hx := B.exec
  have hb := B.bytes
  have hr := B.returns
  have hts := atoms_spec (ws := w_TuneSetterModel_parts) B.pre
  have hw := wall_of hts
  have hown : s.vm.findClass R_TuneSetterModel = some m.cls := findClass_of_methodNamed B.named
  have hlocks := B.notSynchronized
  subst hsz
  have hD := hDR (sz := s.heap.size) hD0
  have hA : ∀ q : Nat, s.heap.size ≤ q → AR a s.heap.size q := fun q h => Or.inr h
  have hS : va_S (AR a s.heap.size) s.heap s.heap [] := va_S.rf
  have j15 : ∀ (s0 : Int32) (I : Nat → Int32) (A : Nat → Nat → Int32) (H : Heap) (locs : List Loc) (ls : Array Slot), wp_TuneSetterModel_parts_15 post s0 I A → va_P D cls (wR cA a I A) H → va_S (AR a s.heap.size) s.heap H locs → lv_has ls 2 [(0, .ref (a 0))] → W p l e (headSpec w_TuneSetterModel_parts ({ frames := 0, cells := 0, slots := 0, locals := 0 })).room s m [.ref (a 0)].toArray below meth c H locs 0 0 (MQ below (va_Qi (fun r (u : StW) => post r u.1 u.2) (EndR D cA a) (AR a s.heap.size)) [.ref (a 0)].toArray s 0 0 (AR a s.heap.size)) (F0 m 15 ls [.int s0]) := by
    intro s0 I A H locs ls h hP hS hl
    unfold wp_TuneSetterModel_parts_15 at h
    refine lv_istore_n (lv' := [(1, .int s0), (0, .ref (a 0))]) hx hb d_TuneSetterModel_parts_15 rfl hl (by decide) rfl (fun ls hl => ?_)
    refine lv_iload_n hx hb d_TuneSetterModel_parts_16 rfl (lv_at hl 0 rfl) ?_
    refine lv_sipush (v := 384) hx hb d_TuneSetterModel_parts_17 sp_384 ?_
    refine lv_aload_n hx hb d_TuneSetterModel_parts_20 rfl (lv_at hl 1 rfl) ?_
    refine gR_TuneSetterModel_u hx hb hw hown hK hP (hw _ m_TuneSetterModel_16) d_TuneSetterModel_parts_21 ?_
    obtain ⟨hne, h⟩ := h
    refine lv_idiv hx hb d_TuneSetterModel_parts_24 hne ?_
    refine lv_imul hx hb d_TuneSetterModel_parts_25 ?_
    refine lv_aload_n hx hb d_TuneSetterModel_parts_26 rfl (lv_at hl 1 rfl) ?_
    refine gR_TuneSetterModel_triplet hx hb hw hown hK hP (hw _ m_TuneSetterModel_103) d_TuneSetterModel_parts_27 ?_
    refine lv_if_le (tgt := 37) hx hb d_TuneSetterModel_parts_30 rfl (fun q => ?_) (fun q => ?_)
    · have h := h.1 q
      refine lv_iconst (v := 1) hx hb d_TuneSetterModel_parts_37 ic_1 ?_
      refine lv_imul hx hb d_TuneSetterModel_parts_38 ?_
      exact W.iret hx hb hr (fun t ht hW => ⟨⟨_, (I, A), rfl, h, endR_of ht hP⟩, hS.F ht⟩) hS.2.2 d_TuneSetterModel_parts_39
    · have h := h.2 q
      refine lv_iconst (v := 2) hx hb d_TuneSetterModel_parts_33 ic_2 ?_
      refine lv_goto (tgt := 38) hx hb d_TuneSetterModel_parts_34 rfl ?_
      refine lv_imul hx hb d_TuneSetterModel_parts_38 ?_
      exact W.iret hx hb hr (fun t ht hW => ⟨⟨_, (I, A), rfl, h, endR_of ht hP⟩, hS.F ht⟩) hS.2.2 d_TuneSetterModel_parts_39
  have hl := lv_entry ([.ref (a 0)]) (n := 2) (Nat.le_of_ble_eq_true rfl)
  rw [lg_entry_eq]
  generalize (lg_sl ([.ref (a 0)]) ++ List.replicate (2 - (lg_sl ([.ref (a 0)])).length) Slot.unset).toArray = ls at hl ⊢
  have hl : lv_has ls 2 [(0, .ref (a 0))] := hl
  unfold wp_TuneSetterModel_parts at h
  refine lv_aload_n hx hb d_TuneSetterModel_parts_0 rfl (lv_at hl 0 rfl) ?_
  refine gR_TuneSetterModel_topDigits hx hb hw hown hK hP (hw _ m_TuneSetterModel_134) d_TuneSetterModel_parts_1 ?_
  refine lv_if_ne (tgt := 11) hx hb d_TuneSetterModel_parts_4 rfl (fun q => ?_) (fun q => ?_)
  · have h := h.2 q
    refine lv_aload_n hx hb d_TuneSetterModel_parts_11 rfl (lv_at hl 0 rfl) ?_
    refine gR_TuneSetterModel_top hx hb hw hown hK hP (hw _ m_TuneSetterModel_232) d_TuneSetterModel_parts_12 ?_
    exact j15 (I 19) I A _ _ _ h hP hS (lv_sub hl [0] rfl)
  · have h := h.1 q
    refine lv_iconst (v := 1) hx hb d_TuneSetterModel_parts_7 ic_1 ?_
    refine lv_goto (tgt := 15) hx hb d_TuneSetterModel_parts_8 rfl ?_
    exact j15 1 I A _ _ _ h hP hS (lv_sub hl [0] rfl)
theorem k_TuneSetterModel_parts {p : Program} {l : Launch} {e : Env} {R : Room} {s : State} {m : MethodId} {args : Array Value} {below : List Frame} {meth : Method} {c : Code} {H : Heap} {locs : List Loc} {cells slots : Nat} {Q : State → Prop} {cc : ByteArray} {pc nL idx : Nat} {own : String} {ls : Array Slot} {D : va_G} {cA a : Nat → Nat} {AA : Nat → Prop} {I : Nat → Int32} {A : Nat → Nat → Int32} {post : Int32 → (Nat → Int32) → (Nat → Nat → Int32) → Prop} {rest : List Value} (S : CallFix p m c cc nL s args WALL own) (hK : KR D cA a AA s) (hD : ∀ I A, va_D AA (wR cA a I A)) (hA : ∀ q : Nat, s.heap.size ≤ q → AA q) (hS : va_S AA s.heap H locs) (hP : va_P D cls (wR cA a I A) H) (hl1 : ls.size = nL) (hlink : (Cond.methodLink own idx y_TuneSetterModel_parts).before args s = true) (hst : (rest.map fun v => v.category).sum ≤ 8) (hR : ({ frames := 0, cells := 0, slots := 0, locals := 0 } : Room).frames + 1 ≤ R.frames ∧ 8 + (2 + 11) + ({ frames := 0, cells := 0, slots := 0, locals := 0 } : Room).locals ≤ R.locals) (hcs : cells ≤ R.cells ∧ slots ≤ R.slots) (hdg : decode cc pc = .ok (.invokevirtual idx, 3)) (h : wp_TuneSetterModel_parts I A post) (kk : ∀ (r : Int32) (I1 : Nat → Int32) (A1 : Nat → Nat → Int32) (H1 : Heap) (locs1 : List Loc), post r I1 A1 → va_P D cls (wR cA a I1 A1) H1 → va_S AA s.heap H1 locs1 → W p l e R s m args below meth c H1 locs1 cells slots Q (F0 m (pc + 3) ls (.int r :: rest))) : W p l e R s m args below meth c H locs cells slots Q (F0 m pc ls (.ref (a 0) :: rest)) :=
  va_calli (va_runV (As := []) (rest := rest) S (c_TuneSetterModel_parts l D cA a H.size I A post h) ⟨callB_of 0 S.2.2.2.2 g_TuneSetterModel_parts rfl rfl rfl (S.2.2.2.2 _ mi_TuneSetterModel) hlink ⟨by decide, by decide, by decide +kernel⟩ hR, S.2.2.2.2 _ mn_TuneSetterModel_parts, S.2.2.2.2 _ ms_TuneSetterModel_parts⟩ (preRV hK hD hA hS hP 0 rfl rfl) rfl rfl hl1 rfl (lv_room hst) hdg hcs) hS (fun q _ z => AR_le hD hA hS q z) (fun q z => AR_le hD hA hS q z) (fun r u t H1 locs1 ht _ hp hB _ _ hS1 => kk r u.1 u.2 H1 locs1 hp (of_endR ht hB) hS1)
def wp_TuneSetterModel_divisor_26 (post : Int32 → (Nat → Int32) → (Nat → Nat → Int32) → Prop) (s0 : Int32) (I : Nat → Int32) (A : Nat → Nat → Int32) : Prop := (((I 13) ≤ 0 → post (s0 * 1) I A) ∧ (¬ (I 13) ≤ 0 → post (s0 * 3) I A))
def wp_TuneSetterModel_divisor (I : Nat → Int32) (A : Nat → Nat → Int32) (post : Int32 → (Nat → Int32) → (Nat → Nat → Int32) → Prop) : Prop := (((I 21) = 0 → wp_TuneSetterModel_divisor_26 post 1 I A) ∧ (¬ (I 21) = 0 → (((I 23) = 0 → wp_TuneSetterModel_divisor_26 post 2 I A) ∧ (¬ (I 23) = 0 → wp_TuneSetterModel_divisor_26 post (I 22) I A))))
theorem d_TuneSetterModel_divisor_0 : decode b_TuneSetterModel_divisor 0 = .ok (.aload_n 0, 1) := by decide +kernel
theorem d_TuneSetterModel_divisor_1 : decode b_TuneSetterModel_divisor 1 = .ok (.getfield 125, 3) := by decide +kernel
theorem d_TuneSetterModel_divisor_4 : decode b_TuneSetterModel_divisor 4 = .ok (.ifCond .ne 7, 3) := by decide +kernel
theorem d_TuneSetterModel_divisor_7 : decode b_TuneSetterModel_divisor 7 = .ok (.iconst 1, 1) := by decide +kernel
theorem d_TuneSetterModel_divisor_8 : decode b_TuneSetterModel_divisor 8 = .ok (.goto 18, 3) := by decide +kernel
theorem d_TuneSetterModel_divisor_11 : decode b_TuneSetterModel_divisor 11 = .ok (.aload_n 0, 1) := by decide +kernel
theorem d_TuneSetterModel_divisor_12 : decode b_TuneSetterModel_divisor 12 = .ok (.getfield 131, 3) := by decide +kernel
theorem d_TuneSetterModel_divisor_15 : decode b_TuneSetterModel_divisor 15 = .ok (.ifCond .ne 7, 3) := by decide +kernel
theorem d_TuneSetterModel_divisor_18 : decode b_TuneSetterModel_divisor 18 = .ok (.iconst 2, 1) := by decide +kernel
theorem d_TuneSetterModel_divisor_19 : decode b_TuneSetterModel_divisor 19 = .ok (.goto 7, 3) := by decide +kernel
theorem d_TuneSetterModel_divisor_22 : decode b_TuneSetterModel_divisor 22 = .ok (.aload_n 0, 1) := by decide +kernel
theorem d_TuneSetterModel_divisor_23 : decode b_TuneSetterModel_divisor 23 = .ok (.getfield 235, 3) := by decide +kernel
theorem d_TuneSetterModel_divisor_26 : decode b_TuneSetterModel_divisor 26 = .ok (.istore_n 1, 1) := by decide +kernel
theorem d_TuneSetterModel_divisor_27 : decode b_TuneSetterModel_divisor 27 = .ok (.iload_n 1, 1) := by decide +kernel
theorem d_TuneSetterModel_divisor_28 : decode b_TuneSetterModel_divisor 28 = .ok (.aload_n 0, 1) := by decide +kernel
theorem d_TuneSetterModel_divisor_29 : decode b_TuneSetterModel_divisor 29 = .ok (.getfield 103, 3) := by decide +kernel
theorem d_TuneSetterModel_divisor_32 : decode b_TuneSetterModel_divisor 32 = .ok (.ifCond .le 7, 3) := by decide +kernel
theorem d_TuneSetterModel_divisor_35 : decode b_TuneSetterModel_divisor 35 = .ok (.iconst 3, 1) := by decide +kernel
theorem d_TuneSetterModel_divisor_36 : decode b_TuneSetterModel_divisor 36 = .ok (.goto 4, 3) := by decide +kernel
theorem d_TuneSetterModel_divisor_39 : decode b_TuneSetterModel_divisor 39 = .ok (.iconst 1, 1) := by decide +kernel
theorem d_TuneSetterModel_divisor_40 : decode b_TuneSetterModel_divisor 40 = .ok (.imul, 1) := by decide +kernel
theorem d_TuneSetterModel_divisor_41 : decode b_TuneSetterModel_divisor 41 = .ok (.ireturn, 1) := by decide +kernel
def w_TuneSetterModel_divisor : List Cond := .code y_TuneSetterModel_divisor b_TuneSetterModel_divisor 2 (some .int) :: WALL
theorem g_TuneSetterModel_divisor : GoodIn WALL w_TuneSetterModel_divisor := good_of mc_TuneSetterModel_divisor
set_option maxHeartbeats 4000000 in
set_option maxRecDepth 100000 in
theorem c_TuneSetterModel_divisor (l : Launch) (D : va_G) (cA a : Nat → Nat) (sz : Nat) (I : Nat → Int32) (A : Nat → Nat → Int32) (post : Int32 → (Nat → Int32) → (Nat → Nat → Int32) → Prop) (h : wp_TuneSetterModel_divisor I A post) : Met l y_TuneSetterModel_divisor w_TuneSetterModel_divisor ({ frames := 0, cells := 0, slots := 0, locals := 0 }) (va_Pc [.ref (a 0)] (PreR D cA a I A sz)) (va_Qi (fun r (u : StW) => post r u.1 u.2) (EndR D cA a) (AR a sz)) 0 0 (AR a sz) := by
  refine Met.ofW (cc := b_TuneSetterModel_divisor) (maxL := 2) (ret := (some .int)) (by decide) rfl ?_
  intro p e s m args below meth c s₁ B hml hv
  obtain ⟨rfl, hsz, hP, hK, hD0⟩ := hv
  have hx := B.exec
  have hb := B.bytes
  have hr := B.returns
  have hts := atoms_spec (ws := w_TuneSetterModel_divisor) B.pre
  have hw := wall_of hts
  have hown : s.vm.findClass R_TuneSetterModel = some m.cls := findClass_of_methodNamed B.named
  have hlocks := B.notSynchronized
  subst hsz
  have hD := hDR (sz := s.heap.size) hD0
  have hA : ∀ q : Nat, s.heap.size ≤ q → AR a s.heap.size q := fun q h => Or.inr h
  have hS : va_S (AR a s.heap.size) s.heap s.heap [] := va_S.rf
  have j26 : ∀ (s0 : Int32) (I : Nat → Int32) (A : Nat → Nat → Int32) (H : Heap) (locs : List Loc) (ls : Array Slot), wp_TuneSetterModel_divisor_26 post s0 I A → va_P D cls (wR cA a I A) H → va_S (AR a s.heap.size) s.heap H locs → lv_has ls 2 [(0, .ref (a 0))] → W p l e (headSpec w_TuneSetterModel_divisor ({ frames := 0, cells := 0, slots := 0, locals := 0 })).room s m [.ref (a 0)].toArray below meth c H locs 0 0 (MQ below (va_Qi (fun r (u : StW) => post r u.1 u.2) (EndR D cA a) (AR a s.heap.size)) [.ref (a 0)].toArray s 0 0 (AR a s.heap.size)) (F0 m 26 ls [.int s0]) := by
    intro s0 I A H locs ls h hP hS hl
    unfold wp_TuneSetterModel_divisor_26 at h
    refine lv_istore_n (lv' := [(1, .int s0), (0, .ref (a 0))]) hx hb d_TuneSetterModel_divisor_26 rfl hl (by decide) rfl (fun ls hl => ?_)
    refine lv_iload_n hx hb d_TuneSetterModel_divisor_27 rfl (lv_at hl 0 rfl) ?_
    refine lv_aload_n hx hb d_TuneSetterModel_divisor_28 rfl (lv_at hl 1 rfl) ?_
    refine gR_TuneSetterModel_triplet hx hb hw hown hK hP (hw _ m_TuneSetterModel_103) d_TuneSetterModel_divisor_29 ?_
    refine lv_if_le (tgt := 39) hx hb d_TuneSetterModel_divisor_32 rfl (fun q => ?_) (fun q => ?_)
    · have h := h.1 q
      refine lv_iconst (v := 1) hx hb d_TuneSetterModel_divisor_39 ic_1 ?_
      refine lv_imul hx hb d_TuneSetterModel_divisor_40 ?_
      exact W.iret hx hb hr (fun t ht hW => ⟨⟨_, (I, A), rfl, h, endR_of ht hP⟩, hS.F ht⟩) hS.2.2 d_TuneSetterModel_divisor_41
    · have h := h.2 q
      refine lv_iconst (v := 3) hx hb d_TuneSetterModel_divisor_35 ic_3 ?_
      refine lv_goto (tgt := 40) hx hb d_TuneSetterModel_divisor_36 rfl ?_
      refine lv_imul hx hb d_TuneSetterModel_divisor_40 ?_
      exact W.iret hx hb hr (fun t ht hW => ⟨⟨_, (I, A), rfl, h, endR_of ht hP⟩, hS.F ht⟩) hS.2.2 d_TuneSetterModel_divisor_41
  have hl := lv_entry ([.ref (a 0)]) (n := 2) (Nat.le_of_ble_eq_true rfl)
  rw [lg_entry_eq]
  generalize (lg_sl ([.ref (a 0)]) ++ List.replicate (2 - (lg_sl ([.ref (a 0)])).length) Slot.unset).toArray = ls at hl ⊢
  have hl : lv_has ls 2 [(0, .ref (a 0))] := hl
  unfold wp_TuneSetterModel_divisor at h
  refine lv_aload_n hx hb d_TuneSetterModel_divisor_0 rfl (lv_at hl 0 rfl) ?_
  refine gR_TuneSetterModel_slash hx hb hw hown hK hP (hw _ m_TuneSetterModel_125) d_TuneSetterModel_divisor_1 ?_
  refine lv_if_ne (tgt := 11) hx hb d_TuneSetterModel_divisor_4 rfl (fun q => ?_) (fun q => ?_)
  · have h := h.2 q
    refine lv_aload_n hx hb d_TuneSetterModel_divisor_11 rfl (lv_at hl 0 rfl) ?_
    refine gR_TuneSetterModel_belowDigits hx hb hw hown hK hP (hw _ m_TuneSetterModel_131) d_TuneSetterModel_divisor_12 ?_
    refine lv_if_ne (tgt := 22) hx hb d_TuneSetterModel_divisor_15 rfl (fun q => ?_) (fun q => ?_)
    · have h := h.2 q
      refine lv_aload_n hx hb d_TuneSetterModel_divisor_22 rfl (lv_at hl 0 rfl) ?_
      refine gR_TuneSetterModel_below hx hb hw hown hK hP (hw _ m_TuneSetterModel_235) d_TuneSetterModel_divisor_23 ?_
      exact j26 (I 22) I A _ _ _ h hP hS (lv_sub hl [0] rfl)
    · have h := h.1 q
      refine lv_iconst (v := 2) hx hb d_TuneSetterModel_divisor_18 ic_2 ?_
      refine lv_goto (tgt := 26) hx hb d_TuneSetterModel_divisor_19 rfl ?_
      exact j26 2 I A _ _ _ h hP hS (lv_sub hl [0] rfl)
  · have h := h.1 q
    refine lv_iconst (v := 1) hx hb d_TuneSetterModel_divisor_7 ic_1 ?_
    refine lv_goto (tgt := 26) hx hb d_TuneSetterModel_divisor_8 rfl ?_
    exact j26 1 I A _ _ _ h hP hS (lv_sub hl [0] rfl)
theorem k_TuneSetterModel_divisor {p : Program} {l : Launch} {e : Env} {R : Room} {s : State} {m : MethodId} {args : Array Value} {below : List Frame} {meth : Method} {c : Code} {H : Heap} {locs : List Loc} {cells slots : Nat} {Q : State → Prop} {cc : ByteArray} {pc nL idx : Nat} {own : String} {ls : Array Slot} {D : va_G} {cA a : Nat → Nat} {AA : Nat → Prop} {I : Nat → Int32} {A : Nat → Nat → Int32} {post : Int32 → (Nat → Int32) → (Nat → Nat → Int32) → Prop} {rest : List Value} (S : CallFix p m c cc nL s args WALL own) (hK : KR D cA a AA s) (hD : ∀ I A, va_D AA (wR cA a I A)) (hA : ∀ q : Nat, s.heap.size ≤ q → AA q) (hS : va_S AA s.heap H locs) (hP : va_P D cls (wR cA a I A) H) (hl1 : ls.size = nL) (hlink : (Cond.methodLink own idx y_TuneSetterModel_divisor).before args s = true) (hst : (rest.map fun v => v.category).sum ≤ 8) (hR : ({ frames := 0, cells := 0, slots := 0, locals := 0 } : Room).frames + 1 ≤ R.frames ∧ 8 + (2 + 11) + ({ frames := 0, cells := 0, slots := 0, locals := 0 } : Room).locals ≤ R.locals) (hcs : cells ≤ R.cells ∧ slots ≤ R.slots) (hdg : decode cc pc = .ok (.invokevirtual idx, 3)) (h : wp_TuneSetterModel_divisor I A post) (kk : ∀ (r : Int32) (I1 : Nat → Int32) (A1 : Nat → Nat → Int32) (H1 : Heap) (locs1 : List Loc), post r I1 A1 → va_P D cls (wR cA a I1 A1) H1 → va_S AA s.heap H1 locs1 → W p l e R s m args below meth c H1 locs1 cells slots Q (F0 m (pc + 3) ls (.int r :: rest))) : W p l e R s m args below meth c H locs cells slots Q (F0 m pc ls (.ref (a 0) :: rest)) :=
  va_calli (va_runV (As := []) (rest := rest) S (c_TuneSetterModel_divisor l D cA a H.size I A post h) ⟨callB_of 0 S.2.2.2.2 g_TuneSetterModel_divisor rfl rfl rfl (S.2.2.2.2 _ mi_TuneSetterModel) hlink ⟨by decide, by decide, by decide +kernel⟩ hR, S.2.2.2.2 _ mn_TuneSetterModel_divisor, S.2.2.2.2 _ ms_TuneSetterModel_divisor⟩ (preRV hK hD hA hS hP 0 rfl rfl) rfl rfl hl1 rfl (lv_room hst) hdg hcs) hS (fun q _ z => AR_le hD hA hS q z) (fun q z => AR_le hD hA hS q z) (fun r u t H1 locs1 ht _ hp hB _ _ hS1 => kk r u.1 u.2 H1 locs1 hp (of_endR ht hB) hS1)
def wp_TuneSetterModel_hasLength (I : Nat → Int32) (A : Nat → Nat → Int32) (post : Int32 → (Nat → Int32) → (Nat → Nat → Int32) → Prop) : Prop := (wp_TuneSetterModel_parts I A (fun r1 I1 A1 => (wp_TuneSetterModel_divisor I1 A1 (fun r6 I6 A6 => ((r6 ≤ 0 → post 0 I6 A6) ∧ (¬ r6 ≤ 0 → ((r1 ≤ 0 → post 0 I6 A6) ∧ (¬ r1 ≤ 0 → (¬ r6 = 0 ∧ (((r1 - r1 / r6 * r6) = 0 → (¬ r6 = 0 ∧ ((1536 < (r1 / r6) → post 0 I6 A6) ∧ (¬ 1536 < (r1 / r6) → post 1 I6 A6)))) ∧ (¬ (r1 - r1 / r6 * r6) = 0 → post 0 I6 A6)))))))))))
theorem d_TuneSetterModel_hasLength_0 : decode b_TuneSetterModel_hasLength 0 = .ok (.aload_n 0, 1) := by decide +kernel
theorem d_TuneSetterModel_hasLength_1 : decode b_TuneSetterModel_hasLength 1 = .ok (.invokevirtual 238, 3) := by decide +kernel
theorem d_TuneSetterModel_hasLength_4 : decode b_TuneSetterModel_hasLength 4 = .ok (.istore_n 1, 1) := by decide +kernel
theorem d_TuneSetterModel_hasLength_5 : decode b_TuneSetterModel_hasLength 5 = .ok (.aload_n 0, 1) := by decide +kernel
theorem d_TuneSetterModel_hasLength_6 : decode b_TuneSetterModel_hasLength 6 = .ok (.invokevirtual 241, 3) := by decide +kernel
theorem d_TuneSetterModel_hasLength_9 : decode b_TuneSetterModel_hasLength 9 = .ok (.istore_n 2, 1) := by decide +kernel
theorem d_TuneSetterModel_hasLength_10 : decode b_TuneSetterModel_hasLength 10 = .ok (.iload_n 2, 1) := by decide +kernel
theorem d_TuneSetterModel_hasLength_11 : decode b_TuneSetterModel_hasLength 11 = .ok (.ifCond .le 26, 3) := by decide +kernel
theorem d_TuneSetterModel_hasLength_14 : decode b_TuneSetterModel_hasLength 14 = .ok (.iload_n 1, 1) := by decide +kernel
theorem d_TuneSetterModel_hasLength_15 : decode b_TuneSetterModel_hasLength 15 = .ok (.ifCond .le 22, 3) := by decide +kernel
theorem d_TuneSetterModel_hasLength_18 : decode b_TuneSetterModel_hasLength 18 = .ok (.iload_n 1, 1) := by decide +kernel
theorem d_TuneSetterModel_hasLength_19 : decode b_TuneSetterModel_hasLength 19 = .ok (.iload_n 2, 1) := by decide +kernel
theorem d_TuneSetterModel_hasLength_20 : decode b_TuneSetterModel_hasLength 20 = .ok (.irem, 1) := by decide +kernel
theorem d_TuneSetterModel_hasLength_21 : decode b_TuneSetterModel_hasLength 21 = .ok (.ifCond .ne 16, 3) := by decide +kernel
theorem d_TuneSetterModel_hasLength_24 : decode b_TuneSetterModel_hasLength 24 = .ok (.iload_n 1, 1) := by decide +kernel
theorem d_TuneSetterModel_hasLength_25 : decode b_TuneSetterModel_hasLength 25 = .ok (.iload_n 2, 1) := by decide +kernel
theorem d_TuneSetterModel_hasLength_26 : decode b_TuneSetterModel_hasLength 26 = .ok (.idiv, 1) := by decide +kernel
theorem d_TuneSetterModel_hasLength_27 : decode b_TuneSetterModel_hasLength 27 = .ok (.sipush 1536, 3) := by decide +kernel
theorem d_TuneSetterModel_hasLength_30 : decode b_TuneSetterModel_hasLength 30 = .ok (.if_icmp .gt 7, 3) := by decide +kernel
theorem d_TuneSetterModel_hasLength_33 : decode b_TuneSetterModel_hasLength 33 = .ok (.iconst 1, 1) := by decide +kernel
theorem d_TuneSetterModel_hasLength_34 : decode b_TuneSetterModel_hasLength 34 = .ok (.goto 4, 3) := by decide +kernel
theorem d_TuneSetterModel_hasLength_37 : decode b_TuneSetterModel_hasLength 37 = .ok (.iconst 0, 1) := by decide +kernel
theorem d_TuneSetterModel_hasLength_38 : decode b_TuneSetterModel_hasLength 38 = .ok (.ireturn, 1) := by decide +kernel
def w_TuneSetterModel_hasLength : List Cond := .code y_TuneSetterModel_hasLength b_TuneSetterModel_hasLength 3 (some .boolean) :: WALL
theorem g_TuneSetterModel_hasLength : GoodIn WALL w_TuneSetterModel_hasLength := good_of mc_TuneSetterModel_hasLength
set_option maxHeartbeats 4000000 in
set_option maxRecDepth 100000 in
theorem c_TuneSetterModel_hasLength (l : Launch) (D : va_G) (cA a : Nat → Nat) (sz : Nat) (I : Nat → Int32) (A : Nat → Nat → Int32) (post : Int32 → (Nat → Int32) → (Nat → Nat → Int32) → Prop) (h : wp_TuneSetterModel_hasLength I A post) : Met l y_TuneSetterModel_hasLength w_TuneSetterModel_hasLength ({ frames := 1, cells := 0, slots := 0, locals := 21 }) (va_Pc [.ref (a 0)] (PreR D cA a I A sz)) (va_Qi (fun r (u : StW) => post r u.1 u.2) (EndR D cA a) (AR a sz)) 0 0 (AR a sz) := by
  refine Met.ofW (cc := b_TuneSetterModel_hasLength) (maxL := 3) (ret := (some .boolean)) (by decide) rfl ?_
  intro p e s m args below meth c s₁ B hml hv
  obtain ⟨rfl, hsz, hP, hK, hD0⟩ := hv
  have hx := B.exec
  have hb := B.bytes
  have hr := B.returns
  have hts := atoms_spec (ws := w_TuneSetterModel_hasLength) B.pre
  have hw := wall_of hts
  have hown : s.vm.findClass R_TuneSetterModel = some m.cls := findClass_of_methodNamed B.named
  have hlocks := B.notSynchronized
  subst hsz
  have hD := hDR (sz := s.heap.size) hD0
  have hA : ∀ q : Nat, s.heap.size ≤ q → AR a s.heap.size q := fun q h => Or.inr h
  have hS : va_S (AR a s.heap.size) s.heap s.heap [] := va_S.rf
  have hl := lv_entry ([.ref (a 0)]) (n := 3) (Nat.le_of_ble_eq_true rfl)
  rw [lg_entry_eq]
  generalize (lg_sl ([.ref (a 0)]) ++ List.replicate (3 - (lg_sl ([.ref (a 0)])).length) Slot.unset).toArray = ls at hl ⊢
  have hl : lv_has ls 3 [(0, .ref (a 0))] := hl
  unfold wp_TuneSetterModel_hasLength at h
  refine lv_aload_n hx hb d_TuneSetterModel_hasLength_0 rfl (lv_at hl 0 rfl) ?_
  refine k_TuneSetterModel_parts (rest := []) ⟨hx, hb, hml, hown, hw⟩ hK hD hA hS hP hl.1 (hw _ m_TuneSetterModel_238) (Nat.le_of_ble_eq_true rfl) ⟨Nat.le_of_ble_eq_true rfl, Nat.le_of_ble_eq_true rfl⟩ ⟨Nat.zero_le _, Nat.zero_le _⟩ d_TuneSetterModel_hasLength_1 h (fun r1 I1 A1 H locs h hP hS => ?_)
  refine lv_istore_n (lv' := [(1, .int r1), (0, .ref (a 0))]) hx hb d_TuneSetterModel_hasLength_4 rfl hl (by decide) rfl (fun ls hl => ?_)
  refine lv_aload_n hx hb d_TuneSetterModel_hasLength_5 rfl (lv_at hl 1 rfl) ?_
  refine k_TuneSetterModel_divisor (rest := []) ⟨hx, hb, hml, hown, hw⟩ hK hD hA hS hP hl.1 (hw _ m_TuneSetterModel_241) (Nat.le_of_ble_eq_true rfl) ⟨Nat.le_of_ble_eq_true rfl, Nat.le_of_ble_eq_true rfl⟩ ⟨Nat.zero_le _, Nat.zero_le _⟩ d_TuneSetterModel_hasLength_6 h (fun r6 I6 A6 H locs h hP hS => ?_)
  refine lv_istore_n (lv' := [(2, .int r6), (1, .int r1), (0, .ref (a 0))]) hx hb d_TuneSetterModel_hasLength_9 rfl hl (by decide) rfl (fun ls hl => ?_)
  refine lv_iload_n hx hb d_TuneSetterModel_hasLength_10 rfl (lv_at hl 0 rfl) ?_
  refine lv_if_le (tgt := 37) hx hb d_TuneSetterModel_hasLength_11 rfl (fun q => ?_) (fun q => ?_)
  · have h := h.1 q
    refine lv_iconst (v := 0) hx hb d_TuneSetterModel_hasLength_37 ic_0 ?_
    exact W.zret hx hb hr (vz_n vz0) (fun t ht hW => ⟨⟨_, (I6, A6), rfl, h, endR_of ht hP⟩, hS.F ht⟩) hS.2.2 d_TuneSetterModel_hasLength_38
  · have h := h.2 q
    refine lv_iload_n hx hb d_TuneSetterModel_hasLength_14 rfl (lv_at hl 1 rfl) ?_
    refine lv_if_le (tgt := 37) hx hb d_TuneSetterModel_hasLength_15 rfl (fun q => ?_) (fun q => ?_)
    · have h := h.1 q
      refine lv_iconst (v := 0) hx hb d_TuneSetterModel_hasLength_37 ic_0 ?_
      exact W.zret hx hb hr (vz_n vz0) (fun t ht hW => ⟨⟨_, (I6, A6), rfl, h, endR_of ht hP⟩, hS.F ht⟩) hS.2.2 d_TuneSetterModel_hasLength_38
    · have h := h.2 q
      refine lv_iload_n hx hb d_TuneSetterModel_hasLength_18 rfl (lv_at hl 1 rfl) ?_
      refine lv_iload_n hx hb d_TuneSetterModel_hasLength_19 rfl (lv_at hl 0 rfl) ?_
      obtain ⟨hne, h⟩ := h
      refine lv_irem hx hb d_TuneSetterModel_hasLength_20 hne ?_
      refine lv_if_ne (tgt := 37) hx hb d_TuneSetterModel_hasLength_21 rfl (fun q => ?_) (fun q => ?_)
      · have h := h.2 q
        refine lv_iconst (v := 0) hx hb d_TuneSetterModel_hasLength_37 ic_0 ?_
        exact W.zret hx hb hr (vz_n vz0) (fun t ht hW => ⟨⟨_, (I6, A6), rfl, h, endR_of ht hP⟩, hS.F ht⟩) hS.2.2 d_TuneSetterModel_hasLength_38
      · have h := h.1 q
        refine lv_iload_n hx hb d_TuneSetterModel_hasLength_24 rfl (lv_at hl 1 rfl) ?_
        refine lv_iload_n hx hb d_TuneSetterModel_hasLength_25 rfl (lv_at hl 0 rfl) ?_
        obtain ⟨hne, h⟩ := h
        refine lv_idiv hx hb d_TuneSetterModel_hasLength_26 hne ?_
        refine lv_sipush (v := 1536) hx hb d_TuneSetterModel_hasLength_27 sp_1536 ?_
        refine lv_icmp_gt (tgt := 37) hx hb d_TuneSetterModel_hasLength_30 rfl (fun q => ?_) (fun q => ?_)
        · have h := h.1 q
          refine lv_iconst (v := 0) hx hb d_TuneSetterModel_hasLength_37 ic_0 ?_
          exact W.zret hx hb hr (vz_n vz0) (fun t ht hW => ⟨⟨_, (I6, A6), rfl, h, endR_of ht hP⟩, hS.F ht⟩) hS.2.2 d_TuneSetterModel_hasLength_38
        · have h := h.2 q
          refine lv_iconst (v := 1) hx hb d_TuneSetterModel_hasLength_33 ic_1 ?_
          refine lv_goto (tgt := 38) hx hb d_TuneSetterModel_hasLength_34 rfl ?_
          exact W.zret hx hb hr (vz_n vz1) (fun t ht hW => ⟨⟨_, (I6, A6), rfl, h, endR_of ht hP⟩, hS.F ht⟩) hS.2.2 d_TuneSetterModel_hasLength_38
theorem k_TuneSetterModel_hasLength {p : Program} {l : Launch} {e : Env} {R : Room} {s : State} {m : MethodId} {args : Array Value} {below : List Frame} {meth : Method} {c : Code} {H : Heap} {locs : List Loc} {cells slots : Nat} {Q : State → Prop} {cc : ByteArray} {pc nL idx : Nat} {own : String} {ls : Array Slot} {D : va_G} {cA a : Nat → Nat} {AA : Nat → Prop} {I : Nat → Int32} {A : Nat → Nat → Int32} {post : Int32 → (Nat → Int32) → (Nat → Nat → Int32) → Prop} {rest : List Value} (S : CallFix p m c cc nL s args WALL own) (hK : KR D cA a AA s) (hD : ∀ I A, va_D AA (wR cA a I A)) (hA : ∀ q : Nat, s.heap.size ≤ q → AA q) (hS : va_S AA s.heap H locs) (hP : va_P D cls (wR cA a I A) H) (hl1 : ls.size = nL) (hlink : (Cond.methodLink own idx y_TuneSetterModel_hasLength).before args s = true) (hst : (rest.map fun v => v.category).sum ≤ 8) (hR : ({ frames := 1, cells := 0, slots := 0, locals := 21 } : Room).frames + 1 ≤ R.frames ∧ 8 + (3 + 11) + ({ frames := 1, cells := 0, slots := 0, locals := 21 } : Room).locals ≤ R.locals) (hcs : cells ≤ R.cells ∧ slots ≤ R.slots) (hdg : decode cc pc = .ok (.invokevirtual idx, 3)) (h : wp_TuneSetterModel_hasLength I A post) (kk : ∀ (r : Int32) (I1 : Nat → Int32) (A1 : Nat → Nat → Int32) (H1 : Heap) (locs1 : List Loc), post r I1 A1 → va_P D cls (wR cA a I1 A1) H1 → va_S AA s.heap H1 locs1 → W p l e R s m args below meth c H1 locs1 cells slots Q (F0 m (pc + 3) ls (.int r :: rest))) : W p l e R s m args below meth c H locs cells slots Q (F0 m pc ls (.ref (a 0) :: rest)) :=
  va_calli (va_runV (As := []) (rest := rest) S (c_TuneSetterModel_hasLength l D cA a H.size I A post h) ⟨callB_of 0 S.2.2.2.2 g_TuneSetterModel_hasLength rfl rfl rfl (S.2.2.2.2 _ mi_TuneSetterModel) hlink ⟨by decide, by decide, by decide +kernel⟩ hR, S.2.2.2.2 _ mn_TuneSetterModel_hasLength, S.2.2.2.2 _ ms_TuneSetterModel_hasLength⟩ (preRV hK hD hA hS hP 0 rfl rfl) rfl rfl hl1 rfl (lv_room hst) hdg hcs) hS (fun q _ z => AR_le hD hA hS q z) (fun q z => AR_le hD hA hS q z) (fun r u t H1 locs1 ht _ hp hB _ _ hS1 => kk r u.1 u.2 H1 locs1 hp (of_endR ht hB) hS1)
def wp_TuneSetterModel_placeOf (x1 : Int32) (I : Nat → Int32) (A : Nat → Nat → Int32) (post : Int32 → (Nat → Int32) → (Nat → Nat → Int32) → Prop) : Prop := ((x1 = 5 → post 0 I A) ∧ (¬ x1 = 5 → ((x1 = 2 → post 1 I A) ∧ (¬ x1 = 2 → ((x1 = 6 → post 2 I A) ∧ (¬ x1 = 6 → ((x1 = 3 → post 3 I A) ∧ (¬ x1 = 3 → ((x1 = 0 → post 4 I A) ∧ (¬ x1 = 0 → ((x1 = 4 → post 5 I A) ∧ (¬ x1 = 4 → post 6 I A))))))))))))
theorem d_TuneSetterModel_placeOf_0 : decode b_TuneSetterModel_placeOf 0 = .ok (.iload_n 0, 1) := by decide +kernel
theorem d_TuneSetterModel_placeOf_1 : decode b_TuneSetterModel_placeOf 1 = .ok (.iconst 5, 1) := by decide +kernel
theorem d_TuneSetterModel_placeOf_2 : decode b_TuneSetterModel_placeOf 2 = .ok (.if_icmp .ne 7, 3) := by decide +kernel
theorem d_TuneSetterModel_placeOf_5 : decode b_TuneSetterModel_placeOf 5 = .ok (.iconst 0, 1) := by decide +kernel
theorem d_TuneSetterModel_placeOf_6 : decode b_TuneSetterModel_placeOf 6 = .ok (.goto 50, 3) := by decide +kernel
theorem d_TuneSetterModel_placeOf_9 : decode b_TuneSetterModel_placeOf 9 = .ok (.iload_n 0, 1) := by decide +kernel
theorem d_TuneSetterModel_placeOf_10 : decode b_TuneSetterModel_placeOf 10 = .ok (.iconst 2, 1) := by decide +kernel
theorem d_TuneSetterModel_placeOf_11 : decode b_TuneSetterModel_placeOf 11 = .ok (.if_icmp .ne 7, 3) := by decide +kernel
theorem d_TuneSetterModel_placeOf_14 : decode b_TuneSetterModel_placeOf 14 = .ok (.iconst 1, 1) := by decide +kernel
theorem d_TuneSetterModel_placeOf_15 : decode b_TuneSetterModel_placeOf 15 = .ok (.goto 41, 3) := by decide +kernel
theorem d_TuneSetterModel_placeOf_18 : decode b_TuneSetterModel_placeOf 18 = .ok (.iload_n 0, 1) := by decide +kernel
theorem d_TuneSetterModel_placeOf_19 : decode b_TuneSetterModel_placeOf 19 = .ok (.bipush 6, 2) := by decide +kernel
theorem d_TuneSetterModel_placeOf_21 : decode b_TuneSetterModel_placeOf 21 = .ok (.if_icmp .ne 7, 3) := by decide +kernel
theorem d_TuneSetterModel_placeOf_24 : decode b_TuneSetterModel_placeOf 24 = .ok (.iconst 2, 1) := by decide +kernel
theorem d_TuneSetterModel_placeOf_25 : decode b_TuneSetterModel_placeOf 25 = .ok (.goto 31, 3) := by decide +kernel
theorem d_TuneSetterModel_placeOf_28 : decode b_TuneSetterModel_placeOf 28 = .ok (.iload_n 0, 1) := by decide +kernel
theorem d_TuneSetterModel_placeOf_29 : decode b_TuneSetterModel_placeOf 29 = .ok (.iconst 3, 1) := by decide +kernel
theorem d_TuneSetterModel_placeOf_30 : decode b_TuneSetterModel_placeOf 30 = .ok (.if_icmp .ne 7, 3) := by decide +kernel
theorem d_TuneSetterModel_placeOf_33 : decode b_TuneSetterModel_placeOf 33 = .ok (.iconst 3, 1) := by decide +kernel
theorem d_TuneSetterModel_placeOf_34 : decode b_TuneSetterModel_placeOf 34 = .ok (.goto 22, 3) := by decide +kernel
theorem d_TuneSetterModel_placeOf_37 : decode b_TuneSetterModel_placeOf 37 = .ok (.iload_n 0, 1) := by decide +kernel
theorem d_TuneSetterModel_placeOf_38 : decode b_TuneSetterModel_placeOf 38 = .ok (.ifCond .ne 7, 3) := by decide +kernel
theorem d_TuneSetterModel_placeOf_41 : decode b_TuneSetterModel_placeOf 41 = .ok (.iconst 4, 1) := by decide +kernel
theorem d_TuneSetterModel_placeOf_42 : decode b_TuneSetterModel_placeOf 42 = .ok (.goto 14, 3) := by decide +kernel
theorem d_TuneSetterModel_placeOf_45 : decode b_TuneSetterModel_placeOf 45 = .ok (.iload_n 0, 1) := by decide +kernel
theorem d_TuneSetterModel_placeOf_46 : decode b_TuneSetterModel_placeOf 46 = .ok (.iconst 4, 1) := by decide +kernel
theorem d_TuneSetterModel_placeOf_47 : decode b_TuneSetterModel_placeOf 47 = .ok (.if_icmp .ne 7, 3) := by decide +kernel
theorem d_TuneSetterModel_placeOf_50 : decode b_TuneSetterModel_placeOf 50 = .ok (.iconst 5, 1) := by decide +kernel
theorem d_TuneSetterModel_placeOf_51 : decode b_TuneSetterModel_placeOf 51 = .ok (.goto 5, 3) := by decide +kernel
theorem d_TuneSetterModel_placeOf_54 : decode b_TuneSetterModel_placeOf 54 = .ok (.bipush 6, 2) := by decide +kernel
theorem d_TuneSetterModel_placeOf_56 : decode b_TuneSetterModel_placeOf 56 = .ok (.ireturn, 1) := by decide +kernel
def w_TuneSetterModel_placeOf : List Cond := .code y_TuneSetterModel_placeOf b_TuneSetterModel_placeOf 1 (some .int) :: WALL
theorem g_TuneSetterModel_placeOf : GoodIn WALL w_TuneSetterModel_placeOf := good_of mc_TuneSetterModel_placeOf
set_option maxHeartbeats 4000000 in
set_option maxRecDepth 100000 in
theorem c_TuneSetterModel_placeOf (l : Launch) (D : va_G) (cA a : Nat → Nat) (sz : Nat) (x1 : Int32) (I : Nat → Int32) (A : Nat → Nat → Int32) (post : Int32 → (Nat → Int32) → (Nat → Nat → Int32) → Prop) (h : wp_TuneSetterModel_placeOf x1 I A post) : Met l y_TuneSetterModel_placeOf w_TuneSetterModel_placeOf ({ frames := 0, cells := 0, slots := 0, locals := 0 }) (va_Pc [.int x1] (PreR D cA a I A sz)) (va_Qi (fun r (u : StW) => post r u.1 u.2) (EndR D cA a) (AR a sz)) 0 0 (AR a sz) := by
  refine Met.ofW (cc := b_TuneSetterModel_placeOf) (maxL := 1) (ret := (some .int)) (by decide) rfl ?_
  intro p e s m args below meth c s₁ B hml hv
  obtain ⟨rfl, hsz, hP, hK, hD0⟩ := hv
  have hx := B.exec
  have hb := B.bytes
  have hr := B.returns
  have hts := atoms_spec (ws := w_TuneSetterModel_placeOf) B.pre
  have hw := wall_of hts
  have hown : s.vm.findClass R_TuneSetterModel = some m.cls := findClass_of_methodNamed B.named
  have hlocks := B.notSynchronized
  subst hsz
  have hD := hDR (sz := s.heap.size) hD0
  have hA : ∀ q : Nat, s.heap.size ≤ q → AR a s.heap.size q := fun q h => Or.inr h
  have hS : va_S (AR a s.heap.size) s.heap s.heap [] := va_S.rf
  have hl := lv_entry ([.int x1]) (n := 1) (Nat.le_of_ble_eq_true rfl)
  rw [lg_entry_eq]
  generalize (lg_sl ([.int x1]) ++ List.replicate (1 - (lg_sl ([.int x1])).length) Slot.unset).toArray = ls at hl ⊢
  have hl : lv_has ls 1 [(0, .int x1)] := hl
  unfold wp_TuneSetterModel_placeOf at h
  refine lv_iload_n hx hb d_TuneSetterModel_placeOf_0 rfl (lv_at hl 0 rfl) ?_
  refine lv_iconst (v := 5) hx hb d_TuneSetterModel_placeOf_1 ic_5 ?_
  refine lv_icmp_ne (tgt := 9) hx hb d_TuneSetterModel_placeOf_2 rfl (fun q => ?_) (fun q => ?_)
  · have h := h.2 q
    refine lv_iload_n hx hb d_TuneSetterModel_placeOf_9 rfl (lv_at hl 0 rfl) ?_
    refine lv_iconst (v := 2) hx hb d_TuneSetterModel_placeOf_10 ic_2 ?_
    refine lv_icmp_ne (tgt := 18) hx hb d_TuneSetterModel_placeOf_11 rfl (fun q => ?_) (fun q => ?_)
    · have h := h.2 q
      refine lv_iload_n hx hb d_TuneSetterModel_placeOf_18 rfl (lv_at hl 0 rfl) ?_
      refine lv_bipush (v := 6) hx hb d_TuneSetterModel_placeOf_19 bp_6 ?_
      refine lv_icmp_ne (tgt := 28) hx hb d_TuneSetterModel_placeOf_21 rfl (fun q => ?_) (fun q => ?_)
      · have h := h.2 q
        refine lv_iload_n hx hb d_TuneSetterModel_placeOf_28 rfl (lv_at hl 0 rfl) ?_
        refine lv_iconst (v := 3) hx hb d_TuneSetterModel_placeOf_29 ic_3 ?_
        refine lv_icmp_ne (tgt := 37) hx hb d_TuneSetterModel_placeOf_30 rfl (fun q => ?_) (fun q => ?_)
        · have h := h.2 q
          refine lv_iload_n hx hb d_TuneSetterModel_placeOf_37 rfl (lv_at hl 0 rfl) ?_
          refine lv_if_ne (tgt := 45) hx hb d_TuneSetterModel_placeOf_38 rfl (fun q => ?_) (fun q => ?_)
          · have h := h.2 q
            refine lv_iload_n hx hb d_TuneSetterModel_placeOf_45 rfl (lv_at hl 0 rfl) ?_
            refine lv_iconst (v := 4) hx hb d_TuneSetterModel_placeOf_46 ic_4 ?_
            refine lv_icmp_ne (tgt := 54) hx hb d_TuneSetterModel_placeOf_47 rfl (fun q => ?_) (fun q => ?_)
            · have h := h.2 q
              refine lv_bipush (v := 6) hx hb d_TuneSetterModel_placeOf_54 bp_6 ?_
              exact W.iret hx hb hr (fun t ht hW => ⟨⟨_, (I, A), rfl, h, endR_of ht hP⟩, hS.F ht⟩) hS.2.2 d_TuneSetterModel_placeOf_56
            · have h := h.1 q
              refine lv_iconst (v := 5) hx hb d_TuneSetterModel_placeOf_50 ic_5 ?_
              refine lv_goto (tgt := 56) hx hb d_TuneSetterModel_placeOf_51 rfl ?_
              exact W.iret hx hb hr (fun t ht hW => ⟨⟨_, (I, A), rfl, h, endR_of ht hP⟩, hS.F ht⟩) hS.2.2 d_TuneSetterModel_placeOf_56
          · have h := h.1 q
            refine lv_iconst (v := 4) hx hb d_TuneSetterModel_placeOf_41 ic_4 ?_
            refine lv_goto (tgt := 56) hx hb d_TuneSetterModel_placeOf_42 rfl ?_
            exact W.iret hx hb hr (fun t ht hW => ⟨⟨_, (I, A), rfl, h, endR_of ht hP⟩, hS.F ht⟩) hS.2.2 d_TuneSetterModel_placeOf_56
        · have h := h.1 q
          refine lv_iconst (v := 3) hx hb d_TuneSetterModel_placeOf_33 ic_3 ?_
          refine lv_goto (tgt := 56) hx hb d_TuneSetterModel_placeOf_34 rfl ?_
          exact W.iret hx hb hr (fun t ht hW => ⟨⟨_, (I, A), rfl, h, endR_of ht hP⟩, hS.F ht⟩) hS.2.2 d_TuneSetterModel_placeOf_56
      · have h := h.1 q
        refine lv_iconst (v := 2) hx hb d_TuneSetterModel_placeOf_24 ic_2 ?_
        refine lv_goto (tgt := 56) hx hb d_TuneSetterModel_placeOf_25 rfl ?_
        exact W.iret hx hb hr (fun t ht hW => ⟨⟨_, (I, A), rfl, h, endR_of ht hP⟩, hS.F ht⟩) hS.2.2 d_TuneSetterModel_placeOf_56
    · have h := h.1 q
      refine lv_iconst (v := 1) hx hb d_TuneSetterModel_placeOf_14 ic_1 ?_
      refine lv_goto (tgt := 56) hx hb d_TuneSetterModel_placeOf_15 rfl ?_
      exact W.iret hx hb hr (fun t ht hW => ⟨⟨_, (I, A), rfl, h, endR_of ht hP⟩, hS.F ht⟩) hS.2.2 d_TuneSetterModel_placeOf_56
  · have h := h.1 q
    refine lv_iconst (v := 0) hx hb d_TuneSetterModel_placeOf_5 ic_0 ?_
    refine lv_goto (tgt := 56) hx hb d_TuneSetterModel_placeOf_6 rfl ?_
    exact W.iret hx hb hr (fun t ht hW => ⟨⟨_, (I, A), rfl, h, endR_of ht hP⟩, hS.F ht⟩) hS.2.2 d_TuneSetterModel_placeOf_56
theorem k_TuneSetterModel_placeOf {p : Program} {l : Launch} {e : Env} {R : Room} {s : State} {m : MethodId} {args : Array Value} {below : List Frame} {meth : Method} {c : Code} {H : Heap} {locs : List Loc} {cells slots : Nat} {Q : State → Prop} {cc : ByteArray} {pc nL idx : Nat} {own : String} {ls : Array Slot} {D : va_G} {cA a : Nat → Nat} {AA : Nat → Prop} {I : Nat → Int32} {A : Nat → Nat → Int32} {post : Int32 → (Nat → Int32) → (Nat → Nat → Int32) → Prop} (x1 : Int32) {rest : List Value} (S : CallFix p m c cc nL s args WALL own) (hK : KR D cA a AA s) (hD : ∀ I A, va_D AA (wR cA a I A)) (hA : ∀ q : Nat, s.heap.size ≤ q → AA q) (hS : va_S AA s.heap H locs) (hP : va_P D cls (wR cA a I A) H) (hl1 : ls.size = nL) (hlink : (Cond.methodLink own idx y_TuneSetterModel_placeOf).before args s = true) (hst : (rest.map fun v => v.category).sum ≤ 8) (hR : ({ frames := 0, cells := 0, slots := 0, locals := 0 } : Room).frames + 1 ≤ R.frames ∧ 8 + (1 + 11) + ({ frames := 0, cells := 0, slots := 0, locals := 0 } : Room).locals ≤ R.locals) (hcs : cells ≤ R.cells ∧ slots ≤ R.slots) (hdg : decode cc pc = .ok (.invokestatic idx, 3)) (h : wp_TuneSetterModel_placeOf x1 I A post) (kk : ∀ (r : Int32) (I1 : Nat → Int32) (A1 : Nat → Nat → Int32) (H1 : Heap) (locs1 : List Loc), post r I1 A1 → va_P D cls (wR cA a I1 A1) H1 → va_S AA s.heap H1 locs1 → W p l e R s m args below meth c H1 locs1 cells slots Q (F0 m (pc + 3) ls (.int r :: rest))) : W p l e R s m args below meth c H locs cells slots Q (F0 m pc ls (.int x1 :: rest)) :=
  va_calli (va_runS (As := [.int x1]) (rest := rest) S (c_TuneSetterModel_placeOf l D cA a H.size x1 I A post h) ⟨callB_of 1 S.2.2.2.2 g_TuneSetterModel_placeOf rfl rfl rfl (S.2.2.2.2 _ mi_TuneSetterModel) hlink ⟨by decide, by decide, by decide +kernel⟩ hR, S.2.2.2.2 _ mn_TuneSetterModel_placeOf⟩ (preRS hK hD hA hS hP) rfl rfl hl1 rfl (lv_room hst) hdg hcs) hS (fun q _ z => AR_le hD hA hS q z) (fun q z => AR_le hD hA hS q z) (fun r u t H1 locs1 ht _ hp hB _ _ hS1 => kk r u.1 u.2 H1 locs1 hp (of_endR ht hB) hS1)
def wp_TuneSetterModel_plainOf (x1 : Int32) (I : Nat → Int32) (A : Nat → Nat → Int32) (post : Int32 → (Nat → Int32) → (Nat → Nat → Int32) → Prop) : Prop := ((x1 = 2 → post 60 I A) ∧ (¬ x1 = 2 → ((x1 = 3 → post 62 I A) ∧ (¬ x1 = 3 → ((x1 = 4 → post 64 I A) ∧ (¬ x1 = 4 → ((x1 = 5 → post 65 I A) ∧ (¬ x1 = 5 → ((x1 = 6 → post 67 I A) ∧ (¬ x1 = 6 → ((x1 = 0 → post 69 I A) ∧ (¬ x1 = 0 → post 71 I A))))))))))))
theorem d_TuneSetterModel_plainOf_0 : decode b_TuneSetterModel_plainOf 0 = .ok (.iload_n 0, 1) := by decide +kernel
theorem d_TuneSetterModel_plainOf_1 : decode b_TuneSetterModel_plainOf 1 = .ok (.iconst 2, 1) := by decide +kernel
theorem d_TuneSetterModel_plainOf_2 : decode b_TuneSetterModel_plainOf 2 = .ok (.if_icmp .ne 8, 3) := by decide +kernel
theorem d_TuneSetterModel_plainOf_5 : decode b_TuneSetterModel_plainOf 5 = .ok (.bipush 60, 2) := by decide +kernel
theorem d_TuneSetterModel_plainOf_7 : decode b_TuneSetterModel_plainOf 7 = .ok (.goto 55, 3) := by decide +kernel
theorem d_TuneSetterModel_plainOf_10 : decode b_TuneSetterModel_plainOf 10 = .ok (.iload_n 0, 1) := by decide +kernel
theorem d_TuneSetterModel_plainOf_11 : decode b_TuneSetterModel_plainOf 11 = .ok (.iconst 3, 1) := by decide +kernel
theorem d_TuneSetterModel_plainOf_12 : decode b_TuneSetterModel_plainOf 12 = .ok (.if_icmp .ne 8, 3) := by decide +kernel
theorem d_TuneSetterModel_plainOf_15 : decode b_TuneSetterModel_plainOf 15 = .ok (.bipush 62, 2) := by decide +kernel
theorem d_TuneSetterModel_plainOf_17 : decode b_TuneSetterModel_plainOf 17 = .ok (.goto 45, 3) := by decide +kernel
theorem d_TuneSetterModel_plainOf_20 : decode b_TuneSetterModel_plainOf 20 = .ok (.iload_n 0, 1) := by decide +kernel
theorem d_TuneSetterModel_plainOf_21 : decode b_TuneSetterModel_plainOf 21 = .ok (.iconst 4, 1) := by decide +kernel
theorem d_TuneSetterModel_plainOf_22 : decode b_TuneSetterModel_plainOf 22 = .ok (.if_icmp .ne 8, 3) := by decide +kernel
theorem d_TuneSetterModel_plainOf_25 : decode b_TuneSetterModel_plainOf 25 = .ok (.bipush 64, 2) := by decide +kernel
theorem d_TuneSetterModel_plainOf_27 : decode b_TuneSetterModel_plainOf 27 = .ok (.goto 35, 3) := by decide +kernel
theorem d_TuneSetterModel_plainOf_30 : decode b_TuneSetterModel_plainOf 30 = .ok (.iload_n 0, 1) := by decide +kernel
theorem d_TuneSetterModel_plainOf_31 : decode b_TuneSetterModel_plainOf 31 = .ok (.iconst 5, 1) := by decide +kernel
theorem d_TuneSetterModel_plainOf_32 : decode b_TuneSetterModel_plainOf 32 = .ok (.if_icmp .ne 8, 3) := by decide +kernel
theorem d_TuneSetterModel_plainOf_35 : decode b_TuneSetterModel_plainOf 35 = .ok (.bipush 65, 2) := by decide +kernel
theorem d_TuneSetterModel_plainOf_37 : decode b_TuneSetterModel_plainOf 37 = .ok (.goto 25, 3) := by decide +kernel
theorem d_TuneSetterModel_plainOf_40 : decode b_TuneSetterModel_plainOf 40 = .ok (.iload_n 0, 1) := by decide +kernel
theorem d_TuneSetterModel_plainOf_41 : decode b_TuneSetterModel_plainOf 41 = .ok (.bipush 6, 2) := by decide +kernel
theorem d_TuneSetterModel_plainOf_43 : decode b_TuneSetterModel_plainOf 43 = .ok (.if_icmp .ne 8, 3) := by decide +kernel
theorem d_TuneSetterModel_plainOf_46 : decode b_TuneSetterModel_plainOf 46 = .ok (.bipush 67, 2) := by decide +kernel
theorem d_TuneSetterModel_plainOf_48 : decode b_TuneSetterModel_plainOf 48 = .ok (.goto 14, 3) := by decide +kernel
theorem d_TuneSetterModel_plainOf_51 : decode b_TuneSetterModel_plainOf 51 = .ok (.iload_n 0, 1) := by decide +kernel
theorem d_TuneSetterModel_plainOf_52 : decode b_TuneSetterModel_plainOf 52 = .ok (.ifCond .ne 8, 3) := by decide +kernel
theorem d_TuneSetterModel_plainOf_55 : decode b_TuneSetterModel_plainOf 55 = .ok (.bipush 69, 2) := by decide +kernel
theorem d_TuneSetterModel_plainOf_57 : decode b_TuneSetterModel_plainOf 57 = .ok (.goto 5, 3) := by decide +kernel
theorem d_TuneSetterModel_plainOf_60 : decode b_TuneSetterModel_plainOf 60 = .ok (.bipush 71, 2) := by decide +kernel
theorem d_TuneSetterModel_plainOf_62 : decode b_TuneSetterModel_plainOf 62 = .ok (.ireturn, 1) := by decide +kernel
def w_TuneSetterModel_plainOf : List Cond := .code y_TuneSetterModel_plainOf b_TuneSetterModel_plainOf 1 (some .int) :: WALL
theorem g_TuneSetterModel_plainOf : GoodIn WALL w_TuneSetterModel_plainOf := good_of mc_TuneSetterModel_plainOf
set_option maxHeartbeats 4000000 in
set_option maxRecDepth 100000 in
theorem c_TuneSetterModel_plainOf (l : Launch) (D : va_G) (cA a : Nat → Nat) (sz : Nat) (x1 : Int32) (I : Nat → Int32) (A : Nat → Nat → Int32) (post : Int32 → (Nat → Int32) → (Nat → Nat → Int32) → Prop) (h : wp_TuneSetterModel_plainOf x1 I A post) : Met l y_TuneSetterModel_plainOf w_TuneSetterModel_plainOf ({ frames := 0, cells := 0, slots := 0, locals := 0 }) (va_Pc [.int x1] (PreR D cA a I A sz)) (va_Qi (fun r (u : StW) => post r u.1 u.2) (EndR D cA a) (AR a sz)) 0 0 (AR a sz) := by
  refine Met.ofW (cc := b_TuneSetterModel_plainOf) (maxL := 1) (ret := (some .int)) (by decide) rfl ?_
  intro p e s m args below meth c s₁ B hml hv
  obtain ⟨rfl, hsz, hP, hK, hD0⟩ := hv
  have hx := B.exec
  have hb := B.bytes
  have hr := B.returns
  have hts := atoms_spec (ws := w_TuneSetterModel_plainOf) B.pre
  have hw := wall_of hts
  have hown : s.vm.findClass R_TuneSetterModel = some m.cls := findClass_of_methodNamed B.named
  have hlocks := B.notSynchronized
  subst hsz
  have hD := hDR (sz := s.heap.size) hD0
  have hA : ∀ q : Nat, s.heap.size ≤ q → AR a s.heap.size q := fun q h => Or.inr h
  have hS : va_S (AR a s.heap.size) s.heap s.heap [] := va_S.rf
  have hl := lv_entry ([.int x1]) (n := 1) (Nat.le_of_ble_eq_true rfl)
  rw [lg_entry_eq]
  generalize (lg_sl ([.int x1]) ++ List.replicate (1 - (lg_sl ([.int x1])).length) Slot.unset).toArray = ls at hl ⊢
  have hl : lv_has ls 1 [(0, .int x1)] := hl
  unfold wp_TuneSetterModel_plainOf at h
  refine lv_iload_n hx hb d_TuneSetterModel_plainOf_0 rfl (lv_at hl 0 rfl) ?_
  refine lv_iconst (v := 2) hx hb d_TuneSetterModel_plainOf_1 ic_2 ?_
  refine lv_icmp_ne (tgt := 10) hx hb d_TuneSetterModel_plainOf_2 rfl (fun q => ?_) (fun q => ?_)
  · have h := h.2 q
    refine lv_iload_n hx hb d_TuneSetterModel_plainOf_10 rfl (lv_at hl 0 rfl) ?_
    refine lv_iconst (v := 3) hx hb d_TuneSetterModel_plainOf_11 ic_3 ?_
    refine lv_icmp_ne (tgt := 20) hx hb d_TuneSetterModel_plainOf_12 rfl (fun q => ?_) (fun q => ?_)
    · have h := h.2 q
      refine lv_iload_n hx hb d_TuneSetterModel_plainOf_20 rfl (lv_at hl 0 rfl) ?_
      refine lv_iconst (v := 4) hx hb d_TuneSetterModel_plainOf_21 ic_4 ?_
      refine lv_icmp_ne (tgt := 30) hx hb d_TuneSetterModel_plainOf_22 rfl (fun q => ?_) (fun q => ?_)
      · have h := h.2 q
        refine lv_iload_n hx hb d_TuneSetterModel_plainOf_30 rfl (lv_at hl 0 rfl) ?_
        refine lv_iconst (v := 5) hx hb d_TuneSetterModel_plainOf_31 ic_5 ?_
        refine lv_icmp_ne (tgt := 40) hx hb d_TuneSetterModel_plainOf_32 rfl (fun q => ?_) (fun q => ?_)
        · have h := h.2 q
          refine lv_iload_n hx hb d_TuneSetterModel_plainOf_40 rfl (lv_at hl 0 rfl) ?_
          refine lv_bipush (v := 6) hx hb d_TuneSetterModel_plainOf_41 bp_6 ?_
          refine lv_icmp_ne (tgt := 51) hx hb d_TuneSetterModel_plainOf_43 rfl (fun q => ?_) (fun q => ?_)
          · have h := h.2 q
            refine lv_iload_n hx hb d_TuneSetterModel_plainOf_51 rfl (lv_at hl 0 rfl) ?_
            refine lv_if_ne (tgt := 60) hx hb d_TuneSetterModel_plainOf_52 rfl (fun q => ?_) (fun q => ?_)
            · have h := h.2 q
              refine lv_bipush (v := 71) hx hb d_TuneSetterModel_plainOf_60 bp_71 ?_
              exact W.iret hx hb hr (fun t ht hW => ⟨⟨_, (I, A), rfl, h, endR_of ht hP⟩, hS.F ht⟩) hS.2.2 d_TuneSetterModel_plainOf_62
            · have h := h.1 q
              refine lv_bipush (v := 69) hx hb d_TuneSetterModel_plainOf_55 bp_69 ?_
              refine lv_goto (tgt := 62) hx hb d_TuneSetterModel_plainOf_57 rfl ?_
              exact W.iret hx hb hr (fun t ht hW => ⟨⟨_, (I, A), rfl, h, endR_of ht hP⟩, hS.F ht⟩) hS.2.2 d_TuneSetterModel_plainOf_62
          · have h := h.1 q
            refine lv_bipush (v := 67) hx hb d_TuneSetterModel_plainOf_46 bp_67 ?_
            refine lv_goto (tgt := 62) hx hb d_TuneSetterModel_plainOf_48 rfl ?_
            exact W.iret hx hb hr (fun t ht hW => ⟨⟨_, (I, A), rfl, h, endR_of ht hP⟩, hS.F ht⟩) hS.2.2 d_TuneSetterModel_plainOf_62
        · have h := h.1 q
          refine lv_bipush (v := 65) hx hb d_TuneSetterModel_plainOf_35 bp_65 ?_
          refine lv_goto (tgt := 62) hx hb d_TuneSetterModel_plainOf_37 rfl ?_
          exact W.iret hx hb hr (fun t ht hW => ⟨⟨_, (I, A), rfl, h, endR_of ht hP⟩, hS.F ht⟩) hS.2.2 d_TuneSetterModel_plainOf_62
      · have h := h.1 q
        refine lv_bipush (v := 64) hx hb d_TuneSetterModel_plainOf_25 bp_64 ?_
        refine lv_goto (tgt := 62) hx hb d_TuneSetterModel_plainOf_27 rfl ?_
        exact W.iret hx hb hr (fun t ht hW => ⟨⟨_, (I, A), rfl, h, endR_of ht hP⟩, hS.F ht⟩) hS.2.2 d_TuneSetterModel_plainOf_62
    · have h := h.1 q
      refine lv_bipush (v := 62) hx hb d_TuneSetterModel_plainOf_15 bp_62 ?_
      refine lv_goto (tgt := 62) hx hb d_TuneSetterModel_plainOf_17 rfl ?_
      exact W.iret hx hb hr (fun t ht hW => ⟨⟨_, (I, A), rfl, h, endR_of ht hP⟩, hS.F ht⟩) hS.2.2 d_TuneSetterModel_plainOf_62
  · have h := h.1 q
    refine lv_bipush (v := 60) hx hb d_TuneSetterModel_plainOf_5 bp_60 ?_
    refine lv_goto (tgt := 62) hx hb d_TuneSetterModel_plainOf_7 rfl ?_
    exact W.iret hx hb hr (fun t ht hW => ⟨⟨_, (I, A), rfl, h, endR_of ht hP⟩, hS.F ht⟩) hS.2.2 d_TuneSetterModel_plainOf_62
theorem k_TuneSetterModel_plainOf {p : Program} {l : Launch} {e : Env} {R : Room} {s : State} {m : MethodId} {args : Array Value} {below : List Frame} {meth : Method} {c : Code} {H : Heap} {locs : List Loc} {cells slots : Nat} {Q : State → Prop} {cc : ByteArray} {pc nL idx : Nat} {own : String} {ls : Array Slot} {D : va_G} {cA a : Nat → Nat} {AA : Nat → Prop} {I : Nat → Int32} {A : Nat → Nat → Int32} {post : Int32 → (Nat → Int32) → (Nat → Nat → Int32) → Prop} (x1 : Int32) {rest : List Value} (S : CallFix p m c cc nL s args WALL own) (hK : KR D cA a AA s) (hD : ∀ I A, va_D AA (wR cA a I A)) (hA : ∀ q : Nat, s.heap.size ≤ q → AA q) (hS : va_S AA s.heap H locs) (hP : va_P D cls (wR cA a I A) H) (hl1 : ls.size = nL) (hlink : (Cond.methodLink own idx y_TuneSetterModel_plainOf).before args s = true) (hst : (rest.map fun v => v.category).sum ≤ 8) (hR : ({ frames := 0, cells := 0, slots := 0, locals := 0 } : Room).frames + 1 ≤ R.frames ∧ 8 + (1 + 11) + ({ frames := 0, cells := 0, slots := 0, locals := 0 } : Room).locals ≤ R.locals) (hcs : cells ≤ R.cells ∧ slots ≤ R.slots) (hdg : decode cc pc = .ok (.invokestatic idx, 3)) (h : wp_TuneSetterModel_plainOf x1 I A post) (kk : ∀ (r : Int32) (I1 : Nat → Int32) (A1 : Nat → Nat → Int32) (H1 : Heap) (locs1 : List Loc), post r I1 A1 → va_P D cls (wR cA a I1 A1) H1 → va_S AA s.heap H1 locs1 → W p l e R s m args below meth c H1 locs1 cells slots Q (F0 m (pc + 3) ls (.int r :: rest))) : W p l e R s m args below meth c H locs cells slots Q (F0 m pc ls (.int x1 :: rest)) :=
  va_calli (va_runS (As := [.int x1]) (rest := rest) S (c_TuneSetterModel_plainOf l D cA a H.size x1 I A post h) ⟨callB_of 1 S.2.2.2.2 g_TuneSetterModel_plainOf rfl rfl rfl (S.2.2.2.2 _ mi_TuneSetterModel) hlink ⟨by decide, by decide, by decide +kernel⟩ hR, S.2.2.2.2 _ mn_TuneSetterModel_plainOf⟩ (preRS hK hD hA hS hP) rfl rfl hl1 rfl (lv_room hst) hdg hcs) hS (fun q _ z => AR_le hD hA hS q z) (fun q z => AR_le hD hA hS q z) (fun r u t H1 locs1 ht _ hp hB _ _ hS1 => kk r u.1 u.2 H1 locs1 hp (of_endR ht hB) hS1)
def wp_TuneSetterModel_toneOf_57 (post : Int32 → (Nat → Int32) → (Nat → Nat → Int32) → Prop) (s0 : Int32) (I : Nat → Int32) (A : Nat → Nat → Int32) : Prop := (vp_in ((((16 : Int32) * (I 16)) + (I 17)) + 8) 112 ∧ (∀ v78 : Int32, v78 = (A 11 (((((16 : Int32) * (I 16)) + (I 17)) + 8).toNatClampNeg)) → (wp_TuneSetterModel_plainOf (I 16) I A (fun r83 I83 A83 => (((I83 15) = 0 → ((9 ≤ v78 → post ((r83 + ((12 : Int32) * (I83 17))) + s0) I83 A83) ∧ (¬ 9 ≤ v78 → post ((r83 + ((12 : Int32) * (I83 17))) + v78) I83 A83))) ∧ (¬ (I83 15) = 0 → post ((r83 + ((12 : Int32) * (I83 17))) + (I83 14)) I83 A83))))))
def wp_TuneSetterModel_toneOf (I : Nat → Int32) (A : Nat → Nat → Int32) (post : Int32 → (Nat → Int32) → (Nat → Nat → Int32) → Prop) : Prop := (((I 17) < (-8) → post (-1) I A) ∧ (¬ (I 17) < (-8) → (((I 17) ≤ 7 → (wp_TuneSetterModel_placeOf (I 16) I A (fun r24 I24 A24 => (((I24 3) ≤ r24 → (((-(I24 3)) ≤ ((6 : Int32) - r24) → wp_TuneSetterModel_toneOf_57 post 0 I24 A24) ∧ (¬ (-(I24 3)) ≤ ((6 : Int32) - r24) → wp_TuneSetterModel_toneOf_57 post (-1) I24 A24))) ∧ (¬ (I24 3) ≤ r24 → wp_TuneSetterModel_toneOf_57 post 1 I24 A24))))) ∧ (¬ (I 17) ≤ 7 → post (-1) I A))))
theorem d_TuneSetterModel_toneOf_0 : decode b_TuneSetterModel_toneOf 0 = .ok (.aload_n 0, 1) := by decide +kernel
theorem d_TuneSetterModel_toneOf_1 : decode b_TuneSetterModel_toneOf 1 = .ok (.getfield 205, 3) := by decide +kernel
theorem d_TuneSetterModel_toneOf_4 : decode b_TuneSetterModel_toneOf 4 = .ok (.bipush (-8), 2) := by decide +kernel
theorem d_TuneSetterModel_toneOf_6 : decode b_TuneSetterModel_toneOf 6 = .ok (.if_icmp .lt 12, 3) := by decide +kernel
theorem d_TuneSetterModel_toneOf_9 : decode b_TuneSetterModel_toneOf 9 = .ok (.aload_n 0, 1) := by decide +kernel
theorem d_TuneSetterModel_toneOf_10 : decode b_TuneSetterModel_toneOf 10 = .ok (.getfield 205, 3) := by decide +kernel
theorem d_TuneSetterModel_toneOf_13 : decode b_TuneSetterModel_toneOf 13 = .ok (.bipush 7, 2) := by decide +kernel
theorem d_TuneSetterModel_toneOf_15 : decode b_TuneSetterModel_toneOf 15 = .ok (.if_icmp .le 5, 3) := by decide +kernel
theorem d_TuneSetterModel_toneOf_18 : decode b_TuneSetterModel_toneOf 18 = .ok (.iconst (-1), 1) := by decide +kernel
theorem d_TuneSetterModel_toneOf_19 : decode b_TuneSetterModel_toneOf 19 = .ok (.ireturn, 1) := by decide +kernel
theorem d_TuneSetterModel_toneOf_20 : decode b_TuneSetterModel_toneOf 20 = .ok (.aload_n 0, 1) := by decide +kernel
theorem d_TuneSetterModel_toneOf_21 : decode b_TuneSetterModel_toneOf 21 = .ok (.getfield 229, 3) := by decide +kernel
theorem d_TuneSetterModel_toneOf_24 : decode b_TuneSetterModel_toneOf 24 = .ok (.invokestatic 244, 3) := by decide +kernel
theorem d_TuneSetterModel_toneOf_27 : decode b_TuneSetterModel_toneOf 27 = .ok (.istore_n 1, 1) := by decide +kernel
theorem d_TuneSetterModel_toneOf_28 : decode b_TuneSetterModel_toneOf 28 = .ok (.iload_n 1, 1) := by decide +kernel
theorem d_TuneSetterModel_toneOf_29 : decode b_TuneSetterModel_toneOf 29 = .ok (.aload_n 0, 1) := by decide +kernel
theorem d_TuneSetterModel_toneOf_30 : decode b_TuneSetterModel_toneOf 30 = .ok (.getfield 81, 3) := by decide +kernel
theorem d_TuneSetterModel_toneOf_33 : decode b_TuneSetterModel_toneOf 33 = .ok (.if_icmp .ge 7, 3) := by decide +kernel
theorem d_TuneSetterModel_toneOf_36 : decode b_TuneSetterModel_toneOf 36 = .ok (.iconst 1, 1) := by decide +kernel
theorem d_TuneSetterModel_toneOf_37 : decode b_TuneSetterModel_toneOf 37 = .ok (.goto 20, 3) := by decide +kernel
theorem d_TuneSetterModel_toneOf_40 : decode b_TuneSetterModel_toneOf 40 = .ok (.bipush 6, 2) := by decide +kernel
theorem d_TuneSetterModel_toneOf_42 : decode b_TuneSetterModel_toneOf 42 = .ok (.iload_n 1, 1) := by decide +kernel
theorem d_TuneSetterModel_toneOf_43 : decode b_TuneSetterModel_toneOf 43 = .ok (.isub, 1) := by decide +kernel
theorem d_TuneSetterModel_toneOf_44 : decode b_TuneSetterModel_toneOf 44 = .ok (.aload_n 0, 1) := by decide +kernel
theorem d_TuneSetterModel_toneOf_45 : decode b_TuneSetterModel_toneOf 45 = .ok (.getfield 81, 3) := by decide +kernel
theorem d_TuneSetterModel_toneOf_48 : decode b_TuneSetterModel_toneOf 48 = .ok (.ineg, 1) := by decide +kernel
theorem d_TuneSetterModel_toneOf_49 : decode b_TuneSetterModel_toneOf 49 = .ok (.if_icmp .ge 7, 3) := by decide +kernel
theorem d_TuneSetterModel_toneOf_52 : decode b_TuneSetterModel_toneOf 52 = .ok (.iconst (-1), 1) := by decide +kernel
theorem d_TuneSetterModel_toneOf_53 : decode b_TuneSetterModel_toneOf 53 = .ok (.goto 4, 3) := by decide +kernel
theorem d_TuneSetterModel_toneOf_56 : decode b_TuneSetterModel_toneOf 56 = .ok (.iconst 0, 1) := by decide +kernel
theorem d_TuneSetterModel_toneOf_57 : decode b_TuneSetterModel_toneOf 57 = .ok (.istore_n 2, 1) := by decide +kernel
theorem d_TuneSetterModel_toneOf_58 : decode b_TuneSetterModel_toneOf 58 = .ok (.aload_n 0, 1) := by decide +kernel
theorem d_TuneSetterModel_toneOf_59 : decode b_TuneSetterModel_toneOf 59 = .ok (.getfield 54, 3) := by decide +kernel
theorem d_TuneSetterModel_toneOf_62 : decode b_TuneSetterModel_toneOf 62 = .ok (.bipush 16, 2) := by decide +kernel
theorem d_TuneSetterModel_toneOf_64 : decode b_TuneSetterModel_toneOf 64 = .ok (.aload_n 0, 1) := by decide +kernel
theorem d_TuneSetterModel_toneOf_65 : decode b_TuneSetterModel_toneOf 65 = .ok (.getfield 229, 3) := by decide +kernel
theorem d_TuneSetterModel_toneOf_68 : decode b_TuneSetterModel_toneOf 68 = .ok (.imul, 1) := by decide +kernel
theorem d_TuneSetterModel_toneOf_69 : decode b_TuneSetterModel_toneOf 69 = .ok (.aload_n 0, 1) := by decide +kernel
theorem d_TuneSetterModel_toneOf_70 : decode b_TuneSetterModel_toneOf 70 = .ok (.getfield 205, 3) := by decide +kernel
theorem d_TuneSetterModel_toneOf_73 : decode b_TuneSetterModel_toneOf 73 = .ok (.iadd, 1) := by decide +kernel
theorem d_TuneSetterModel_toneOf_74 : decode b_TuneSetterModel_toneOf 74 = .ok (.bipush 8, 2) := by decide +kernel
theorem d_TuneSetterModel_toneOf_76 : decode b_TuneSetterModel_toneOf 76 = .ok (.iadd, 1) := by decide +kernel
theorem d_TuneSetterModel_toneOf_77 : decode b_TuneSetterModel_toneOf 77 = .ok (.iaload, 1) := by decide +kernel
theorem d_TuneSetterModel_toneOf_78 : decode b_TuneSetterModel_toneOf 78 = .ok (.istore_n 3, 1) := by decide +kernel
theorem d_TuneSetterModel_toneOf_79 : decode b_TuneSetterModel_toneOf 79 = .ok (.aload_n 0, 1) := by decide +kernel
theorem d_TuneSetterModel_toneOf_80 : decode b_TuneSetterModel_toneOf 80 = .ok (.getfield 229, 3) := by decide +kernel
theorem d_TuneSetterModel_toneOf_83 : decode b_TuneSetterModel_toneOf 83 = .ok (.invokestatic 247, 3) := by decide +kernel
theorem d_TuneSetterModel_toneOf_86 : decode b_TuneSetterModel_toneOf 86 = .ok (.bipush 12, 2) := by decide +kernel
theorem d_TuneSetterModel_toneOf_88 : decode b_TuneSetterModel_toneOf 88 = .ok (.aload_n 0, 1) := by decide +kernel
theorem d_TuneSetterModel_toneOf_89 : decode b_TuneSetterModel_toneOf 89 = .ok (.getfield 205, 3) := by decide +kernel
theorem d_TuneSetterModel_toneOf_92 : decode b_TuneSetterModel_toneOf 92 = .ok (.imul, 1) := by decide +kernel
theorem d_TuneSetterModel_toneOf_93 : decode b_TuneSetterModel_toneOf 93 = .ok (.iadd, 1) := by decide +kernel
theorem d_TuneSetterModel_toneOf_94 : decode b_TuneSetterModel_toneOf 94 = .ok (.aload_n 0, 1) := by decide +kernel
theorem d_TuneSetterModel_toneOf_95 : decode b_TuneSetterModel_toneOf 95 = .ok (.getfield 217, 3) := by decide +kernel
theorem d_TuneSetterModel_toneOf_98 : decode b_TuneSetterModel_toneOf 98 = .ok (.ifCond .eq 10, 3) := by decide +kernel
theorem d_TuneSetterModel_toneOf_101 : decode b_TuneSetterModel_toneOf 101 = .ok (.aload_n 0, 1) := by decide +kernel
theorem d_TuneSetterModel_toneOf_102 : decode b_TuneSetterModel_toneOf 102 = .ok (.getfield 226, 3) := by decide +kernel
theorem d_TuneSetterModel_toneOf_105 : decode b_TuneSetterModel_toneOf 105 = .ok (.goto 14, 3) := by decide +kernel
theorem d_TuneSetterModel_toneOf_108 : decode b_TuneSetterModel_toneOf 108 = .ok (.iload_n 3, 1) := by decide +kernel
theorem d_TuneSetterModel_toneOf_109 : decode b_TuneSetterModel_toneOf 109 = .ok (.bipush 9, 2) := by decide +kernel
theorem d_TuneSetterModel_toneOf_111 : decode b_TuneSetterModel_toneOf 111 = .ok (.if_icmp .ge 7, 3) := by decide +kernel
theorem d_TuneSetterModel_toneOf_114 : decode b_TuneSetterModel_toneOf 114 = .ok (.iload_n 3, 1) := by decide +kernel
theorem d_TuneSetterModel_toneOf_115 : decode b_TuneSetterModel_toneOf 115 = .ok (.goto 4, 3) := by decide +kernel
theorem d_TuneSetterModel_toneOf_118 : decode b_TuneSetterModel_toneOf 118 = .ok (.iload_n 2, 1) := by decide +kernel
theorem d_TuneSetterModel_toneOf_119 : decode b_TuneSetterModel_toneOf 119 = .ok (.iadd, 1) := by decide +kernel
theorem d_TuneSetterModel_toneOf_120 : decode b_TuneSetterModel_toneOf 120 = .ok (.ireturn, 1) := by decide +kernel
def w_TuneSetterModel_toneOf : List Cond := .code y_TuneSetterModel_toneOf b_TuneSetterModel_toneOf 4 (some .int) :: WALL
theorem g_TuneSetterModel_toneOf : GoodIn WALL w_TuneSetterModel_toneOf := good_of mc_TuneSetterModel_toneOf
set_option maxHeartbeats 4000000 in
set_option maxRecDepth 100000 in
theorem c_TuneSetterModel_toneOf (l : Launch) (D : va_G) (cA a : Nat → Nat) (sz : Nat) (I : Nat → Int32) (A : Nat → Nat → Int32) (post : Int32 → (Nat → Int32) → (Nat → Nat → Int32) → Prop) (h : wp_TuneSetterModel_toneOf I A post) : Met l y_TuneSetterModel_toneOf w_TuneSetterModel_toneOf ({ frames := 1, cells := 0, slots := 0, locals := 20 }) (va_Pc [.ref (a 0)] (PreR D cA a I A sz)) (va_Qi (fun r (u : StW) => post r u.1 u.2) (EndR D cA a) (AR a sz)) 0 0 (AR a sz) := by
  refine Met.ofW (cc := b_TuneSetterModel_toneOf) (maxL := 4) (ret := (some .int)) (by decide) rfl ?_
  intro p e s m args below meth c s₁ B hml hv
  obtain ⟨rfl, hsz, hP, hK, hD0⟩ := hv
  have hx := B.exec
  have hb := B.bytes
  have hr := B.returns
  have hts := atoms_spec (ws := w_TuneSetterModel_toneOf) B.pre
  have hw := wall_of hts
  have hown : s.vm.findClass R_TuneSetterModel = some m.cls := findClass_of_methodNamed B.named
  have hlocks := B.notSynchronized
  subst hsz
  have hD := hDR (sz := s.heap.size) hD0
  have hA : ∀ q : Nat, s.heap.size ≤ q → AR a s.heap.size q := fun q h => Or.inr h
  have hS : va_S (AR a s.heap.size) s.heap s.heap [] := va_S.rf
  have j57 : ∀ (s0 : Int32) (I : Nat → Int32) (A : Nat → Nat → Int32) (H : Heap) (locs : List Loc) (ls : Array Slot), wp_TuneSetterModel_toneOf_57 post s0 I A → va_P D cls (wR cA a I A) H → va_S (AR a s.heap.size) s.heap H locs → lv_has ls 4 [(0, .ref (a 0))] → W p l e (headSpec w_TuneSetterModel_toneOf ({ frames := 1, cells := 0, slots := 0, locals := 20 })).room s m [.ref (a 0)].toArray below meth c H locs 0 0 (MQ below (va_Qi (fun r (u : StW) => post r u.1 u.2) (EndR D cA a) (AR a s.heap.size)) [.ref (a 0)].toArray s 0 0 (AR a s.heap.size)) (F0 m 57 ls [.int s0]) := by
    intro s0 I A H locs ls h hP hS hl
    unfold wp_TuneSetterModel_toneOf_57 at h
    refine lv_istore_n (lv' := [(2, .int s0), (0, .ref (a 0))]) hx hb d_TuneSetterModel_toneOf_57 rfl hl (by decide) rfl (fun ls hl => ?_)
    refine lv_aload_n hx hb d_TuneSetterModel_toneOf_58 rfl (lv_at hl 1 rfl) ?_
    refine gR_TuneSetterModel_heard hx hb hw hown hK hP (hw _ m_TuneSetterModel_54) d_TuneSetterModel_toneOf_59 ?_
    refine lv_bipush (v := 16) hx hb d_TuneSetterModel_toneOf_62 bp_16 ?_
    refine lv_aload_n hx hb d_TuneSetterModel_toneOf_64 rfl (lv_at hl 1 rfl) ?_
    refine gR_TuneSetterModel_letter hx hb hw hown hK hP (hw _ m_TuneSetterModel_229) d_TuneSetterModel_toneOf_65 ?_
    refine lv_imul hx hb d_TuneSetterModel_toneOf_68 ?_
    refine lv_aload_n hx hb d_TuneSetterModel_toneOf_69 rfl (lv_at hl 1 rfl) ?_
    refine gR_TuneSetterModel_octave hx hb hw hown hK hP (hw _ m_TuneSetterModel_205) d_TuneSetterModel_toneOf_70 ?_
    refine lv_iadd hx hb d_TuneSetterModel_toneOf_73 ?_
    refine lv_bipush (v := 8) hx hb d_TuneSetterModel_toneOf_74 bp_8 ?_
    refine lv_iadd hx hb d_TuneSetterModel_toneOf_76 ?_
    obtain ⟨hin, h⟩ := h
    refine lR11 hx hb hK hP hin d_TuneSetterModel_toneOf_77 ?_
    refine lv_topi (fun v78 ev78 => ?_)
    have h := h v78 ev78
    refine lv_istore_n (lv' := [(3, .int v78), (2, .int s0), (0, .ref (a 0))]) hx hb d_TuneSetterModel_toneOf_78 rfl hl (by decide) rfl (fun ls hl => ?_)
    refine lv_aload_n hx hb d_TuneSetterModel_toneOf_79 rfl (lv_at hl 2 rfl) ?_
    refine gR_TuneSetterModel_letter hx hb hw hown hK hP (hw _ m_TuneSetterModel_229) d_TuneSetterModel_toneOf_80 ?_
    refine k_TuneSetterModel_plainOf (I 16) (rest := []) ⟨hx, hb, hml, hown, hw⟩ hK hD hA hS hP hl.1 (hw _ m_TuneSetterModel_247) (Nat.le_of_ble_eq_true rfl) ⟨Nat.le_of_ble_eq_true rfl, Nat.le_of_ble_eq_true rfl⟩ ⟨Nat.zero_le _, Nat.zero_le _⟩ d_TuneSetterModel_toneOf_83 h (fun r83 I83 A83 H locs h hP hS => ?_)
    refine lv_bipush (v := 12) hx hb d_TuneSetterModel_toneOf_86 bp_12 ?_
    refine lv_aload_n hx hb d_TuneSetterModel_toneOf_88 rfl (lv_at hl 2 rfl) ?_
    refine gR_TuneSetterModel_octave hx hb hw hown hK hP (hw _ m_TuneSetterModel_205) d_TuneSetterModel_toneOf_89 ?_
    refine lv_imul hx hb d_TuneSetterModel_toneOf_92 ?_
    refine lv_iadd hx hb d_TuneSetterModel_toneOf_93 ?_
    refine lv_aload_n hx hb d_TuneSetterModel_toneOf_94 rfl (lv_at hl 2 rfl) ?_
    refine gR_TuneSetterModel_signed hx hb hw hown hK hP (hw _ m_TuneSetterModel_217) d_TuneSetterModel_toneOf_95 ?_
    refine lv_if_eq (tgt := 108) hx hb d_TuneSetterModel_toneOf_98 rfl (fun q => ?_) (fun q => ?_)
    · have h := h.1 q
      refine lv_iload_n hx hb d_TuneSetterModel_toneOf_108 rfl (lv_at hl 0 rfl) ?_
      refine lv_bipush (v := 9) hx hb d_TuneSetterModel_toneOf_109 bp_9 ?_
      refine lv_icmp_ge (tgt := 118) hx hb d_TuneSetterModel_toneOf_111 rfl (fun q => ?_) (fun q => ?_)
      · have h := h.1 q
        refine lv_iload_n hx hb d_TuneSetterModel_toneOf_118 rfl (lv_at hl 1 rfl) ?_
        refine lv_iadd hx hb d_TuneSetterModel_toneOf_119 ?_
        exact W.iret hx hb hr (fun t ht hW => ⟨⟨_, (I83, A83), rfl, h, endR_of ht hP⟩, hS.F ht⟩) hS.2.2 d_TuneSetterModel_toneOf_120
      · have h := h.2 q
        refine lv_iload_n hx hb d_TuneSetterModel_toneOf_114 rfl (lv_at hl 0 rfl) ?_
        refine lv_goto (tgt := 119) hx hb d_TuneSetterModel_toneOf_115 rfl ?_
        refine lv_iadd hx hb d_TuneSetterModel_toneOf_119 ?_
        exact W.iret hx hb hr (fun t ht hW => ⟨⟨_, (I83, A83), rfl, h, endR_of ht hP⟩, hS.F ht⟩) hS.2.2 d_TuneSetterModel_toneOf_120
    · have h := h.2 q
      refine lv_aload_n hx hb d_TuneSetterModel_toneOf_101 rfl (lv_at hl 2 rfl) ?_
      refine gR_TuneSetterModel_sign hx hb hw hown hK hP (hw _ m_TuneSetterModel_226) d_TuneSetterModel_toneOf_102 ?_
      refine lv_goto (tgt := 119) hx hb d_TuneSetterModel_toneOf_105 rfl ?_
      refine lv_iadd hx hb d_TuneSetterModel_toneOf_119 ?_
      exact W.iret hx hb hr (fun t ht hW => ⟨⟨_, (I83, A83), rfl, h, endR_of ht hP⟩, hS.F ht⟩) hS.2.2 d_TuneSetterModel_toneOf_120
  have hl := lv_entry ([.ref (a 0)]) (n := 4) (Nat.le_of_ble_eq_true rfl)
  rw [lg_entry_eq]
  generalize (lg_sl ([.ref (a 0)]) ++ List.replicate (4 - (lg_sl ([.ref (a 0)])).length) Slot.unset).toArray = ls at hl ⊢
  have hl : lv_has ls 4 [(0, .ref (a 0))] := hl
  unfold wp_TuneSetterModel_toneOf at h
  refine lv_aload_n hx hb d_TuneSetterModel_toneOf_0 rfl (lv_at hl 0 rfl) ?_
  refine gR_TuneSetterModel_octave hx hb hw hown hK hP (hw _ m_TuneSetterModel_205) d_TuneSetterModel_toneOf_1 ?_
  refine lv_bipush (v := (-8)) hx hb d_TuneSetterModel_toneOf_4 bp_m8 ?_
  refine lv_icmp_lt (tgt := 18) hx hb d_TuneSetterModel_toneOf_6 rfl (fun q => ?_) (fun q => ?_)
  · have h := h.1 q
    refine lv_iconst (v := (-1)) hx hb d_TuneSetterModel_toneOf_18 ic_m1 ?_
    exact W.iret hx hb hr (fun t ht hW => ⟨⟨_, (I, A), rfl, h, endR_of ht hP⟩, hS.F ht⟩) hS.2.2 d_TuneSetterModel_toneOf_19
  · have h := h.2 q
    refine lv_aload_n hx hb d_TuneSetterModel_toneOf_9 rfl (lv_at hl 0 rfl) ?_
    refine gR_TuneSetterModel_octave hx hb hw hown hK hP (hw _ m_TuneSetterModel_205) d_TuneSetterModel_toneOf_10 ?_
    refine lv_bipush (v := 7) hx hb d_TuneSetterModel_toneOf_13 bp_7 ?_
    refine lv_icmp_le (tgt := 20) hx hb d_TuneSetterModel_toneOf_15 rfl (fun q => ?_) (fun q => ?_)
    · have h := h.1 q
      refine lv_aload_n hx hb d_TuneSetterModel_toneOf_20 rfl (lv_at hl 0 rfl) ?_
      refine gR_TuneSetterModel_letter hx hb hw hown hK hP (hw _ m_TuneSetterModel_229) d_TuneSetterModel_toneOf_21 ?_
      refine k_TuneSetterModel_placeOf (I 16) (rest := []) ⟨hx, hb, hml, hown, hw⟩ hK hD hA hS hP hl.1 (hw _ m_TuneSetterModel_244) (Nat.le_of_ble_eq_true rfl) ⟨Nat.le_of_ble_eq_true rfl, Nat.le_of_ble_eq_true rfl⟩ ⟨Nat.zero_le _, Nat.zero_le _⟩ d_TuneSetterModel_toneOf_24 h (fun r24 I24 A24 H locs h hP hS => ?_)
      refine lv_istore_n (lv' := [(1, .int r24), (0, .ref (a 0))]) hx hb d_TuneSetterModel_toneOf_27 rfl hl (by decide) rfl (fun ls hl => ?_)
      refine lv_iload_n hx hb d_TuneSetterModel_toneOf_28 rfl (lv_at hl 0 rfl) ?_
      refine lv_aload_n hx hb d_TuneSetterModel_toneOf_29 rfl (lv_at hl 1 rfl) ?_
      refine gR_TuneSetterModel_sharps hx hb hw hown hK hP (hw _ m_TuneSetterModel_81) d_TuneSetterModel_toneOf_30 ?_
      refine lv_icmp_ge (tgt := 40) hx hb d_TuneSetterModel_toneOf_33 rfl (fun q => ?_) (fun q => ?_)
      · have h := h.1 q
        refine lv_bipush (v := 6) hx hb d_TuneSetterModel_toneOf_40 bp_6 ?_
        refine lv_iload_n hx hb d_TuneSetterModel_toneOf_42 rfl (lv_at hl 0 rfl) ?_
        refine lv_isub hx hb d_TuneSetterModel_toneOf_43 ?_
        refine lv_aload_n hx hb d_TuneSetterModel_toneOf_44 rfl (lv_at hl 1 rfl) ?_
        refine gR_TuneSetterModel_sharps hx hb hw hown hK hP (hw _ m_TuneSetterModel_81) d_TuneSetterModel_toneOf_45 ?_
        refine lv_ineg hx hb d_TuneSetterModel_toneOf_48 ?_
        refine lv_icmp_ge (tgt := 56) hx hb d_TuneSetterModel_toneOf_49 rfl (fun q => ?_) (fun q => ?_)
        · have h := h.1 q
          refine lv_iconst (v := 0) hx hb d_TuneSetterModel_toneOf_56 ic_0 ?_
          exact j57 0 I24 A24 _ _ _ h hP hS (lv_sub hl [1] rfl)
        · have h := h.2 q
          refine lv_iconst (v := (-1)) hx hb d_TuneSetterModel_toneOf_52 ic_m1 ?_
          refine lv_goto (tgt := 57) hx hb d_TuneSetterModel_toneOf_53 rfl ?_
          exact j57 (-1) I24 A24 _ _ _ h hP hS (lv_sub hl [1] rfl)
      · have h := h.2 q
        refine lv_iconst (v := 1) hx hb d_TuneSetterModel_toneOf_36 ic_1 ?_
        refine lv_goto (tgt := 57) hx hb d_TuneSetterModel_toneOf_37 rfl ?_
        exact j57 1 I24 A24 _ _ _ h hP hS (lv_sub hl [1] rfl)
    · have h := h.2 q
      refine lv_iconst (v := (-1)) hx hb d_TuneSetterModel_toneOf_18 ic_m1 ?_
      exact W.iret hx hb hr (fun t ht hW => ⟨⟨_, (I, A), rfl, h, endR_of ht hP⟩, hS.F ht⟩) hS.2.2 d_TuneSetterModel_toneOf_19
theorem k_TuneSetterModel_toneOf {p : Program} {l : Launch} {e : Env} {R : Room} {s : State} {m : MethodId} {args : Array Value} {below : List Frame} {meth : Method} {c : Code} {H : Heap} {locs : List Loc} {cells slots : Nat} {Q : State → Prop} {cc : ByteArray} {pc nL idx : Nat} {own : String} {ls : Array Slot} {D : va_G} {cA a : Nat → Nat} {AA : Nat → Prop} {I : Nat → Int32} {A : Nat → Nat → Int32} {post : Int32 → (Nat → Int32) → (Nat → Nat → Int32) → Prop} {rest : List Value} (S : CallFix p m c cc nL s args WALL own) (hK : KR D cA a AA s) (hD : ∀ I A, va_D AA (wR cA a I A)) (hA : ∀ q : Nat, s.heap.size ≤ q → AA q) (hS : va_S AA s.heap H locs) (hP : va_P D cls (wR cA a I A) H) (hl1 : ls.size = nL) (hlink : (Cond.methodLink own idx y_TuneSetterModel_toneOf).before args s = true) (hst : (rest.map fun v => v.category).sum ≤ 8) (hR : ({ frames := 1, cells := 0, slots := 0, locals := 20 } : Room).frames + 1 ≤ R.frames ∧ 8 + (4 + 11) + ({ frames := 1, cells := 0, slots := 0, locals := 20 } : Room).locals ≤ R.locals) (hcs : cells ≤ R.cells ∧ slots ≤ R.slots) (hdg : decode cc pc = .ok (.invokevirtual idx, 3)) (h : wp_TuneSetterModel_toneOf I A post) (kk : ∀ (r : Int32) (I1 : Nat → Int32) (A1 : Nat → Nat → Int32) (H1 : Heap) (locs1 : List Loc), post r I1 A1 → va_P D cls (wR cA a I1 A1) H1 → va_S AA s.heap H1 locs1 → W p l e R s m args below meth c H1 locs1 cells slots Q (F0 m (pc + 3) ls (.int r :: rest))) : W p l e R s m args below meth c H locs cells slots Q (F0 m pc ls (.ref (a 0) :: rest)) :=
  va_calli (va_runV (As := []) (rest := rest) S (c_TuneSetterModel_toneOf l D cA a H.size I A post h) ⟨callB_of 0 S.2.2.2.2 g_TuneSetterModel_toneOf rfl rfl rfl (S.2.2.2.2 _ mi_TuneSetterModel) hlink ⟨by decide, by decide, by decide +kernel⟩ hR, S.2.2.2.2 _ mn_TuneSetterModel_toneOf, S.2.2.2.2 _ ms_TuneSetterModel_toneOf⟩ (preRV hK hD hA hS hP 0 rfl rfl) rfl rfl hl1 rfl (lv_room hst) hdg hcs) hS (fun q _ z => AR_le hD hA hS q z) (fun q z => AR_le hD hA hS q z) (fun r u t H1 locs1 ht _ hp hB _ _ hS1 => kk r u.1 u.2 H1 locs1 hp (of_endR ht hB) hS1)
def wp_TuneSetterModel_noteDone (x1 : Int32) (I : Nat → Int32) (A : Nat → Nat → Int32) (post : (Nat → Int32) → (Nat → Nat → Int32) → Prop) : Prop := (vp_in ((I 8) - 1) 48 ∧ (vp_in (((4 : Int32) * ((I 8) - 1)) + (A 9 (((I 8) - 1).toNatClampNeg))) 192 ∧ (vp_in ((I 8) - 1) 48 ∧ (vp_in ((I 8) - 1) 48 ∧ (((I 15) = 0 → post I (upd2 (upd2 A 10 ((((4 : Int32) * ((I 8) - 1)) + (A 9 (((I 8) - 1).toNatClampNeg))).toNatClampNeg) x1) 9 (((I 8) - 1).toNatClampNeg) ((A 9 (((I 8) - 1).toNatClampNeg)) + 1))) ∧ (¬ (I 15) = 0 → (vp_in ((((16 : Int32) * (I 16)) + (I 17)) + 8) 112 ∧ post I (upd2 (upd2 (upd2 A 10 ((((4 : Int32) * ((I 8) - 1)) + (A 9 (((I 8) - 1).toNatClampNeg))).toNatClampNeg) x1) 9 (((I 8) - 1).toNatClampNeg) ((A 9 (((I 8) - 1).toNatClampNeg)) + 1)) 11 (((((16 : Int32) * (I 16)) + (I 17)) + 8).toNatClampNeg) (I 14)))))))))
theorem d_TuneSetterModel_noteDone_0 : decode b_TuneSetterModel_noteDone 0 = .ok (.aload_n 0, 1) := by decide +kernel
theorem d_TuneSetterModel_noteDone_1 : decode b_TuneSetterModel_noteDone 1 = .ok (.getfield 51, 3) := by decide +kernel
theorem d_TuneSetterModel_noteDone_4 : decode b_TuneSetterModel_noteDone 4 = .ok (.iconst 4, 1) := by decide +kernel
theorem d_TuneSetterModel_noteDone_5 : decode b_TuneSetterModel_noteDone 5 = .ok (.aload_n 0, 1) := by decide +kernel
theorem d_TuneSetterModel_noteDone_6 : decode b_TuneSetterModel_noteDone 6 = .ok (.getfield 90, 3) := by decide +kernel
theorem d_TuneSetterModel_noteDone_9 : decode b_TuneSetterModel_noteDone 9 = .ok (.iconst 1, 1) := by decide +kernel
theorem d_TuneSetterModel_noteDone_10 : decode b_TuneSetterModel_noteDone 10 = .ok (.isub, 1) := by decide +kernel
theorem d_TuneSetterModel_noteDone_11 : decode b_TuneSetterModel_noteDone 11 = .ok (.imul, 1) := by decide +kernel
theorem d_TuneSetterModel_noteDone_12 : decode b_TuneSetterModel_noteDone 12 = .ok (.aload_n 0, 1) := by decide +kernel
theorem d_TuneSetterModel_noteDone_13 : decode b_TuneSetterModel_noteDone 13 = .ok (.getfield 48, 3) := by decide +kernel
theorem d_TuneSetterModel_noteDone_16 : decode b_TuneSetterModel_noteDone 16 = .ok (.aload_n 0, 1) := by decide +kernel
theorem d_TuneSetterModel_noteDone_17 : decode b_TuneSetterModel_noteDone 17 = .ok (.getfield 90, 3) := by decide +kernel
theorem d_TuneSetterModel_noteDone_20 : decode b_TuneSetterModel_noteDone 20 = .ok (.iconst 1, 1) := by decide +kernel
theorem d_TuneSetterModel_noteDone_21 : decode b_TuneSetterModel_noteDone 21 = .ok (.isub, 1) := by decide +kernel
theorem d_TuneSetterModel_noteDone_22 : decode b_TuneSetterModel_noteDone 22 = .ok (.iaload, 1) := by decide +kernel
theorem d_TuneSetterModel_noteDone_23 : decode b_TuneSetterModel_noteDone 23 = .ok (.iadd, 1) := by decide +kernel
theorem d_TuneSetterModel_noteDone_24 : decode b_TuneSetterModel_noteDone 24 = .ok (.iload_n 1, 1) := by decide +kernel
theorem d_TuneSetterModel_noteDone_25 : decode b_TuneSetterModel_noteDone 25 = .ok (.iastore, 1) := by decide +kernel
theorem d_TuneSetterModel_noteDone_26 : decode b_TuneSetterModel_noteDone 26 = .ok (.aload_n 0, 1) := by decide +kernel
theorem d_TuneSetterModel_noteDone_27 : decode b_TuneSetterModel_noteDone 27 = .ok (.getfield 48, 3) := by decide +kernel
theorem d_TuneSetterModel_noteDone_30 : decode b_TuneSetterModel_noteDone 30 = .ok (.aload_n 0, 1) := by decide +kernel
theorem d_TuneSetterModel_noteDone_31 : decode b_TuneSetterModel_noteDone 31 = .ok (.getfield 90, 3) := by decide +kernel
theorem d_TuneSetterModel_noteDone_34 : decode b_TuneSetterModel_noteDone 34 = .ok (.iconst 1, 1) := by decide +kernel
theorem d_TuneSetterModel_noteDone_35 : decode b_TuneSetterModel_noteDone 35 = .ok (.isub, 1) := by decide +kernel
theorem d_TuneSetterModel_noteDone_36 : decode b_TuneSetterModel_noteDone 36 = .ok (.dup2, 1) := by decide +kernel
theorem d_TuneSetterModel_noteDone_37 : decode b_TuneSetterModel_noteDone 37 = .ok (.iaload, 1) := by decide +kernel
theorem d_TuneSetterModel_noteDone_38 : decode b_TuneSetterModel_noteDone 38 = .ok (.iconst 1, 1) := by decide +kernel
theorem d_TuneSetterModel_noteDone_39 : decode b_TuneSetterModel_noteDone 39 = .ok (.iadd, 1) := by decide +kernel
theorem d_TuneSetterModel_noteDone_40 : decode b_TuneSetterModel_noteDone 40 = .ok (.iastore, 1) := by decide +kernel
theorem d_TuneSetterModel_noteDone_41 : decode b_TuneSetterModel_noteDone 41 = .ok (.aload_n 0, 1) := by decide +kernel
theorem d_TuneSetterModel_noteDone_42 : decode b_TuneSetterModel_noteDone 42 = .ok (.getfield 217, 3) := by decide +kernel
theorem d_TuneSetterModel_noteDone_45 : decode b_TuneSetterModel_noteDone 45 = .ok (.ifCond .eq 27, 3) := by decide +kernel
theorem d_TuneSetterModel_noteDone_48 : decode b_TuneSetterModel_noteDone 48 = .ok (.aload_n 0, 1) := by decide +kernel
theorem d_TuneSetterModel_noteDone_49 : decode b_TuneSetterModel_noteDone 49 = .ok (.getfield 54, 3) := by decide +kernel
theorem d_TuneSetterModel_noteDone_52 : decode b_TuneSetterModel_noteDone 52 = .ok (.bipush 16, 2) := by decide +kernel
theorem d_TuneSetterModel_noteDone_54 : decode b_TuneSetterModel_noteDone 54 = .ok (.aload_n 0, 1) := by decide +kernel
theorem d_TuneSetterModel_noteDone_55 : decode b_TuneSetterModel_noteDone 55 = .ok (.getfield 229, 3) := by decide +kernel
theorem d_TuneSetterModel_noteDone_58 : decode b_TuneSetterModel_noteDone 58 = .ok (.imul, 1) := by decide +kernel
theorem d_TuneSetterModel_noteDone_59 : decode b_TuneSetterModel_noteDone 59 = .ok (.aload_n 0, 1) := by decide +kernel
theorem d_TuneSetterModel_noteDone_60 : decode b_TuneSetterModel_noteDone 60 = .ok (.getfield 205, 3) := by decide +kernel
theorem d_TuneSetterModel_noteDone_63 : decode b_TuneSetterModel_noteDone 63 = .ok (.iadd, 1) := by decide +kernel
theorem d_TuneSetterModel_noteDone_64 : decode b_TuneSetterModel_noteDone 64 = .ok (.bipush 8, 2) := by decide +kernel
theorem d_TuneSetterModel_noteDone_66 : decode b_TuneSetterModel_noteDone 66 = .ok (.iadd, 1) := by decide +kernel
theorem d_TuneSetterModel_noteDone_67 : decode b_TuneSetterModel_noteDone 67 = .ok (.aload_n 0, 1) := by decide +kernel
theorem d_TuneSetterModel_noteDone_68 : decode b_TuneSetterModel_noteDone 68 = .ok (.getfield 226, 3) := by decide +kernel
theorem d_TuneSetterModel_noteDone_71 : decode b_TuneSetterModel_noteDone 71 = .ok (.iastore, 1) := by decide +kernel
theorem d_TuneSetterModel_noteDone_72 : decode b_TuneSetterModel_noteDone 72 = .ok (.return_, 1) := by decide +kernel
def w_TuneSetterModel_noteDone : List Cond := .code y_TuneSetterModel_noteDone b_TuneSetterModel_noteDone 2 none :: WALL
theorem g_TuneSetterModel_noteDone : GoodIn WALL w_TuneSetterModel_noteDone := good_of mc_TuneSetterModel_noteDone
set_option maxHeartbeats 4000000 in
set_option maxRecDepth 100000 in
theorem c_TuneSetterModel_noteDone (l : Launch) (D : va_G) (cA a : Nat → Nat) (sz : Nat) (x1 : Int32) (I : Nat → Int32) (A : Nat → Nat → Int32) (post : (Nat → Int32) → (Nat → Nat → Int32) → Prop) (h : wp_TuneSetterModel_noteDone x1 I A post) : Met l y_TuneSetterModel_noteDone w_TuneSetterModel_noteDone ({ frames := 0, cells := 0, slots := 0, locals := 0 }) (va_Pc [.ref (a 0), .int x1] (PreR D cA a I A sz)) (va_Qv (fun (u : StW) => post u.1 u.2) (EndR D cA a) (AR a sz)) 0 0 (AR a sz) := by
  refine Met.ofW (cc := b_TuneSetterModel_noteDone) (maxL := 2) (ret := none) (by decide) rfl ?_
  intro p e s m args below meth c s₁ B hml hv
  obtain ⟨rfl, hsz, hP, hK, hD0⟩ := hv
  have hx := B.exec
  have hb := B.bytes
  have hr := B.returns
  have hts := atoms_spec (ws := w_TuneSetterModel_noteDone) B.pre
  have hw := wall_of hts
  have hown : s.vm.findClass R_TuneSetterModel = some m.cls := findClass_of_methodNamed B.named
  have hlocks := B.notSynchronized
  subst hsz
  have hD := hDR (sz := s.heap.size) hD0
  have hA : ∀ q : Nat, s.heap.size ≤ q → AR a s.heap.size q := fun q h => Or.inr h
  have hS : va_S (AR a s.heap.size) s.heap s.heap [] := va_S.rf
  have hl := lv_entry ([.ref (a 0), .int x1]) (n := 2) (Nat.le_of_ble_eq_true rfl)
  rw [lg_entry_eq]
  generalize (lg_sl ([.ref (a 0), .int x1]) ++ List.replicate (2 - (lg_sl ([.ref (a 0), .int x1])).length) Slot.unset).toArray = ls at hl ⊢
  have hl : lv_has ls 2 [(0, .ref (a 0)), (1, .int x1)] := hl
  unfold wp_TuneSetterModel_noteDone at h
  refine lv_aload_n hx hb d_TuneSetterModel_noteDone_0 rfl (lv_at hl 0 rfl) ?_
  refine gR_TuneSetterModel_pitch hx hb hw hown hK hP (hw _ m_TuneSetterModel_51) d_TuneSetterModel_noteDone_1 ?_
  refine lv_iconst (v := 4) hx hb d_TuneSetterModel_noteDone_4 ic_4 ?_
  refine lv_aload_n hx hb d_TuneSetterModel_noteDone_5 rfl (lv_at hl 0 rfl) ?_
  refine gR_TuneSetterModel_items hx hb hw hown hK hP (hw _ m_TuneSetterModel_90) d_TuneSetterModel_noteDone_6 ?_
  refine lv_iconst (v := 1) hx hb d_TuneSetterModel_noteDone_9 ic_1 ?_
  refine lv_isub hx hb d_TuneSetterModel_noteDone_10 ?_
  refine lv_imul hx hb d_TuneSetterModel_noteDone_11 ?_
  refine lv_aload_n hx hb d_TuneSetterModel_noteDone_12 rfl (lv_at hl 0 rfl) ?_
  refine gR_TuneSetterModel_many hx hb hw hown hK hP (hw _ m_TuneSetterModel_48) d_TuneSetterModel_noteDone_13 ?_
  refine lv_aload_n hx hb d_TuneSetterModel_noteDone_16 rfl (lv_at hl 0 rfl) ?_
  refine gR_TuneSetterModel_items hx hb hw hown hK hP (hw _ m_TuneSetterModel_90) d_TuneSetterModel_noteDone_17 ?_
  refine lv_iconst (v := 1) hx hb d_TuneSetterModel_noteDone_20 ic_1 ?_
  refine lv_isub hx hb d_TuneSetterModel_noteDone_21 ?_
  obtain ⟨hin, h⟩ := h
  refine lR9 hx hb hK hP hin d_TuneSetterModel_noteDone_22 ?_
  refine lv_iadd hx hb d_TuneSetterModel_noteDone_23 ?_
  refine lv_iload_n hx hb d_TuneSetterModel_noteDone_24 rfl (lv_at hl 1 rfl) ?_
  obtain ⟨hin, h⟩ := h
  refine sR10 hx hb hK hD hS hP hin d_TuneSetterModel_noteDone_25 (fun H locs hP hS => ?_)
  refine lv_aload_n hx hb d_TuneSetterModel_noteDone_26 rfl (lv_at hl 0 rfl) ?_
  refine gR_TuneSetterModel_many hx hb hw hown hK hP (hw _ m_TuneSetterModel_48) d_TuneSetterModel_noteDone_27 ?_
  refine lv_aload_n hx hb d_TuneSetterModel_noteDone_30 rfl (lv_at hl 0 rfl) ?_
  refine gR_TuneSetterModel_items hx hb hw hown hK hP (hw _ m_TuneSetterModel_90) d_TuneSetterModel_noteDone_31 ?_
  refine lv_iconst (v := 1) hx hb d_TuneSetterModel_noteDone_34 ic_1 ?_
  refine lv_isub hx hb d_TuneSetterModel_noteDone_35 ?_
  refine lv_dup2_11 hx hb d_TuneSetterModel_noteDone_36 rfl rfl ?_
  obtain ⟨hin, h⟩ := h
  refine lR9 hx hb hK hP hin d_TuneSetterModel_noteDone_37 ?_
  refine lv_iconst (v := 1) hx hb d_TuneSetterModel_noteDone_38 ic_1 ?_
  refine lv_iadd hx hb d_TuneSetterModel_noteDone_39 ?_
  obtain ⟨hin, h⟩ := h
  refine sR9 hx hb hK hD hS hP hin d_TuneSetterModel_noteDone_40 (fun H locs hP hS => ?_)
  refine lv_aload_n hx hb d_TuneSetterModel_noteDone_41 rfl (lv_at hl 0 rfl) ?_
  refine gR_TuneSetterModel_signed hx hb hw hown hK hP (hw _ m_TuneSetterModel_217) d_TuneSetterModel_noteDone_42 ?_
  refine lv_if_eq (tgt := 72) hx hb d_TuneSetterModel_noteDone_45 rfl (fun q => ?_) (fun q => ?_)
  · have h := h.1 q
    exact W.vret hx hb hr (fun t ht hW => ⟨⟨(I, (upd2 (upd2 A 10 ((((4 : Int32) * ((I 8) - 1)) + (A 9 (((I 8) - 1).toNatClampNeg))).toNatClampNeg) x1) 9 (((I 8) - 1).toNatClampNeg) ((A 9 (((I 8) - 1).toNatClampNeg)) + 1))), rfl, h, endR_of ht hP⟩, hS.F ht⟩) hS.2.2 d_TuneSetterModel_noteDone_72
  · have h := h.2 q
    refine lv_aload_n hx hb d_TuneSetterModel_noteDone_48 rfl (lv_at hl 0 rfl) ?_
    refine gR_TuneSetterModel_heard hx hb hw hown hK hP (hw _ m_TuneSetterModel_54) d_TuneSetterModel_noteDone_49 ?_
    refine lv_bipush (v := 16) hx hb d_TuneSetterModel_noteDone_52 bp_16 ?_
    refine lv_aload_n hx hb d_TuneSetterModel_noteDone_54 rfl (lv_at hl 0 rfl) ?_
    refine gR_TuneSetterModel_letter hx hb hw hown hK hP (hw _ m_TuneSetterModel_229) d_TuneSetterModel_noteDone_55 ?_
    refine lv_imul hx hb d_TuneSetterModel_noteDone_58 ?_
    refine lv_aload_n hx hb d_TuneSetterModel_noteDone_59 rfl (lv_at hl 0 rfl) ?_
    refine gR_TuneSetterModel_octave hx hb hw hown hK hP (hw _ m_TuneSetterModel_205) d_TuneSetterModel_noteDone_60 ?_
    refine lv_iadd hx hb d_TuneSetterModel_noteDone_63 ?_
    refine lv_bipush (v := 8) hx hb d_TuneSetterModel_noteDone_64 bp_8 ?_
    refine lv_iadd hx hb d_TuneSetterModel_noteDone_66 ?_
    refine lv_aload_n hx hb d_TuneSetterModel_noteDone_67 rfl (lv_at hl 0 rfl) ?_
    refine gR_TuneSetterModel_sign hx hb hw hown hK hP (hw _ m_TuneSetterModel_226) d_TuneSetterModel_noteDone_68 ?_
    obtain ⟨hin, h⟩ := h
    refine sR11 hx hb hK hD hS hP hin d_TuneSetterModel_noteDone_71 (fun H locs hP hS => ?_)
    exact W.vret hx hb hr (fun t ht hW => ⟨⟨(I, (upd2 (upd2 (upd2 A 10 ((((4 : Int32) * ((I 8) - 1)) + (A 9 (((I 8) - 1).toNatClampNeg))).toNatClampNeg) x1) 9 (((I 8) - 1).toNatClampNeg) ((A 9 (((I 8) - 1).toNatClampNeg)) + 1)) 11 (((((16 : Int32) * (I 16)) + (I 17)) + 8).toNatClampNeg) (I 14))), rfl, h, endR_of ht hP⟩, hS.F ht⟩) hS.2.2 d_TuneSetterModel_noteDone_72
theorem k_TuneSetterModel_noteDone {p : Program} {l : Launch} {e : Env} {R : Room} {s : State} {m : MethodId} {args : Array Value} {below : List Frame} {meth : Method} {c : Code} {H : Heap} {locs : List Loc} {cells slots : Nat} {Q : State → Prop} {cc : ByteArray} {pc nL idx : Nat} {own : String} {ls : Array Slot} {D : va_G} {cA a : Nat → Nat} {AA : Nat → Prop} {I : Nat → Int32} {A : Nat → Nat → Int32} {post : (Nat → Int32) → (Nat → Nat → Int32) → Prop} (x1 : Int32) {rest : List Value} (S : CallFix p m c cc nL s args WALL own) (hK : KR D cA a AA s) (hD : ∀ I A, va_D AA (wR cA a I A)) (hA : ∀ q : Nat, s.heap.size ≤ q → AA q) (hS : va_S AA s.heap H locs) (hP : va_P D cls (wR cA a I A) H) (hl1 : ls.size = nL) (hlink : (Cond.methodLink own idx y_TuneSetterModel_noteDone).before args s = true) (hst : (rest.map fun v => v.category).sum ≤ 8) (hR : ({ frames := 0, cells := 0, slots := 0, locals := 0 } : Room).frames + 1 ≤ R.frames ∧ 8 + (2 + 11) + ({ frames := 0, cells := 0, slots := 0, locals := 0 } : Room).locals ≤ R.locals) (hcs : cells ≤ R.cells ∧ slots ≤ R.slots) (hdg : decode cc pc = .ok (.invokevirtual idx, 3)) (h : wp_TuneSetterModel_noteDone x1 I A post) (kk : ∀ (I1 : Nat → Int32) (A1 : Nat → Nat → Int32) (H1 : Heap) (locs1 : List Loc), post I1 A1 → va_P D cls (wR cA a I1 A1) H1 → va_S AA s.heap H1 locs1 → W p l e R s m args below meth c H1 locs1 cells slots Q (F0 m (pc + 3) ls rest)) : W p l e R s m args below meth c H locs cells slots Q (F0 m pc ls (.int x1 :: .ref (a 0) :: rest)) :=
  va_callv (va_runV (As := [.int x1]) (rest := rest) S (c_TuneSetterModel_noteDone l D cA a H.size x1 I A post h) ⟨callB_of 1 S.2.2.2.2 g_TuneSetterModel_noteDone rfl rfl rfl (S.2.2.2.2 _ mi_TuneSetterModel) hlink ⟨by decide, by decide, by decide +kernel⟩ hR, S.2.2.2.2 _ mn_TuneSetterModel_noteDone, S.2.2.2.2 _ ms_TuneSetterModel_noteDone⟩ (preRV hK hD hA hS hP 0 rfl rfl) rfl rfl hl1 rfl (lv_room hst) hdg hcs) hS (fun q _ z => AR_le hD hA hS q z) (fun q z => AR_le hD hA hS q z) (fun u t H1 locs1 ht _ hp hB _ _ hS1 => kk u.1 u.2 H1 locs1 hp (of_endR ht hB) hS1)
def wp_TuneSetterModel_beginLine (x1 : Int32) (x2 : Int32) (I : Nat → Int32) (A : Nat → Nat → Int32) (post : Int32 → (Nat → Int32) → (Nat → Nat → Int32) → Prop) : Prop := ((x1 = 124 → post 0 (upd (upd I 10 x2) 9 1) A) ∧ (¬ x1 = 124 → post 0 (upd (upd I 10 x2) 9 2) A))
theorem d_TuneSetterModel_beginLine_0 : decode b_TuneSetterModel_beginLine 0 = .ok (.aload_n 0, 1) := by decide +kernel
theorem d_TuneSetterModel_beginLine_1 : decode b_TuneSetterModel_beginLine 1 = .ok (.iload_n 2, 1) := by decide +kernel
theorem d_TuneSetterModel_beginLine_2 : decode b_TuneSetterModel_beginLine 2 = .ok (.putfield 208, 3) := by decide +kernel
theorem d_TuneSetterModel_beginLine_5 : decode b_TuneSetterModel_beginLine 5 = .ok (.aload_n 0, 1) := by decide +kernel
theorem d_TuneSetterModel_beginLine_6 : decode b_TuneSetterModel_beginLine 6 = .ok (.iload_n 1, 1) := by decide +kernel
theorem d_TuneSetterModel_beginLine_7 : decode b_TuneSetterModel_beginLine 7 = .ok (.bipush 124, 2) := by decide +kernel
theorem d_TuneSetterModel_beginLine_9 : decode b_TuneSetterModel_beginLine 9 = .ok (.if_icmp .ne 7, 3) := by decide +kernel
theorem d_TuneSetterModel_beginLine_12 : decode b_TuneSetterModel_beginLine 12 = .ok (.iconst 1, 1) := by decide +kernel
theorem d_TuneSetterModel_beginLine_13 : decode b_TuneSetterModel_beginLine 13 = .ok (.goto 4, 3) := by decide +kernel
theorem d_TuneSetterModel_beginLine_16 : decode b_TuneSetterModel_beginLine 16 = .ok (.iconst 2, 1) := by decide +kernel
theorem d_TuneSetterModel_beginLine_17 : decode b_TuneSetterModel_beginLine 17 = .ok (.putfield 100, 3) := by decide +kernel
theorem d_TuneSetterModel_beginLine_20 : decode b_TuneSetterModel_beginLine 20 = .ok (.iconst 0, 1) := by decide +kernel
theorem d_TuneSetterModel_beginLine_21 : decode b_TuneSetterModel_beginLine 21 = .ok (.ireturn, 1) := by decide +kernel
def w_TuneSetterModel_beginLine : List Cond := .code y_TuneSetterModel_beginLine b_TuneSetterModel_beginLine 3 (some .int) :: WALL
theorem g_TuneSetterModel_beginLine : GoodIn WALL w_TuneSetterModel_beginLine := good_of mc_TuneSetterModel_beginLine
set_option maxHeartbeats 4000000 in
set_option maxRecDepth 100000 in
theorem c_TuneSetterModel_beginLine (l : Launch) (D : va_G) (cA a : Nat → Nat) (sz : Nat) (x1 : Int32) (x2 : Int32) (I : Nat → Int32) (A : Nat → Nat → Int32) (post : Int32 → (Nat → Int32) → (Nat → Nat → Int32) → Prop) (h : wp_TuneSetterModel_beginLine x1 x2 I A post) : Met l y_TuneSetterModel_beginLine w_TuneSetterModel_beginLine ({ frames := 0, cells := 0, slots := 0, locals := 0 }) (va_Pc [.ref (a 0), .int x1, .int x2] (PreR D cA a I A sz)) (va_Qi (fun r (u : StW) => post r u.1 u.2) (EndR D cA a) (AR a sz)) 0 0 (AR a sz) := by
  refine Met.ofW (cc := b_TuneSetterModel_beginLine) (maxL := 3) (ret := (some .int)) (by decide) rfl ?_
  intro p e s m args below meth c s₁ B hml hv
  obtain ⟨rfl, hsz, hP, hK, hD0⟩ := hv
  have hx := B.exec
  have hb := B.bytes
  have hr := B.returns
  have hts := atoms_spec (ws := w_TuneSetterModel_beginLine) B.pre
  have hw := wall_of hts
  have hown : s.vm.findClass R_TuneSetterModel = some m.cls := findClass_of_methodNamed B.named
  have hlocks := B.notSynchronized
  subst hsz
  have hD := hDR (sz := s.heap.size) hD0
  have hA : ∀ q : Nat, s.heap.size ≤ q → AR a s.heap.size q := fun q h => Or.inr h
  have hS : va_S (AR a s.heap.size) s.heap s.heap [] := va_S.rf
  have hl := lv_entry ([.ref (a 0), .int x1, .int x2]) (n := 3) (Nat.le_of_ble_eq_true rfl)
  rw [lg_entry_eq]
  generalize (lg_sl ([.ref (a 0), .int x1, .int x2]) ++ List.replicate (3 - (lg_sl ([.ref (a 0), .int x1, .int x2])).length) Slot.unset).toArray = ls at hl ⊢
  have hl : lv_has ls 3 [(0, .ref (a 0)), (1, .int x1), (2, .int x2)] := hl
  unfold wp_TuneSetterModel_beginLine at h
  refine lv_aload_n hx hb d_TuneSetterModel_beginLine_0 rfl (lv_at hl 0 rfl) ?_
  refine lv_iload_n hx hb d_TuneSetterModel_beginLine_1 rfl (lv_at hl 2 rfl) ?_
  refine pR_TuneSetterModel_lineStart hx hb hw hown hK hD hS hP (hw _ m_TuneSetterModel_208) d_TuneSetterModel_beginLine_2 (fun H locs hP hS => ?_)
  refine lv_aload_n hx hb d_TuneSetterModel_beginLine_5 rfl (lv_at hl 0 rfl) ?_
  refine lv_iload_n hx hb d_TuneSetterModel_beginLine_6 rfl (lv_at hl 1 rfl) ?_
  refine lv_bipush (v := 124) hx hb d_TuneSetterModel_beginLine_7 bp_124 ?_
  refine lv_icmp_ne (tgt := 16) hx hb d_TuneSetterModel_beginLine_9 rfl (fun q => ?_) (fun q => ?_)
  · have h := h.2 q
    refine lv_iconst (v := 2) hx hb d_TuneSetterModel_beginLine_16 ic_2 ?_
    refine pR_TuneSetterModel_state hx hb hw hown hK hD hS hP (hw _ m_TuneSetterModel_100) d_TuneSetterModel_beginLine_17 (fun H locs hP hS => ?_)
    refine lv_iconst (v := 0) hx hb d_TuneSetterModel_beginLine_20 ic_0 ?_
    exact W.iret hx hb hr (fun t ht hW => ⟨⟨_, ((upd (upd I 10 x2) 9 2), A), rfl, h, endR_of ht hP⟩, hS.F ht⟩) hS.2.2 d_TuneSetterModel_beginLine_21
  · have h := h.1 q
    refine lv_iconst (v := 1) hx hb d_TuneSetterModel_beginLine_12 ic_1 ?_
    refine lv_goto (tgt := 17) hx hb d_TuneSetterModel_beginLine_13 rfl ?_
    refine pR_TuneSetterModel_state hx hb hw hown hK hD hS hP (hw _ m_TuneSetterModel_100) d_TuneSetterModel_beginLine_17 (fun H locs hP hS => ?_)
    refine lv_iconst (v := 0) hx hb d_TuneSetterModel_beginLine_20 ic_0 ?_
    exact W.iret hx hb hr (fun t ht hW => ⟨⟨_, ((upd (upd I 10 x2) 9 1), A), rfl, h, endR_of ht hP⟩, hS.F ht⟩) hS.2.2 d_TuneSetterModel_beginLine_21
theorem k_TuneSetterModel_beginLine {p : Program} {l : Launch} {e : Env} {R : Room} {s : State} {m : MethodId} {args : Array Value} {below : List Frame} {meth : Method} {c : Code} {H : Heap} {locs : List Loc} {cells slots : Nat} {Q : State → Prop} {cc : ByteArray} {pc nL idx : Nat} {own : String} {ls : Array Slot} {D : va_G} {cA a : Nat → Nat} {AA : Nat → Prop} {I : Nat → Int32} {A : Nat → Nat → Int32} {post : Int32 → (Nat → Int32) → (Nat → Nat → Int32) → Prop} (x1 : Int32) (x2 : Int32) {rest : List Value} (S : CallFix p m c cc nL s args WALL own) (hK : KR D cA a AA s) (hD : ∀ I A, va_D AA (wR cA a I A)) (hA : ∀ q : Nat, s.heap.size ≤ q → AA q) (hS : va_S AA s.heap H locs) (hP : va_P D cls (wR cA a I A) H) (hl1 : ls.size = nL) (hlink : (Cond.methodLink own idx y_TuneSetterModel_beginLine).before args s = true) (hst : (rest.map fun v => v.category).sum ≤ 8) (hR : ({ frames := 0, cells := 0, slots := 0, locals := 0 } : Room).frames + 1 ≤ R.frames ∧ 8 + (3 + 11) + ({ frames := 0, cells := 0, slots := 0, locals := 0 } : Room).locals ≤ R.locals) (hcs : cells ≤ R.cells ∧ slots ≤ R.slots) (hdg : decode cc pc = .ok (.invokevirtual idx, 3)) (h : wp_TuneSetterModel_beginLine x1 x2 I A post) (kk : ∀ (r : Int32) (I1 : Nat → Int32) (A1 : Nat → Nat → Int32) (H1 : Heap) (locs1 : List Loc), post r I1 A1 → va_P D cls (wR cA a I1 A1) H1 → va_S AA s.heap H1 locs1 → W p l e R s m args below meth c H1 locs1 cells slots Q (F0 m (pc + 3) ls (.int r :: rest))) : W p l e R s m args below meth c H locs cells slots Q (F0 m pc ls (.int x2 :: .int x1 :: .ref (a 0) :: rest)) :=
  va_calli (va_runV (As := [.int x1, .int x2]) (rest := rest) S (c_TuneSetterModel_beginLine l D cA a H.size x1 x2 I A post h) ⟨callB_of 2 S.2.2.2.2 g_TuneSetterModel_beginLine rfl rfl rfl (S.2.2.2.2 _ mi_TuneSetterModel) hlink ⟨by decide, by decide, by decide +kernel⟩ hR, S.2.2.2.2 _ mn_TuneSetterModel_beginLine, S.2.2.2.2 _ ms_TuneSetterModel_beginLine⟩ (preRV hK hD hA hS hP 0 rfl rfl) rfl rfl hl1 rfl (lv_room hst) hdg hcs) hS (fun q _ z => AR_le hD hA hS q z) (fun q z => AR_le hD hA hS q z) (fun r u t H1 locs1 ht _ hp hB _ _ hS1 => kk r u.1 u.2 H1 locs1 hp (of_endR ht hB) hS1)
def wp_TuneSetterModel_letterOf_19 (post : Int32 → (Nat → Int32) → (Nat → Nat → Int32) → Prop) (y0 : Int32) (I : Nat → Int32) (A : Nat → Nat → Int32) : Prop := ((y0 < 97 → post (-1) I A) ∧ (¬ y0 < 97 → ((103 < y0 → post (-1) I A) ∧ (¬ 103 < y0 → post (y0 - 97) I A))))
def wp_TuneSetterModel_letterOf (x1 : Int32) (I : Nat → Int32) (A : Nat → Nat → Int32) (post : Int32 → (Nat → Int32) → (Nat → Nat → Int32) → Prop) : Prop := ((x1 < 65 → wp_TuneSetterModel_letterOf_19 post x1 I A) ∧ (¬ x1 < 65 → ((71 < x1 → wp_TuneSetterModel_letterOf_19 post x1 I A) ∧ (¬ 71 < x1 → post (x1 - 65) I A))))
theorem d_TuneSetterModel_letterOf_0 : decode b_TuneSetterModel_letterOf 0 = .ok (.iload_n 0, 1) := by decide +kernel
theorem d_TuneSetterModel_letterOf_1 : decode b_TuneSetterModel_letterOf 1 = .ok (.bipush 65, 2) := by decide +kernel
theorem d_TuneSetterModel_letterOf_3 : decode b_TuneSetterModel_letterOf 3 = .ok (.if_icmp .lt 16, 3) := by decide +kernel
theorem d_TuneSetterModel_letterOf_6 : decode b_TuneSetterModel_letterOf 6 = .ok (.iload_n 0, 1) := by decide +kernel
theorem d_TuneSetterModel_letterOf_7 : decode b_TuneSetterModel_letterOf 7 = .ok (.bipush 71, 2) := by decide +kernel
theorem d_TuneSetterModel_letterOf_9 : decode b_TuneSetterModel_letterOf 9 = .ok (.if_icmp .gt 10, 3) := by decide +kernel
theorem d_TuneSetterModel_letterOf_12 : decode b_TuneSetterModel_letterOf 12 = .ok (.iload_n 0, 1) := by decide +kernel
theorem d_TuneSetterModel_letterOf_13 : decode b_TuneSetterModel_letterOf 13 = .ok (.bipush 65, 2) := by decide +kernel
theorem d_TuneSetterModel_letterOf_15 : decode b_TuneSetterModel_letterOf 15 = .ok (.isub, 1) := by decide +kernel
theorem d_TuneSetterModel_letterOf_16 : decode b_TuneSetterModel_letterOf 16 = .ok (.goto 23, 3) := by decide +kernel
theorem d_TuneSetterModel_letterOf_19 : decode b_TuneSetterModel_letterOf 19 = .ok (.iload_n 0, 1) := by decide +kernel
theorem d_TuneSetterModel_letterOf_20 : decode b_TuneSetterModel_letterOf 20 = .ok (.bipush 97, 2) := by decide +kernel
theorem d_TuneSetterModel_letterOf_22 : decode b_TuneSetterModel_letterOf 22 = .ok (.if_icmp .lt 16, 3) := by decide +kernel
theorem d_TuneSetterModel_letterOf_25 : decode b_TuneSetterModel_letterOf 25 = .ok (.iload_n 0, 1) := by decide +kernel
theorem d_TuneSetterModel_letterOf_26 : decode b_TuneSetterModel_letterOf 26 = .ok (.bipush 103, 2) := by decide +kernel
theorem d_TuneSetterModel_letterOf_28 : decode b_TuneSetterModel_letterOf 28 = .ok (.if_icmp .gt 10, 3) := by decide +kernel
theorem d_TuneSetterModel_letterOf_31 : decode b_TuneSetterModel_letterOf 31 = .ok (.iload_n 0, 1) := by decide +kernel
theorem d_TuneSetterModel_letterOf_32 : decode b_TuneSetterModel_letterOf 32 = .ok (.bipush 97, 2) := by decide +kernel
theorem d_TuneSetterModel_letterOf_34 : decode b_TuneSetterModel_letterOf 34 = .ok (.isub, 1) := by decide +kernel
theorem d_TuneSetterModel_letterOf_35 : decode b_TuneSetterModel_letterOf 35 = .ok (.goto 4, 3) := by decide +kernel
theorem d_TuneSetterModel_letterOf_38 : decode b_TuneSetterModel_letterOf 38 = .ok (.iconst (-1), 1) := by decide +kernel
theorem d_TuneSetterModel_letterOf_39 : decode b_TuneSetterModel_letterOf 39 = .ok (.ireturn, 1) := by decide +kernel
def w_TuneSetterModel_letterOf : List Cond := .code y_TuneSetterModel_letterOf b_TuneSetterModel_letterOf 1 (some .int) :: WALL
theorem g_TuneSetterModel_letterOf : GoodIn WALL w_TuneSetterModel_letterOf := good_of mc_TuneSetterModel_letterOf
set_option maxHeartbeats 4000000 in
set_option maxRecDepth 100000 in
theorem c_TuneSetterModel_letterOf (l : Launch) (D : va_G) (cA a : Nat → Nat) (sz : Nat) (x1 : Int32) (I : Nat → Int32) (A : Nat → Nat → Int32) (post : Int32 → (Nat → Int32) → (Nat → Nat → Int32) → Prop) (h : wp_TuneSetterModel_letterOf x1 I A post) : Met l y_TuneSetterModel_letterOf w_TuneSetterModel_letterOf ({ frames := 0, cells := 0, slots := 0, locals := 0 }) (va_Pc [.int x1] (PreR D cA a I A sz)) (va_Qi (fun r (u : StW) => post r u.1 u.2) (EndR D cA a) (AR a sz)) 0 0 (AR a sz) := by
  refine Met.ofW (cc := b_TuneSetterModel_letterOf) (maxL := 1) (ret := (some .int)) (by decide) rfl ?_
  intro p e s m args below meth c s₁ B hml hv
  obtain ⟨rfl, hsz, hP, hK, hD0⟩ := hv
  have hx := B.exec
  have hb := B.bytes
  have hr := B.returns
  have hts := atoms_spec (ws := w_TuneSetterModel_letterOf) B.pre
  have hw := wall_of hts
  have hown : s.vm.findClass R_TuneSetterModel = some m.cls := findClass_of_methodNamed B.named
  have hlocks := B.notSynchronized
  subst hsz
  have hD := hDR (sz := s.heap.size) hD0
  have hA : ∀ q : Nat, s.heap.size ≤ q → AR a s.heap.size q := fun q h => Or.inr h
  have hS : va_S (AR a s.heap.size) s.heap s.heap [] := va_S.rf
  have j19 : ∀ (y0 : Int32) (I : Nat → Int32) (A : Nat → Nat → Int32) (H : Heap) (locs : List Loc) (ls : Array Slot), wp_TuneSetterModel_letterOf_19 post y0 I A → va_P D cls (wR cA a I A) H → va_S (AR a s.heap.size) s.heap H locs → lv_has ls 1 [(0, .int y0)] → W p l e (headSpec w_TuneSetterModel_letterOf ({ frames := 0, cells := 0, slots := 0, locals := 0 })).room s m [.int x1].toArray below meth c H locs 0 0 (MQ below (va_Qi (fun r (u : StW) => post r u.1 u.2) (EndR D cA a) (AR a s.heap.size)) [.int x1].toArray s 0 0 (AR a s.heap.size)) (F0 m 19 ls []) := by
    intro y0 I A H locs ls h hP hS hl
    unfold wp_TuneSetterModel_letterOf_19 at h
    refine lv_iload_n hx hb d_TuneSetterModel_letterOf_19 rfl (lv_at hl 0 rfl) ?_
    refine lv_bipush (v := 97) hx hb d_TuneSetterModel_letterOf_20 bp_97 ?_
    refine lv_icmp_lt (tgt := 38) hx hb d_TuneSetterModel_letterOf_22 rfl (fun q => ?_) (fun q => ?_)
    · have h := h.1 q
      refine lv_iconst (v := (-1)) hx hb d_TuneSetterModel_letterOf_38 ic_m1 ?_
      exact W.iret hx hb hr (fun t ht hW => ⟨⟨_, (I, A), rfl, h, endR_of ht hP⟩, hS.F ht⟩) hS.2.2 d_TuneSetterModel_letterOf_39
    · have h := h.2 q
      refine lv_iload_n hx hb d_TuneSetterModel_letterOf_25 rfl (lv_at hl 0 rfl) ?_
      refine lv_bipush (v := 103) hx hb d_TuneSetterModel_letterOf_26 bp_103 ?_
      refine lv_icmp_gt (tgt := 38) hx hb d_TuneSetterModel_letterOf_28 rfl (fun q => ?_) (fun q => ?_)
      · have h := h.1 q
        refine lv_iconst (v := (-1)) hx hb d_TuneSetterModel_letterOf_38 ic_m1 ?_
        exact W.iret hx hb hr (fun t ht hW => ⟨⟨_, (I, A), rfl, h, endR_of ht hP⟩, hS.F ht⟩) hS.2.2 d_TuneSetterModel_letterOf_39
      · have h := h.2 q
        refine lv_iload_n hx hb d_TuneSetterModel_letterOf_31 rfl (lv_at hl 0 rfl) ?_
        refine lv_bipush (v := 97) hx hb d_TuneSetterModel_letterOf_32 bp_97 ?_
        refine lv_isub hx hb d_TuneSetterModel_letterOf_34 ?_
        refine lv_goto (tgt := 39) hx hb d_TuneSetterModel_letterOf_35 rfl ?_
        exact W.iret hx hb hr (fun t ht hW => ⟨⟨_, (I, A), rfl, h, endR_of ht hP⟩, hS.F ht⟩) hS.2.2 d_TuneSetterModel_letterOf_39
  have hl := lv_entry ([.int x1]) (n := 1) (Nat.le_of_ble_eq_true rfl)
  rw [lg_entry_eq]
  generalize (lg_sl ([.int x1]) ++ List.replicate (1 - (lg_sl ([.int x1])).length) Slot.unset).toArray = ls at hl ⊢
  have hl : lv_has ls 1 [(0, .int x1)] := hl
  unfold wp_TuneSetterModel_letterOf at h
  refine lv_iload_n hx hb d_TuneSetterModel_letterOf_0 rfl (lv_at hl 0 rfl) ?_
  refine lv_bipush (v := 65) hx hb d_TuneSetterModel_letterOf_1 bp_65 ?_
  refine lv_icmp_lt (tgt := 19) hx hb d_TuneSetterModel_letterOf_3 rfl (fun q => ?_) (fun q => ?_)
  · have h := h.1 q
    exact j19 x1 I A _ _ _ h hP hS (lv_sub hl [0] rfl)
  · have h := h.2 q
    refine lv_iload_n hx hb d_TuneSetterModel_letterOf_6 rfl (lv_at hl 0 rfl) ?_
    refine lv_bipush (v := 71) hx hb d_TuneSetterModel_letterOf_7 bp_71 ?_
    refine lv_icmp_gt (tgt := 19) hx hb d_TuneSetterModel_letterOf_9 rfl (fun q => ?_) (fun q => ?_)
    · have h := h.1 q
      exact j19 x1 I A _ _ _ h hP hS (lv_sub hl [0] rfl)
    · have h := h.2 q
      refine lv_iload_n hx hb d_TuneSetterModel_letterOf_12 rfl (lv_at hl 0 rfl) ?_
      refine lv_bipush (v := 65) hx hb d_TuneSetterModel_letterOf_13 bp_65 ?_
      refine lv_isub hx hb d_TuneSetterModel_letterOf_15 ?_
      refine lv_goto (tgt := 39) hx hb d_TuneSetterModel_letterOf_16 rfl ?_
      exact W.iret hx hb hr (fun t ht hW => ⟨⟨_, (I, A), rfl, h, endR_of ht hP⟩, hS.F ht⟩) hS.2.2 d_TuneSetterModel_letterOf_39
theorem k_TuneSetterModel_letterOf {p : Program} {l : Launch} {e : Env} {R : Room} {s : State} {m : MethodId} {args : Array Value} {below : List Frame} {meth : Method} {c : Code} {H : Heap} {locs : List Loc} {cells slots : Nat} {Q : State → Prop} {cc : ByteArray} {pc nL idx : Nat} {own : String} {ls : Array Slot} {D : va_G} {cA a : Nat → Nat} {AA : Nat → Prop} {I : Nat → Int32} {A : Nat → Nat → Int32} {post : Int32 → (Nat → Int32) → (Nat → Nat → Int32) → Prop} (x1 : Int32) {rest : List Value} (S : CallFix p m c cc nL s args WALL own) (hK : KR D cA a AA s) (hD : ∀ I A, va_D AA (wR cA a I A)) (hA : ∀ q : Nat, s.heap.size ≤ q → AA q) (hS : va_S AA s.heap H locs) (hP : va_P D cls (wR cA a I A) H) (hl1 : ls.size = nL) (hlink : (Cond.methodLink own idx y_TuneSetterModel_letterOf).before args s = true) (hst : (rest.map fun v => v.category).sum ≤ 8) (hR : ({ frames := 0, cells := 0, slots := 0, locals := 0 } : Room).frames + 1 ≤ R.frames ∧ 8 + (1 + 11) + ({ frames := 0, cells := 0, slots := 0, locals := 0 } : Room).locals ≤ R.locals) (hcs : cells ≤ R.cells ∧ slots ≤ R.slots) (hdg : decode cc pc = .ok (.invokestatic idx, 3)) (h : wp_TuneSetterModel_letterOf x1 I A post) (kk : ∀ (r : Int32) (I1 : Nat → Int32) (A1 : Nat → Nat → Int32) (H1 : Heap) (locs1 : List Loc), post r I1 A1 → va_P D cls (wR cA a I1 A1) H1 → va_S AA s.heap H1 locs1 → W p l e R s m args below meth c H1 locs1 cells slots Q (F0 m (pc + 3) ls (.int r :: rest))) : W p l e R s m args below meth c H locs cells slots Q (F0 m pc ls (.int x1 :: rest)) :=
  va_calli (va_runS (As := [.int x1]) (rest := rest) S (c_TuneSetterModel_letterOf l D cA a H.size x1 I A post h) ⟨callB_of 1 S.2.2.2.2 g_TuneSetterModel_letterOf rfl rfl rfl (S.2.2.2.2 _ mi_TuneSetterModel) hlink ⟨by decide, by decide, by decide +kernel⟩ hR, S.2.2.2.2 _ mn_TuneSetterModel_letterOf⟩ (preRS hK hD hA hS hP) rfl rfl hl1 rfl (lv_room hst) hdg hcs) hS (fun q _ z => AR_le hD hA hS q z) (fun q z => AR_le hD hA hS q z) (fun r u t H1 locs1 ht _ hp hB _ _ hS1 => kk r u.1 u.2 H1 locs1 hp (of_endR ht hB) hS1)
def wp_TuneSetterModel_beginsNote (x1 : Int32) (I : Nat → Int32) (A : Nat → Nat → Int32) (post : Int32 → (Nat → Int32) → (Nat → Nat → Int32) → Prop) : Prop := ((x1 = 94 → post 1 I A) ∧ (¬ x1 = 94 → ((x1 = 95 → post 1 I A) ∧ (¬ x1 = 95 → ((x1 = 61 → post 1 I A) ∧ (¬ x1 = 61 → (wp_TuneSetterModel_letterOf x1 I A (fun r19 I19 A19 => ((r19 < 0 → post 0 I19 A19) ∧ (¬ r19 < 0 → post 1 I19 A19))))))))))
theorem d_TuneSetterModel_beginsNote_0 : decode b_TuneSetterModel_beginsNote 0 = .ok (.iload_n 0, 1) := by decide +kernel
theorem d_TuneSetterModel_beginsNote_1 : decode b_TuneSetterModel_beginsNote 1 = .ok (.bipush 94, 2) := by decide +kernel
theorem d_TuneSetterModel_beginsNote_3 : decode b_TuneSetterModel_beginsNote 3 = .ok (.if_icmp .eq 22, 3) := by decide +kernel
theorem d_TuneSetterModel_beginsNote_6 : decode b_TuneSetterModel_beginsNote 6 = .ok (.iload_n 0, 1) := by decide +kernel
theorem d_TuneSetterModel_beginsNote_7 : decode b_TuneSetterModel_beginsNote 7 = .ok (.bipush 95, 2) := by decide +kernel
theorem d_TuneSetterModel_beginsNote_9 : decode b_TuneSetterModel_beginsNote 9 = .ok (.if_icmp .eq 16, 3) := by decide +kernel
theorem d_TuneSetterModel_beginsNote_12 : decode b_TuneSetterModel_beginsNote 12 = .ok (.iload_n 0, 1) := by decide +kernel
theorem d_TuneSetterModel_beginsNote_13 : decode b_TuneSetterModel_beginsNote 13 = .ok (.bipush 61, 2) := by decide +kernel
theorem d_TuneSetterModel_beginsNote_15 : decode b_TuneSetterModel_beginsNote 15 = .ok (.if_icmp .eq 10, 3) := by decide +kernel
theorem d_TuneSetterModel_beginsNote_18 : decode b_TuneSetterModel_beginsNote 18 = .ok (.iload_n 0, 1) := by decide +kernel
theorem d_TuneSetterModel_beginsNote_19 : decode b_TuneSetterModel_beginsNote 19 = .ok (.invokestatic 114, 3) := by decide +kernel
theorem d_TuneSetterModel_beginsNote_22 : decode b_TuneSetterModel_beginsNote 22 = .ok (.ifCond .lt 7, 3) := by decide +kernel
theorem d_TuneSetterModel_beginsNote_25 : decode b_TuneSetterModel_beginsNote 25 = .ok (.iconst 1, 1) := by decide +kernel
theorem d_TuneSetterModel_beginsNote_26 : decode b_TuneSetterModel_beginsNote 26 = .ok (.goto 4, 3) := by decide +kernel
theorem d_TuneSetterModel_beginsNote_29 : decode b_TuneSetterModel_beginsNote 29 = .ok (.iconst 0, 1) := by decide +kernel
theorem d_TuneSetterModel_beginsNote_30 : decode b_TuneSetterModel_beginsNote 30 = .ok (.ireturn, 1) := by decide +kernel
def w_TuneSetterModel_beginsNote : List Cond := .code y_TuneSetterModel_beginsNote b_TuneSetterModel_beginsNote 1 (some .boolean) :: WALL
theorem g_TuneSetterModel_beginsNote : GoodIn WALL w_TuneSetterModel_beginsNote := good_of mc_TuneSetterModel_beginsNote
set_option maxHeartbeats 4000000 in
set_option maxRecDepth 100000 in
theorem c_TuneSetterModel_beginsNote (l : Launch) (D : va_G) (cA a : Nat → Nat) (sz : Nat) (x1 : Int32) (I : Nat → Int32) (A : Nat → Nat → Int32) (post : Int32 → (Nat → Int32) → (Nat → Nat → Int32) → Prop) (h : wp_TuneSetterModel_beginsNote x1 I A post) : Met l y_TuneSetterModel_beginsNote w_TuneSetterModel_beginsNote ({ frames := 1, cells := 0, slots := 0, locals := 20 }) (va_Pc [.int x1] (PreR D cA a I A sz)) (va_Qi (fun r (u : StW) => post r u.1 u.2) (EndR D cA a) (AR a sz)) 0 0 (AR a sz) := by
  refine Met.ofW (cc := b_TuneSetterModel_beginsNote) (maxL := 1) (ret := (some .boolean)) (by decide) rfl ?_
  intro p e s m args below meth c s₁ B hml hv
  obtain ⟨rfl, hsz, hP, hK, hD0⟩ := hv
  have hx := B.exec
  have hb := B.bytes
  have hr := B.returns
  have hts := atoms_spec (ws := w_TuneSetterModel_beginsNote) B.pre
  have hw := wall_of hts
  have hown : s.vm.findClass R_TuneSetterModel = some m.cls := findClass_of_methodNamed B.named
  have hlocks := B.notSynchronized
  subst hsz
  have hD := hDR (sz := s.heap.size) hD0
  have hA : ∀ q : Nat, s.heap.size ≤ q → AR a s.heap.size q := fun q h => Or.inr h
  have hS : va_S (AR a s.heap.size) s.heap s.heap [] := va_S.rf
  have hl := lv_entry ([.int x1]) (n := 1) (Nat.le_of_ble_eq_true rfl)
  rw [lg_entry_eq]
  generalize (lg_sl ([.int x1]) ++ List.replicate (1 - (lg_sl ([.int x1])).length) Slot.unset).toArray = ls at hl ⊢
  have hl : lv_has ls 1 [(0, .int x1)] := hl
  unfold wp_TuneSetterModel_beginsNote at h
  refine lv_iload_n hx hb d_TuneSetterModel_beginsNote_0 rfl (lv_at hl 0 rfl) ?_
  refine lv_bipush (v := 94) hx hb d_TuneSetterModel_beginsNote_1 bp_94 ?_
  refine lv_icmp_eq (tgt := 25) hx hb d_TuneSetterModel_beginsNote_3 rfl (fun q => ?_) (fun q => ?_)
  · have h := h.1 q
    refine lv_iconst (v := 1) hx hb d_TuneSetterModel_beginsNote_25 ic_1 ?_
    refine lv_goto (tgt := 30) hx hb d_TuneSetterModel_beginsNote_26 rfl ?_
    exact W.zret hx hb hr (vz_n vz1) (fun t ht hW => ⟨⟨_, (I, A), rfl, h, endR_of ht hP⟩, hS.F ht⟩) hS.2.2 d_TuneSetterModel_beginsNote_30
  · have h := h.2 q
    refine lv_iload_n hx hb d_TuneSetterModel_beginsNote_6 rfl (lv_at hl 0 rfl) ?_
    refine lv_bipush (v := 95) hx hb d_TuneSetterModel_beginsNote_7 bp_95 ?_
    refine lv_icmp_eq (tgt := 25) hx hb d_TuneSetterModel_beginsNote_9 rfl (fun q => ?_) (fun q => ?_)
    · have h := h.1 q
      refine lv_iconst (v := 1) hx hb d_TuneSetterModel_beginsNote_25 ic_1 ?_
      refine lv_goto (tgt := 30) hx hb d_TuneSetterModel_beginsNote_26 rfl ?_
      exact W.zret hx hb hr (vz_n vz1) (fun t ht hW => ⟨⟨_, (I, A), rfl, h, endR_of ht hP⟩, hS.F ht⟩) hS.2.2 d_TuneSetterModel_beginsNote_30
    · have h := h.2 q
      refine lv_iload_n hx hb d_TuneSetterModel_beginsNote_12 rfl (lv_at hl 0 rfl) ?_
      refine lv_bipush (v := 61) hx hb d_TuneSetterModel_beginsNote_13 bp_61 ?_
      refine lv_icmp_eq (tgt := 25) hx hb d_TuneSetterModel_beginsNote_15 rfl (fun q => ?_) (fun q => ?_)
      · have h := h.1 q
        refine lv_iconst (v := 1) hx hb d_TuneSetterModel_beginsNote_25 ic_1 ?_
        refine lv_goto (tgt := 30) hx hb d_TuneSetterModel_beginsNote_26 rfl ?_
        exact W.zret hx hb hr (vz_n vz1) (fun t ht hW => ⟨⟨_, (I, A), rfl, h, endR_of ht hP⟩, hS.F ht⟩) hS.2.2 d_TuneSetterModel_beginsNote_30
      · have h := h.2 q
        refine lv_iload_n hx hb d_TuneSetterModel_beginsNote_18 rfl (lv_at hl 0 rfl) ?_
        refine k_TuneSetterModel_letterOf x1 (rest := []) ⟨hx, hb, hml, hown, hw⟩ hK hD hA hS hP hl.1 (hw _ m_TuneSetterModel_114) (Nat.le_of_ble_eq_true rfl) ⟨Nat.le_of_ble_eq_true rfl, Nat.le_of_ble_eq_true rfl⟩ ⟨Nat.zero_le _, Nat.zero_le _⟩ d_TuneSetterModel_beginsNote_19 h (fun r19 I19 A19 H locs h hP hS => ?_)
        refine lv_if_lt (tgt := 29) hx hb d_TuneSetterModel_beginsNote_22 rfl (fun q => ?_) (fun q => ?_)
        · have h := h.1 q
          refine lv_iconst (v := 0) hx hb d_TuneSetterModel_beginsNote_29 ic_0 ?_
          exact W.zret hx hb hr (vz_n vz0) (fun t ht hW => ⟨⟨_, (I19, A19), rfl, h, endR_of ht hP⟩, hS.F ht⟩) hS.2.2 d_TuneSetterModel_beginsNote_30
        · have h := h.2 q
          refine lv_iconst (v := 1) hx hb d_TuneSetterModel_beginsNote_25 ic_1 ?_
          refine lv_goto (tgt := 30) hx hb d_TuneSetterModel_beginsNote_26 rfl ?_
          exact W.zret hx hb hr (vz_n vz1) (fun t ht hW => ⟨⟨_, (I19, A19), rfl, h, endR_of ht hP⟩, hS.F ht⟩) hS.2.2 d_TuneSetterModel_beginsNote_30
theorem k_TuneSetterModel_beginsNote {p : Program} {l : Launch} {e : Env} {R : Room} {s : State} {m : MethodId} {args : Array Value} {below : List Frame} {meth : Method} {c : Code} {H : Heap} {locs : List Loc} {cells slots : Nat} {Q : State → Prop} {cc : ByteArray} {pc nL idx : Nat} {own : String} {ls : Array Slot} {D : va_G} {cA a : Nat → Nat} {AA : Nat → Prop} {I : Nat → Int32} {A : Nat → Nat → Int32} {post : Int32 → (Nat → Int32) → (Nat → Nat → Int32) → Prop} (x1 : Int32) {rest : List Value} (S : CallFix p m c cc nL s args WALL own) (hK : KR D cA a AA s) (hD : ∀ I A, va_D AA (wR cA a I A)) (hA : ∀ q : Nat, s.heap.size ≤ q → AA q) (hS : va_S AA s.heap H locs) (hP : va_P D cls (wR cA a I A) H) (hl1 : ls.size = nL) (hlink : (Cond.methodLink own idx y_TuneSetterModel_beginsNote).before args s = true) (hst : (rest.map fun v => v.category).sum ≤ 8) (hR : ({ frames := 1, cells := 0, slots := 0, locals := 20 } : Room).frames + 1 ≤ R.frames ∧ 8 + (1 + 11) + ({ frames := 1, cells := 0, slots := 0, locals := 20 } : Room).locals ≤ R.locals) (hcs : cells ≤ R.cells ∧ slots ≤ R.slots) (hdg : decode cc pc = .ok (.invokestatic idx, 3)) (h : wp_TuneSetterModel_beginsNote x1 I A post) (kk : ∀ (r : Int32) (I1 : Nat → Int32) (A1 : Nat → Nat → Int32) (H1 : Heap) (locs1 : List Loc), post r I1 A1 → va_P D cls (wR cA a I1 A1) H1 → va_S AA s.heap H1 locs1 → W p l e R s m args below meth c H1 locs1 cells slots Q (F0 m (pc + 3) ls (.int r :: rest))) : W p l e R s m args below meth c H locs cells slots Q (F0 m pc ls (.int x1 :: rest)) :=
  va_calli (va_runS (As := [.int x1]) (rest := rest) S (c_TuneSetterModel_beginsNote l D cA a H.size x1 I A post h) ⟨callB_of 1 S.2.2.2.2 g_TuneSetterModel_beginsNote rfl rfl rfl (S.2.2.2.2 _ mi_TuneSetterModel) hlink ⟨by decide, by decide, by decide +kernel⟩ hR, S.2.2.2.2 _ mn_TuneSetterModel_beginsNote⟩ (preRS hK hD hA hS hP) rfl rfl hl1 rfl (lv_room hst) hdg hcs) hS (fun q _ z => AR_le hD hA hS q z) (fun q z => AR_le hD hA hS q z) (fun r u t H1 locs1 ht _ hp hB _ _ hS1 => kk r u.1 u.2 H1 locs1 hp (of_endR ht hB) hS1)

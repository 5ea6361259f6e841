def wp_Reader_followDigit (x1 : Int32) (I : Nat → Int32) (A : Nat → Nat → Int32) (post : Int32 → (Nat → Int32) → (Nat → Nat → Int32) → Prop) : Prop := (((I 14) = 4 → ((x1 = 49 → post 5 I A) ∧ (¬ x1 = 49 → ((x1 = 50 → post 5 I A) ∧ (¬ x1 = 50 → post (-1) I A))))) ∧ (¬ (I 14) = 4 → (((I 14) = 6 → ((x1 = 51 → post 7 I A) ∧ (¬ x1 = 51 → post (-1) I A))) ∧ (¬ (I 14) = 6 → (wp_ItemLength_takesDigit I A (fun r52 I52 A52 => ((r52 = 0 → post (-1) I52 A52) ∧ (¬ r52 = 0 → (((I52 14) = 16 → post 17 I52 A52) ∧ (¬ (I52 14) = 16 → (((I52 14) = 17 → post 17 I52 A52) ∧ (¬ (I52 14) = 17 → post 15 I52 A52))))))))))))
theorem d_Reader_followDigit_0 : decode b_Reader_followDigit 0 = .ok (.aload_n 0, 1) := by decide +kernel
theorem d_Reader_followDigit_1 : decode b_Reader_followDigit 1 = .ok (.getfield 55, 3) := by decide +kernel
theorem d_Reader_followDigit_4 : decode b_Reader_followDigit 4 = .ok (.iconst 4, 1) := by decide +kernel
theorem d_Reader_followDigit_5 : decode b_Reader_followDigit 5 = .ok (.if_icmp .ne 21, 3) := by decide +kernel
theorem d_Reader_followDigit_8 : decode b_Reader_followDigit 8 = .ok (.iload_n 1, 1) := by decide +kernel
theorem d_Reader_followDigit_9 : decode b_Reader_followDigit 9 = .ok (.bipush 49, 2) := by decide +kernel
theorem d_Reader_followDigit_11 : decode b_Reader_followDigit 11 = .ok (.if_icmp .eq 9, 3) := by decide +kernel
theorem d_Reader_followDigit_14 : decode b_Reader_followDigit 14 = .ok (.iload_n 1, 1) := by decide +kernel
theorem d_Reader_followDigit_15 : decode b_Reader_followDigit 15 = .ok (.bipush 50, 2) := by decide +kernel
theorem d_Reader_followDigit_17 : decode b_Reader_followDigit 17 = .ok (.if_icmp .ne 7, 3) := by decide +kernel
theorem d_Reader_followDigit_20 : decode b_Reader_followDigit 20 = .ok (.iconst 5, 1) := by decide +kernel
theorem d_Reader_followDigit_21 : decode b_Reader_followDigit 21 = .ok (.goto 4, 3) := by decide +kernel
theorem d_Reader_followDigit_24 : decode b_Reader_followDigit 24 = .ok (.iconst (-1), 1) := by decide +kernel
theorem d_Reader_followDigit_25 : decode b_Reader_followDigit 25 = .ok (.ireturn, 1) := by decide +kernel
theorem d_Reader_followDigit_26 : decode b_Reader_followDigit 26 = .ok (.aload_n 0, 1) := by decide +kernel
theorem d_Reader_followDigit_27 : decode b_Reader_followDigit 27 = .ok (.getfield 55, 3) := by decide +kernel
theorem d_Reader_followDigit_30 : decode b_Reader_followDigit 30 = .ok (.bipush 6, 2) := by decide +kernel
theorem d_Reader_followDigit_32 : decode b_Reader_followDigit 32 = .ok (.if_icmp .ne 16, 3) := by decide +kernel
theorem d_Reader_followDigit_35 : decode b_Reader_followDigit 35 = .ok (.iload_n 1, 1) := by decide +kernel
theorem d_Reader_followDigit_36 : decode b_Reader_followDigit 36 = .ok (.bipush 51, 2) := by decide +kernel
theorem d_Reader_followDigit_38 : decode b_Reader_followDigit 38 = .ok (.if_icmp .ne 8, 3) := by decide +kernel
theorem d_Reader_followDigit_41 : decode b_Reader_followDigit 41 = .ok (.bipush 7, 2) := by decide +kernel
theorem d_Reader_followDigit_43 : decode b_Reader_followDigit 43 = .ok (.goto 4, 3) := by decide +kernel
theorem d_Reader_followDigit_46 : decode b_Reader_followDigit 46 = .ok (.iconst (-1), 1) := by decide +kernel
theorem d_Reader_followDigit_47 : decode b_Reader_followDigit 47 = .ok (.ireturn, 1) := by decide +kernel
theorem d_Reader_followDigit_48 : decode b_Reader_followDigit 48 = .ok (.aload_n 0, 1) := by decide +kernel
theorem d_Reader_followDigit_49 : decode b_Reader_followDigit 49 = .ok (.getfield 28, 3) := by decide +kernel
theorem d_Reader_followDigit_52 : decode b_Reader_followDigit 52 = .ok (.invokevirtual 164, 3) := by decide +kernel
theorem d_Reader_followDigit_55 : decode b_Reader_followDigit 55 = .ok (.ifCond .ne 5, 3) := by decide +kernel
theorem d_Reader_followDigit_58 : decode b_Reader_followDigit 58 = .ok (.iconst (-1), 1) := by decide +kernel
theorem d_Reader_followDigit_59 : decode b_Reader_followDigit 59 = .ok (.ireturn, 1) := by decide +kernel
theorem d_Reader_followDigit_60 : decode b_Reader_followDigit 60 = .ok (.aload_n 0, 1) := by decide +kernel
theorem d_Reader_followDigit_61 : decode b_Reader_followDigit 61 = .ok (.getfield 55, 3) := by decide +kernel
theorem d_Reader_followDigit_64 : decode b_Reader_followDigit 64 = .ok (.bipush 16, 2) := by decide +kernel
theorem d_Reader_followDigit_66 : decode b_Reader_followDigit 66 = .ok (.if_icmp .eq 12, 3) := by decide +kernel
theorem d_Reader_followDigit_69 : decode b_Reader_followDigit 69 = .ok (.aload_n 0, 1) := by decide +kernel
theorem d_Reader_followDigit_70 : decode b_Reader_followDigit 70 = .ok (.getfield 55, 3) := by decide +kernel
theorem d_Reader_followDigit_73 : decode b_Reader_followDigit 73 = .ok (.bipush 17, 2) := by decide +kernel
theorem d_Reader_followDigit_75 : decode b_Reader_followDigit 75 = .ok (.if_icmp .ne 8, 3) := by decide +kernel
theorem d_Reader_followDigit_78 : decode b_Reader_followDigit 78 = .ok (.bipush 17, 2) := by decide +kernel
theorem d_Reader_followDigit_80 : decode b_Reader_followDigit 80 = .ok (.goto 5, 3) := by decide +kernel
theorem d_Reader_followDigit_83 : decode b_Reader_followDigit 83 = .ok (.bipush 15, 2) := by decide +kernel
theorem d_Reader_followDigit_85 : decode b_Reader_followDigit 85 = .ok (.ireturn, 1) := by decide +kernel
def w_Reader_followDigit : List Cond := .code y_Reader_followDigit b_Reader_followDigit 2 (some .int) :: WALL
theorem g_Reader_followDigit : GoodIn WALL w_Reader_followDigit := good_of mc_Reader_followDigit
set_option maxHeartbeats 4000000 in
set_option maxRecDepth 100000 in
theorem c_Reader_followDigit (l : Launch) (D : va_G) (cA a : Nat → Nat) (sz : Nat) (x1 : Int32) (I : Nat → Int32) (A : Nat → Nat → Int32) (post : Int32 → (Nat → Int32) → (Nat → Nat → Int32) → Prop) (h : wp_Reader_followDigit x1 I A post) : Met l y_Reader_followDigit w_Reader_followDigit ({ frames := 1, cells := 0, slots := 0, locals := 20 }) (va_Pc [.ref (a 2), .int x1] (PreC D cA a I A sz)) (va_Qi (fun r (u : StW) => post r u.1 u.2) (EndC D cA a) (AC a sz)) 0 0 (AC a sz) := by
  refine Met.ofW (cc := b_Reader_followDigit) (maxL := 2) (ret := (some .int)) (by decide) rfl ?_
  intro p e s m args below meth c s₁ B hml hv
  obtain ⟨rfl, hsz, hP, hK, hD0⟩ := hv
  have hx := B.exec
  have hb := B.bytes
  have hr := B.returns
  have hts := atoms_spec (ws := w_Reader_followDigit) B.pre
  have hw := wall_of hts
  have hown : s.vm.findClass R_Reader = some m.cls := findClass_of_methodNamed B.named
  have hlocks := B.notSynchronized
  subst hsz
  have hD := hDC (sz := s.heap.size) hD0
  have hA : ∀ q : Nat, s.heap.size ≤ q → AC a s.heap.size q := fun q h => Or.inr h
  have hS : va_S (AC a s.heap.size) s.heap s.heap [] := va_S.rf
  have hl := lv_entry ([.ref (a 2), .int x1]) (n := 2) (Nat.le_of_ble_eq_true rfl)
  rw [lg_entry_eq]
  generalize (lg_sl ([.ref (a 2), .int x1]) ++ List.replicate (2 - (lg_sl ([.ref (a 2), .int x1])).length) Slot.unset).toArray = ls at hl ⊢
  have hl : lv_has ls 2 [(0, .ref (a 2)), (1, .int x1)] := hl
  unfold wp_Reader_followDigit at h
  refine lv_aload_n hx hb d_Reader_followDigit_0 rfl (lv_at hl 0 rfl) ?_
  refine gC_Reader_state hx hb hw hown hK hP (hw _ m_Reader_55) d_Reader_followDigit_1 ?_
  refine lv_iconst (v := 4) hx hb d_Reader_followDigit_4 ic_4 ?_
  refine lv_icmp_ne (tgt := 26) hx hb d_Reader_followDigit_5 rfl (fun q => ?_) (fun q => ?_)
  · have h := h.2 q
    refine lv_aload_n hx hb d_Reader_followDigit_26 rfl (lv_at hl 0 rfl) ?_
    refine gC_Reader_state hx hb hw hown hK hP (hw _ m_Reader_55) d_Reader_followDigit_27 ?_
    refine lv_bipush (v := 6) hx hb d_Reader_followDigit_30 bp_6 ?_
    refine lv_icmp_ne (tgt := 48) hx hb d_Reader_followDigit_32 rfl (fun q => ?_) (fun q => ?_)
    · have h := h.2 q
      refine lv_aload_n hx hb d_Reader_followDigit_48 rfl (lv_at hl 0 rfl) ?_
      refine gC_Reader_itemLength hx hb hw hown hK hP (hw _ m_Reader_28) d_Reader_followDigit_49 ?_
      refine k_ItemLength_takesDigit (rest := []) ⟨hx, hb, hml, hown, hw⟩ hK hD hA hS hP hl.1 (hw _ m_Reader_164) (Nat.le_of_ble_eq_true rfl) ⟨Nat.le_of_ble_eq_true rfl, Nat.le_of_ble_eq_true rfl⟩ ⟨Nat.zero_le _, Nat.zero_le _⟩ d_Reader_followDigit_52 h (fun r52 I52 A52 H locs h hP hS => ?_)
      refine lv_if_ne (tgt := 60) hx hb d_Reader_followDigit_55 rfl (fun q => ?_) (fun q => ?_)
      · have h := h.2 q
        refine lv_aload_n hx hb d_Reader_followDigit_60 rfl (lv_at hl 0 rfl) ?_
        refine gC_Reader_state hx hb hw hown hK hP (hw _ m_Reader_55) d_Reader_followDigit_61 ?_
        refine lv_bipush (v := 16) hx hb d_Reader_followDigit_64 bp_16 ?_
        refine lv_icmp_eq (tgt := 78) hx hb d_Reader_followDigit_66 rfl (fun q => ?_) (fun q => ?_)
        · have h := h.1 q
          refine lv_bipush (v := 17) hx hb d_Reader_followDigit_78 bp_17 ?_
          refine lv_goto (tgt := 85) hx hb d_Reader_followDigit_80 rfl ?_
          exact W.iret hx hb hr (fun t ht hW => ⟨⟨_, (I52, A52), rfl, h, endC_of ht hP⟩, hS.F ht⟩) hS.2.2 d_Reader_followDigit_85
        · have h := h.2 q
          refine lv_aload_n hx hb d_Reader_followDigit_69 rfl (lv_at hl 0 rfl) ?_
          refine gC_Reader_state hx hb hw hown hK hP (hw _ m_Reader_55) d_Reader_followDigit_70 ?_
          refine lv_bipush (v := 17) hx hb d_Reader_followDigit_73 bp_17 ?_
          refine lv_icmp_ne (tgt := 83) hx hb d_Reader_followDigit_75 rfl (fun q => ?_) (fun q => ?_)
          · have h := h.2 q
            refine lv_bipush (v := 15) hx hb d_Reader_followDigit_83 bp_15 ?_
            exact W.iret hx hb hr (fun t ht hW => ⟨⟨_, (I52, A52), rfl, h, endC_of ht hP⟩, hS.F ht⟩) hS.2.2 d_Reader_followDigit_85
          · have h := h.1 q
            refine lv_bipush (v := 17) hx hb d_Reader_followDigit_78 bp_17 ?_
            refine lv_goto (tgt := 85) hx hb d_Reader_followDigit_80 rfl ?_
            exact W.iret hx hb hr (fun t ht hW => ⟨⟨_, (I52, A52), rfl, h, endC_of ht hP⟩, hS.F ht⟩) hS.2.2 d_Reader_followDigit_85
      · have h := h.1 q
        refine lv_iconst (v := (-1)) hx hb d_Reader_followDigit_58 ic_m1 ?_
        exact W.iret hx hb hr (fun t ht hW => ⟨⟨_, (I52, A52), rfl, h, endC_of ht hP⟩, hS.F ht⟩) hS.2.2 d_Reader_followDigit_59
    · have h := h.1 q
      refine lv_iload_n hx hb d_Reader_followDigit_35 rfl (lv_at hl 1 rfl) ?_
      refine lv_bipush (v := 51) hx hb d_Reader_followDigit_36 bp_51 ?_
      refine lv_icmp_ne (tgt := 46) hx hb d_Reader_followDigit_38 rfl (fun q => ?_) (fun q => ?_)
      · have h := h.2 q
        refine lv_iconst (v := (-1)) hx hb d_Reader_followDigit_46 ic_m1 ?_
        exact W.iret hx hb hr (fun t ht hW => ⟨⟨_, (I, A), rfl, h, endC_of ht hP⟩, hS.F ht⟩) hS.2.2 d_Reader_followDigit_47
      · have h := h.1 q
        refine lv_bipush (v := 7) hx hb d_Reader_followDigit_41 bp_7 ?_
        refine lv_goto (tgt := 47) hx hb d_Reader_followDigit_43 rfl ?_
        exact W.iret hx hb hr (fun t ht hW => ⟨⟨_, (I, A), rfl, h, endC_of ht hP⟩, hS.F ht⟩) hS.2.2 d_Reader_followDigit_47
  · have h := h.1 q
    refine lv_iload_n hx hb d_Reader_followDigit_8 rfl (lv_at hl 1 rfl) ?_
    refine lv_bipush (v := 49) hx hb d_Reader_followDigit_9 bp_49 ?_
    refine lv_icmp_eq (tgt := 20) hx hb d_Reader_followDigit_11 rfl (fun q => ?_) (fun q => ?_)
    · have h := h.1 q
      refine lv_iconst (v := 5) hx hb d_Reader_followDigit_20 ic_5 ?_
      refine lv_goto (tgt := 25) hx hb d_Reader_followDigit_21 rfl ?_
      exact W.iret hx hb hr (fun t ht hW => ⟨⟨_, (I, A), rfl, h, endC_of ht hP⟩, hS.F ht⟩) hS.2.2 d_Reader_followDigit_25
    · have h := h.2 q
      refine lv_iload_n hx hb d_Reader_followDigit_14 rfl (lv_at hl 1 rfl) ?_
      refine lv_bipush (v := 50) hx hb d_Reader_followDigit_15 bp_50 ?_
      refine lv_icmp_ne (tgt := 24) hx hb d_Reader_followDigit_17 rfl (fun q => ?_) (fun q => ?_)
      · have h := h.2 q
        refine lv_iconst (v := (-1)) hx hb d_Reader_followDigit_24 ic_m1 ?_
        exact W.iret hx hb hr (fun t ht hW => ⟨⟨_, (I, A), rfl, h, endC_of ht hP⟩, hS.F ht⟩) hS.2.2 d_Reader_followDigit_25
      · have h := h.1 q
        refine lv_iconst (v := 5) hx hb d_Reader_followDigit_20 ic_5 ?_
        refine lv_goto (tgt := 25) hx hb d_Reader_followDigit_21 rfl ?_
        exact W.iret hx hb hr (fun t ht hW => ⟨⟨_, (I, A), rfl, h, endC_of ht hP⟩, hS.F ht⟩) hS.2.2 d_Reader_followDigit_25
theorem k_Reader_followDigit {p : Program} {l : Launch} {e : Env} {R : Room} {s : State} {m : MethodId} {args : Array Value} {below : List Frame} {meth : Method} {c : Code} {H : Heap} {locs : List Loc} {cells slots : Nat} {Q : State → Prop} {cc : ByteArray} {pc nL idx : Nat} {own : String} {ls : Array Slot} {D : va_G} {cA a : Nat → Nat} {AA : Nat → Prop} {I : Nat → Int32} {A : Nat → Nat → Int32} {post : Int32 → (Nat → Int32) → (Nat → Nat → Int32) → Prop} (x1 : Int32) {rest : List Value} (S : CallFix p m c cc nL s args WALL own) (hK : KC D cA a AA s) (hD : ∀ I A, va_D AA (wC cA a I A)) (hA : ∀ q : Nat, s.heap.size ≤ q → AA q) (hS : va_S AA s.heap H locs) (hP : va_P D cls (wC cA a I A) H) (hl1 : ls.size = nL) (hlink : (Cond.methodLink own idx y_Reader_followDigit).before args s = true) (hst : (rest.map fun v => v.category).sum ≤ 8) (hR : ({ frames := 1, cells := 0, slots := 0, locals := 20 } : Room).frames + 1 ≤ R.frames ∧ 8 + (2 + 11) + ({ frames := 1, cells := 0, slots := 0, locals := 20 } : Room).locals ≤ R.locals) (hcs : cells ≤ R.cells ∧ slots ≤ R.slots) (hdg : decode cc pc = .ok (.invokevirtual idx, 3)) (h : wp_Reader_followDigit x1 I A post) (kk : ∀ (r : Int32) (I1 : Nat → Int32) (A1 : Nat → Nat → Int32) (H1 : Heap) (locs1 : List Loc), post r I1 A1 → va_P D cls (wC cA a I1 A1) H1 → va_S AA s.heap H1 locs1 → W p l e R s m args below meth c H1 locs1 cells slots Q (F0 m (pc + 3) ls (.int r :: rest))) : W p l e R s m args below meth c H locs cells slots Q (F0 m pc ls (.int x1 :: .ref (a 2) :: rest)) :=
  va_calli (va_runV (As := [.int x1]) (rest := rest) S (c_Reader_followDigit l D cA a H.size x1 I A post h) ⟨callB_of 1 S.2.2.2.2 g_Reader_followDigit rfl rfl rfl (S.2.2.2.2 _ mi_Reader) hlink ⟨by decide, by decide, by decide +kernel⟩ hR, S.2.2.2.2 _ mn_Reader_followDigit, S.2.2.2.2 _ ms_Reader_followDigit⟩ (preCV hK hD hA hS hP 2 rfl rfl) rfl rfl hl1 rfl (lv_room hst) hdg hcs) hS (fun q _ z => AC_le hD hA hS q z) (fun q z => AC_le hD hA hS q z) (fun r u t H1 locs1 ht _ hp hB _ _ hS1 => kk r u.1 u.2 H1 locs1 hp (of_endC ht hB) hS1)
def wp_Reader_isNoteLetter (x1 : Int32) (I : Nat → Int32) (A : Nat → Nat → Int32) (post : Int32 → (Nat → Int32) → (Nat → Nat → Int32) → Prop) : Prop := ((x1 < 65 → ((x1 < 97 → post 0 I A) ∧ (¬ x1 < 97 → ((103 < x1 → post 0 I A) ∧ (¬ 103 < x1 → post 1 I A))))) ∧ (¬ x1 < 65 → ((x1 ≤ 71 → post 1 I A) ∧ (¬ x1 ≤ 71 → ((x1 < 97 → post 0 I A) ∧ (¬ x1 < 97 → ((103 < x1 → post 0 I A) ∧ (¬ 103 < x1 → post 1 I A))))))))
theorem d_Reader_isNoteLetter_0 : decode b_Reader_isNoteLetter 0 = .ok (.iload_n 0, 1) := by decide +kernel
theorem d_Reader_isNoteLetter_1 : decode b_Reader_isNoteLetter 1 = .ok (.bipush 65, 2) := by decide +kernel
theorem d_Reader_isNoteLetter_3 : decode b_Reader_isNoteLetter 3 = .ok (.if_icmp .lt 9, 3) := by decide +kernel
theorem d_Reader_isNoteLetter_6 : decode b_Reader_isNoteLetter 6 = .ok (.iload_n 0, 1) := by decide +kernel
theorem d_Reader_isNoteLetter_7 : decode b_Reader_isNoteLetter 7 = .ok (.bipush 71, 2) := by decide +kernel
theorem d_Reader_isNoteLetter_9 : decode b_Reader_isNoteLetter 9 = .ok (.if_icmp .le 15, 3) := by decide +kernel
theorem d_Reader_isNoteLetter_12 : decode b_Reader_isNoteLetter 12 = .ok (.iload_n 0, 1) := by decide +kernel
theorem d_Reader_isNoteLetter_13 : decode b_Reader_isNoteLetter 13 = .ok (.bipush 97, 2) := by decide +kernel
theorem d_Reader_isNoteLetter_15 : decode b_Reader_isNoteLetter 15 = .ok (.if_icmp .lt 13, 3) := by decide +kernel
theorem d_Reader_isNoteLetter_18 : decode b_Reader_isNoteLetter 18 = .ok (.iload_n 0, 1) := by decide +kernel
theorem d_Reader_isNoteLetter_19 : decode b_Reader_isNoteLetter 19 = .ok (.bipush 103, 2) := by decide +kernel
theorem d_Reader_isNoteLetter_21 : decode b_Reader_isNoteLetter 21 = .ok (.if_icmp .gt 7, 3) := by decide +kernel
theorem d_Reader_isNoteLetter_24 : decode b_Reader_isNoteLetter 24 = .ok (.iconst 1, 1) := by decide +kernel
theorem d_Reader_isNoteLetter_25 : decode b_Reader_isNoteLetter 25 = .ok (.goto 4, 3) := by decide +kernel
theorem d_Reader_isNoteLetter_28 : decode b_Reader_isNoteLetter 28 = .ok (.iconst 0, 1) := by decide +kernel
theorem d_Reader_isNoteLetter_29 : decode b_Reader_isNoteLetter 29 = .ok (.ireturn, 1) := by decide +kernel
def w_Reader_isNoteLetter : List Cond := .code y_Reader_isNoteLetter b_Reader_isNoteLetter 1 (some .boolean) :: WALL
theorem g_Reader_isNoteLetter : GoodIn WALL w_Reader_isNoteLetter := good_of mc_Reader_isNoteLetter
set_option maxHeartbeats 4000000 in
set_option maxRecDepth 100000 in
theorem c_Reader_isNoteLetter (l : Launch) (D : va_G) (cA a : Nat → Nat) (sz : Nat) (x1 : Int32) (I : Nat → Int32) (A : Nat → Nat → Int32) (post : Int32 → (Nat → Int32) → (Nat → Nat → Int32) → Prop) (h : wp_Reader_isNoteLetter x1 I A post) : Met l y_Reader_isNoteLetter w_Reader_isNoteLetter ({ frames := 0, cells := 0, slots := 0, locals := 0 }) (va_Pc [.int x1] (PreC D cA a I A sz)) (va_Qi (fun r (u : StW) => post r u.1 u.2) (EndC D cA a) (AC a sz)) 0 0 (AC a sz) := by
  refine Met.ofW (cc := b_Reader_isNoteLetter) (maxL := 1) (ret := (some .boolean)) (by decide) rfl ?_
  intro p e s m args below meth c s₁ B hml hv
  obtain ⟨rfl, hsz, hP, hK, hD0⟩ := hv
  have hx := B.exec
  have hb := B.bytes
  have hr := B.returns
  have hts := atoms_spec (ws := w_Reader_isNoteLetter) B.pre
  have hw := wall_of hts
  have hown : s.vm.findClass R_Reader = some m.cls := findClass_of_methodNamed B.named
  have hlocks := B.notSynchronized
  subst hsz
  have hD := hDC (sz := s.heap.size) hD0
  have hA : ∀ q : Nat, s.heap.size ≤ q → AC a s.heap.size q := fun q h => Or.inr h
  have hS : va_S (AC a s.heap.size) s.heap s.heap [] := va_S.rf
  have hl := lv_entry ([.int x1]) (n := 1) (Nat.le_of_ble_eq_true rfl)
  rw [lg_entry_eq]
  generalize (lg_sl ([.int x1]) ++ List.replicate (1 - (lg_sl ([.int x1])).length) Slot.unset).toArray = ls at hl ⊢
  have hl : lv_has ls 1 [(0, .int x1)] := hl
  unfold wp_Reader_isNoteLetter at h
  refine lv_iload_n hx hb d_Reader_isNoteLetter_0 rfl (lv_at hl 0 rfl) ?_
  refine lv_bipush (v := 65) hx hb d_Reader_isNoteLetter_1 bp_65 ?_
  refine lv_icmp_lt (tgt := 12) hx hb d_Reader_isNoteLetter_3 rfl (fun q => ?_) (fun q => ?_)
  · have h := h.1 q
    refine lv_iload_n hx hb d_Reader_isNoteLetter_12 rfl (lv_at hl 0 rfl) ?_
    refine lv_bipush (v := 97) hx hb d_Reader_isNoteLetter_13 bp_97 ?_
    refine lv_icmp_lt (tgt := 28) hx hb d_Reader_isNoteLetter_15 rfl (fun q => ?_) (fun q => ?_)
    · have h := h.1 q
      refine lv_iconst (v := 0) hx hb d_Reader_isNoteLetter_28 ic_0 ?_
      exact W.zret hx hb hr (vz_n vz0) (fun t ht hW => ⟨⟨_, (I, A), rfl, h, endC_of ht hP⟩, hS.F ht⟩) hS.2.2 d_Reader_isNoteLetter_29
    · have h := h.2 q
      refine lv_iload_n hx hb d_Reader_isNoteLetter_18 rfl (lv_at hl 0 rfl) ?_
      refine lv_bipush (v := 103) hx hb d_Reader_isNoteLetter_19 bp_103 ?_
      refine lv_icmp_gt (tgt := 28) hx hb d_Reader_isNoteLetter_21 rfl (fun q => ?_) (fun q => ?_)
      · have h := h.1 q
        refine lv_iconst (v := 0) hx hb d_Reader_isNoteLetter_28 ic_0 ?_
        exact W.zret hx hb hr (vz_n vz0) (fun t ht hW => ⟨⟨_, (I, A), rfl, h, endC_of ht hP⟩, hS.F ht⟩) hS.2.2 d_Reader_isNoteLetter_29
      · have h := h.2 q
        refine lv_iconst (v := 1) hx hb d_Reader_isNoteLetter_24 ic_1 ?_
        refine lv_goto (tgt := 29) hx hb d_Reader_isNoteLetter_25 rfl ?_
        exact W.zret hx hb hr (vz_n vz1) (fun t ht hW => ⟨⟨_, (I, A), rfl, h, endC_of ht hP⟩, hS.F ht⟩) hS.2.2 d_Reader_isNoteLetter_29
  · have h := h.2 q
    refine lv_iload_n hx hb d_Reader_isNoteLetter_6 rfl (lv_at hl 0 rfl) ?_
    refine lv_bipush (v := 71) hx hb d_Reader_isNoteLetter_7 bp_71 ?_
    refine lv_icmp_le (tgt := 24) hx hb d_Reader_isNoteLetter_9 rfl (fun q => ?_) (fun q => ?_)
    · have h := h.1 q
      refine lv_iconst (v := 1) hx hb d_Reader_isNoteLetter_24 ic_1 ?_
      refine lv_goto (tgt := 29) hx hb d_Reader_isNoteLetter_25 rfl ?_
      exact W.zret hx hb hr (vz_n vz1) (fun t ht hW => ⟨⟨_, (I, A), rfl, h, endC_of ht hP⟩, hS.F ht⟩) hS.2.2 d_Reader_isNoteLetter_29
    · have h := h.2 q
      refine lv_iload_n hx hb d_Reader_isNoteLetter_12 rfl (lv_at hl 0 rfl) ?_
      refine lv_bipush (v := 97) hx hb d_Reader_isNoteLetter_13 bp_97 ?_
      refine lv_icmp_lt (tgt := 28) hx hb d_Reader_isNoteLetter_15 rfl (fun q => ?_) (fun q => ?_)
      · have h := h.1 q
        refine lv_iconst (v := 0) hx hb d_Reader_isNoteLetter_28 ic_0 ?_
        exact W.zret hx hb hr (vz_n vz0) (fun t ht hW => ⟨⟨_, (I, A), rfl, h, endC_of ht hP⟩, hS.F ht⟩) hS.2.2 d_Reader_isNoteLetter_29
      · have h := h.2 q
        refine lv_iload_n hx hb d_Reader_isNoteLetter_18 rfl (lv_at hl 0 rfl) ?_
        refine lv_bipush (v := 103) hx hb d_Reader_isNoteLetter_19 bp_103 ?_
        refine lv_icmp_gt (tgt := 28) hx hb d_Reader_isNoteLetter_21 rfl (fun q => ?_) (fun q => ?_)
        · have h := h.1 q
          refine lv_iconst (v := 0) hx hb d_Reader_isNoteLetter_28 ic_0 ?_
          exact W.zret hx hb hr (vz_n vz0) (fun t ht hW => ⟨⟨_, (I, A), rfl, h, endC_of ht hP⟩, hS.F ht⟩) hS.2.2 d_Reader_isNoteLetter_29
        · have h := h.2 q
          refine lv_iconst (v := 1) hx hb d_Reader_isNoteLetter_24 ic_1 ?_
          refine lv_goto (tgt := 29) hx hb d_Reader_isNoteLetter_25 rfl ?_
          exact W.zret hx hb hr (vz_n vz1) (fun t ht hW => ⟨⟨_, (I, A), rfl, h, endC_of ht hP⟩, hS.F ht⟩) hS.2.2 d_Reader_isNoteLetter_29
theorem k_Reader_isNoteLetter {p : Program} {l : Launch} {e : Env} {R : Room} {s : State} {m : MethodId} {args : Array Value} {below : List Frame} {meth : Method} {c : Code} {H : Heap} {locs : List Loc} {cells slots : Nat} {Q : State → Prop} {cc : ByteArray} {pc nL idx : Nat} {own : String} {ls : Array Slot} {D : va_G} {cA a : Nat → Nat} {AA : Nat → Prop} {I : Nat → Int32} {A : Nat → Nat → Int32} {post : Int32 → (Nat → Int32) → (Nat → Nat → Int32) → Prop} (x1 : Int32) {rest : List Value} (S : CallFix p m c cc nL s args WALL own) (hK : KC D cA a AA s) (hD : ∀ I A, va_D AA (wC cA a I A)) (hA : ∀ q : Nat, s.heap.size ≤ q → AA q) (hS : va_S AA s.heap H locs) (hP : va_P D cls (wC cA a I A) H) (hl1 : ls.size = nL) (hlink : (Cond.methodLink own idx y_Reader_isNoteLetter).before args s = true) (hst : (rest.map fun v => v.category).sum ≤ 8) (hR : ({ frames := 0, cells := 0, slots := 0, locals := 0 } : Room).frames + 1 ≤ R.frames ∧ 8 + (1 + 11) + ({ frames := 0, cells := 0, slots := 0, locals := 0 } : Room).locals ≤ R.locals) (hcs : cells ≤ R.cells ∧ slots ≤ R.slots) (hdg : decode cc pc = .ok (.invokestatic idx, 3)) (h : wp_Reader_isNoteLetter x1 I A post) (kk : ∀ (r : Int32) (I1 : Nat → Int32) (A1 : Nat → Nat → Int32) (H1 : Heap) (locs1 : List Loc), post r I1 A1 → va_P D cls (wC cA a I1 A1) H1 → va_S AA s.heap H1 locs1 → W p l e R s m args below meth c H1 locs1 cells slots Q (F0 m (pc + 3) ls (.int r :: rest))) : W p l e R s m args below meth c H locs cells slots Q (F0 m pc ls (.int x1 :: rest)) :=
  va_calli (va_runS (As := [.int x1]) (rest := rest) S (c_Reader_isNoteLetter l D cA a H.size x1 I A post h) ⟨callB_of 1 S.2.2.2.2 g_Reader_isNoteLetter rfl rfl rfl (S.2.2.2.2 _ mi_Reader) hlink ⟨by decide, by decide, by decide +kernel⟩ hR, S.2.2.2.2 _ mn_Reader_isNoteLetter⟩ (preCS hK hD hA hS hP) rfl rfl hl1 rfl (lv_room hst) hdg hcs) hS (fun q _ z => AC_le hD hA hS q z) (fun q z => AC_le hD hA hS q z) (fun r u t H1 locs1 ht _ hp hB _ _ hS1 => kk r u.1 u.2 H1 locs1 hp (of_endC ht hB) hS1)
def wp_Reader_followOther_23 (post : Int32 → (Nat → Int32) → (Nat → Nat → Int32) → Prop) (y1 : Int32) (I : Nat → Int32) (A : Nat → Nat → Int32) : Prop := (wp_Reader_isNoteLetter y1 I A (fun r24 I24 A24 => ((r24 = 0 → post (-1) I24 A24) ∧ (¬ r24 = 0 → (wp_Reader_may 320 I24 A24 (fun r34 I34 A34 => ((r34 = 0 → post (-1) I34 A34) ∧ (¬ r34 = 0 → post 11 I34 A34))))))))
def wp_Reader_followOther (x1 : Int32) (I : Nat → Int32) (A : Nat → Nat → Int32) (post : Int32 → (Nat → Int32) → (Nat → Nat → Int32) → Prop) : Prop := (wp_Reader_isDigit x1 I A (fun r1 I1 A1 => ((r1 = 0 → wp_Reader_followOther_23 post x1 I1 A1) ∧ (¬ r1 = 0 → (wp_Reader_may 4096 I1 A1 (fun r11 I11 A11 => ((r11 = 0 → wp_Reader_followOther_23 post x1 I11 A11) ∧ (¬ r11 = 0 → (wp_Reader_followDigit x1 I11 A11 (fun r19 I19 A19 => post r19 I19 A19))))))))))
theorem d_Reader_followOther_0 : decode b_Reader_followOther 0 = .ok (.iload_n 1, 1) := by decide +kernel
theorem d_Reader_followOther_1 : decode b_Reader_followOther 1 = .ok (.invokestatic 123, 3) := by decide +kernel
theorem d_Reader_followOther_4 : decode b_Reader_followOther 4 = .ok (.ifCond .eq 19, 3) := by decide +kernel
theorem d_Reader_followOther_7 : decode b_Reader_followOther 7 = .ok (.aload_n 0, 1) := by decide +kernel
theorem d_Reader_followOther_8 : decode b_Reader_followOther 8 = .ok (.sipush 4096, 3) := by decide +kernel
theorem d_Reader_followOther_11 : decode b_Reader_followOther 11 = .ok (.invokevirtual 141, 3) := by decide +kernel
theorem d_Reader_followOther_14 : decode b_Reader_followOther 14 = .ok (.ifCond .eq 9, 3) := by decide +kernel
theorem d_Reader_followOther_17 : decode b_Reader_followOther 17 = .ok (.aload_n 0, 1) := by decide +kernel
theorem d_Reader_followOther_18 : decode b_Reader_followOther 18 = .ok (.iload_n 1, 1) := by decide +kernel
theorem d_Reader_followOther_19 : decode b_Reader_followOther 19 = .ok (.invokevirtual 158, 3) := by decide +kernel
theorem d_Reader_followOther_22 : decode b_Reader_followOther 22 = .ok (.ireturn, 1) := by decide +kernel
theorem d_Reader_followOther_23 : decode b_Reader_followOther 23 = .ok (.iload_n 1, 1) := by decide +kernel
theorem d_Reader_followOther_24 : decode b_Reader_followOther 24 = .ok (.invokestatic 161, 3) := by decide +kernel
theorem d_Reader_followOther_27 : decode b_Reader_followOther 27 = .ok (.ifCond .eq 18, 3) := by decide +kernel
theorem d_Reader_followOther_30 : decode b_Reader_followOther 30 = .ok (.aload_n 0, 1) := by decide +kernel
theorem d_Reader_followOther_31 : decode b_Reader_followOther 31 = .ok (.sipush 320, 3) := by decide +kernel
theorem d_Reader_followOther_34 : decode b_Reader_followOther 34 = .ok (.invokevirtual 141, 3) := by decide +kernel
theorem d_Reader_followOther_37 : decode b_Reader_followOther 37 = .ok (.ifCond .eq 8, 3) := by decide +kernel
theorem d_Reader_followOther_40 : decode b_Reader_followOther 40 = .ok (.bipush 11, 2) := by decide +kernel
theorem d_Reader_followOther_42 : decode b_Reader_followOther 42 = .ok (.goto 4, 3) := by decide +kernel
theorem d_Reader_followOther_45 : decode b_Reader_followOther 45 = .ok (.iconst (-1), 1) := by decide +kernel
theorem d_Reader_followOther_46 : decode b_Reader_followOther 46 = .ok (.ireturn, 1) := by decide +kernel
def w_Reader_followOther : List Cond := .code y_Reader_followOther b_Reader_followOther 2 (some .int) :: WALL
theorem g_Reader_followOther : GoodIn WALL w_Reader_followOther := good_of mc_Reader_followOther
set_option maxHeartbeats 4000000 in
set_option maxRecDepth 100000 in
theorem c_Reader_followOther (l : Launch) (D : va_G) (cA a : Nat → Nat) (sz : Nat) (x1 : Int32) (I : Nat → Int32) (A : Nat → Nat → Int32) (post : Int32 → (Nat → Int32) → (Nat → Nat → Int32) → Prop) (h : wp_Reader_followOther x1 I A post) : Met l y_Reader_followOther w_Reader_followOther ({ frames := 2, cells := 0, slots := 0, locals := 41 }) (va_Pc [.ref (a 2), .int x1] (PreC D cA a I A sz)) (va_Qi (fun r (u : StW) => post r u.1 u.2) (EndC D cA a) (AC a sz)) 0 0 (AC a sz) := by
  refine Met.ofW (cc := b_Reader_followOther) (maxL := 2) (ret := (some .int)) (by decide) rfl ?_
  intro p e s m args below meth c s₁ B hml hv
  obtain ⟨rfl, hsz, hP, hK, hD0⟩ := hv
  have hx := B.exec
  have hb := B.bytes
  have hr := B.returns
  have hts := atoms_spec (ws := w_Reader_followOther) B.pre
  have hw := wall_of hts
  have hown : s.vm.findClass R_Reader = some m.cls := findClass_of_methodNamed B.named
  have hlocks := B.notSynchronized
  subst hsz
  have hD := hDC (sz := s.heap.size) hD0
  have hA : ∀ q : Nat, s.heap.size ≤ q → AC a s.heap.size q := fun q h => Or.inr h
  have hS : va_S (AC a s.heap.size) s.heap s.heap [] := va_S.rf
  have j23 : ∀ (y1 : Int32) (I : Nat → Int32) (A : Nat → Nat → Int32) (H : Heap) (locs : List Loc) (ls : Array Slot), wp_Reader_followOther_23 post y1 I A → va_P D cls (wC cA a I A) H → va_S (AC a s.heap.size) s.heap H locs → lv_has ls 2 [(0, .ref (a 2)), (1, .int y1)] → W p l e (headSpec w_Reader_followOther ({ frames := 2, cells := 0, slots := 0, locals := 41 })).room s m [.ref (a 2), .int x1].toArray below meth c H locs 0 0 (MQ below (va_Qi (fun r (u : StW) => post r u.1 u.2) (EndC D cA a) (AC a s.heap.size)) [.ref (a 2), .int x1].toArray s 0 0 (AC a s.heap.size)) (F0 m 23 ls []) := by
    intro y1 I A H locs ls h hP hS hl
    unfold wp_Reader_followOther_23 at h
    refine lv_iload_n hx hb d_Reader_followOther_23 rfl (lv_at hl 1 rfl) ?_
    refine k_Reader_isNoteLetter y1 (rest := []) ⟨hx, hb, hml, hown, hw⟩ hK hD hA hS hP hl.1 (hw _ m_Reader_161) (Nat.le_of_ble_eq_true rfl) ⟨Nat.le_of_ble_eq_true rfl, Nat.le_of_ble_eq_true rfl⟩ ⟨Nat.zero_le _, Nat.zero_le _⟩ d_Reader_followOther_24 h (fun r24 I24 A24 H locs h hP hS => ?_)
    refine lv_if_eq (tgt := 45) hx hb d_Reader_followOther_27 rfl (fun q => ?_) (fun q => ?_)
    · have h := h.1 q
      refine lv_iconst (v := (-1)) hx hb d_Reader_followOther_45 ic_m1 ?_
      exact W.iret hx hb hr (fun t ht hW => ⟨⟨_, (I24, A24), rfl, h, endC_of ht hP⟩, hS.F ht⟩) hS.2.2 d_Reader_followOther_46
    · have h := h.2 q
      refine lv_aload_n hx hb d_Reader_followOther_30 rfl (lv_at hl 0 rfl) ?_
      refine lv_sipush (v := 320) hx hb d_Reader_followOther_31 sp_320 ?_
      refine k_Reader_may 320 (rest := []) ⟨hx, hb, hml, hown, hw⟩ hK hD hA hS hP hl.1 (hw _ m_Reader_141) (Nat.le_of_ble_eq_true rfl) ⟨Nat.le_of_ble_eq_true rfl, Nat.le_of_ble_eq_true rfl⟩ ⟨Nat.zero_le _, Nat.zero_le _⟩ d_Reader_followOther_34 h (fun r34 I34 A34 H locs h hP hS => ?_)
      refine lv_if_eq (tgt := 45) hx hb d_Reader_followOther_37 rfl (fun q => ?_) (fun q => ?_)
      · have h := h.1 q
        refine lv_iconst (v := (-1)) hx hb d_Reader_followOther_45 ic_m1 ?_
        exact W.iret hx hb hr (fun t ht hW => ⟨⟨_, (I34, A34), rfl, h, endC_of ht hP⟩, hS.F ht⟩) hS.2.2 d_Reader_followOther_46
      · have h := h.2 q
        refine lv_bipush (v := 11) hx hb d_Reader_followOther_40 bp_11 ?_
        refine lv_goto (tgt := 46) hx hb d_Reader_followOther_42 rfl ?_
        exact W.iret hx hb hr (fun t ht hW => ⟨⟨_, (I34, A34), rfl, h, endC_of ht hP⟩, hS.F ht⟩) hS.2.2 d_Reader_followOther_46
  have hl := lv_entry ([.ref (a 2), .int x1]) (n := 2) (Nat.le_of_ble_eq_true rfl)
  rw [lg_entry_eq]
  generalize (lg_sl ([.ref (a 2), .int x1]) ++ List.replicate (2 - (lg_sl ([.ref (a 2), .int x1])).length) Slot.unset).toArray = ls at hl ⊢
  have hl : lv_has ls 2 [(0, .ref (a 2)), (1, .int x1)] := hl
  unfold wp_Reader_followOther at h
  refine lv_iload_n hx hb d_Reader_followOther_0 rfl (lv_at hl 1 rfl) ?_
  refine k_Reader_isDigit x1 (rest := []) ⟨hx, hb, hml, hown, hw⟩ hK hD hA hS hP hl.1 (hw _ m_Reader_123) (Nat.le_of_ble_eq_true rfl) ⟨Nat.le_of_ble_eq_true rfl, Nat.le_of_ble_eq_true rfl⟩ ⟨Nat.zero_le _, Nat.zero_le _⟩ d_Reader_followOther_1 h (fun r1 I1 A1 H locs h hP hS => ?_)
  refine lv_if_eq (tgt := 23) hx hb d_Reader_followOther_4 rfl (fun q => ?_) (fun q => ?_)
  · have h := h.1 q
    exact j23 x1 I1 A1 _ _ _ h hP hS (lv_sub hl [0, 1] rfl)
  · have h := h.2 q
    refine lv_aload_n hx hb d_Reader_followOther_7 rfl (lv_at hl 0 rfl) ?_
    refine lv_sipush (v := 4096) hx hb d_Reader_followOther_8 sp_4096 ?_
    refine k_Reader_may 4096 (rest := []) ⟨hx, hb, hml, hown, hw⟩ hK hD hA hS hP hl.1 (hw _ m_Reader_141) (Nat.le_of_ble_eq_true rfl) ⟨Nat.le_of_ble_eq_true rfl, Nat.le_of_ble_eq_true rfl⟩ ⟨Nat.zero_le _, Nat.zero_le _⟩ d_Reader_followOther_11 h (fun r11 I11 A11 H locs h hP hS => ?_)
    refine lv_if_eq (tgt := 23) hx hb d_Reader_followOther_14 rfl (fun q => ?_) (fun q => ?_)
    · have h := h.1 q
      exact j23 x1 I11 A11 _ _ _ h hP hS (lv_sub hl [0, 1] rfl)
    · have h := h.2 q
      refine lv_aload_n hx hb d_Reader_followOther_17 rfl (lv_at hl 0 rfl) ?_
      refine lv_iload_n hx hb d_Reader_followOther_18 rfl (lv_at hl 1 rfl) ?_
      refine k_Reader_followDigit x1 (rest := []) ⟨hx, hb, hml, hown, hw⟩ hK hD hA hS hP hl.1 (hw _ m_Reader_158) (Nat.le_of_ble_eq_true rfl) ⟨Nat.le_of_ble_eq_true rfl, Nat.le_of_ble_eq_true rfl⟩ ⟨Nat.zero_le _, Nat.zero_le _⟩ d_Reader_followOther_19 h (fun r19 I19 A19 H locs h hP hS => ?_)
      exact W.iret hx hb hr (fun t ht hW => ⟨⟨_, (I19, A19), rfl, h, endC_of ht hP⟩, hS.F ht⟩) hS.2.2 d_Reader_followOther_22
theorem k_Reader_followOther {p : Program} {l : Launch} {e : Env} {R : Room} {s : State} {m : MethodId} {args : Array Value} {below : List Frame} {meth : Method} {c : Code} {H : Heap} {locs : List Loc} {cells slots : Nat} {Q : State → Prop} {cc : ByteArray} {pc nL idx : Nat} {own : String} {ls : Array Slot} {D : va_G} {cA a : Nat → Nat} {AA : Nat → Prop} {I : Nat → Int32} {A : Nat → Nat → Int32} {post : Int32 → (Nat → Int32) → (Nat → Nat → Int32) → Prop} (x1 : Int32) {rest : List Value} (S : CallFix p m c cc nL s args WALL own) (hK : KC D cA a AA s) (hD : ∀ I A, va_D AA (wC cA a I A)) (hA : ∀ q : Nat, s.heap.size ≤ q → AA q) (hS : va_S AA s.heap H locs) (hP : va_P D cls (wC cA a I A) H) (hl1 : ls.size = nL) (hlink : (Cond.methodLink own idx y_Reader_followOther).before args s = true) (hst : (rest.map fun v => v.category).sum ≤ 8) (hR : ({ frames := 2, cells := 0, slots := 0, locals := 41 } : Room).frames + 1 ≤ R.frames ∧ 8 + (2 + 11) + ({ frames := 2, cells := 0, slots := 0, locals := 41 } : Room).locals ≤ R.locals) (hcs : cells ≤ R.cells ∧ slots ≤ R.slots) (hdg : decode cc pc = .ok (.invokevirtual idx, 3)) (h : wp_Reader_followOther x1 I A post) (kk : ∀ (r : Int32) (I1 : Nat → Int32) (A1 : Nat → Nat → Int32) (H1 : Heap) (locs1 : List Loc), post r I1 A1 → va_P D cls (wC cA a I1 A1) H1 → va_S AA s.heap H1 locs1 → W p l e R s m args below meth c H1 locs1 cells slots Q (F0 m (pc + 3) ls (.int r :: rest))) : W p l e R s m args below meth c H locs cells slots Q (F0 m pc ls (.int x1 :: .ref (a 2) :: rest)) :=
  va_calli (va_runV (As := [.int x1]) (rest := rest) S (c_Reader_followOther l D cA a H.size x1 I A post h) ⟨callB_of 1 S.2.2.2.2 g_Reader_followOther rfl rfl rfl (S.2.2.2.2 _ mi_Reader) hlink ⟨by decide, by decide, by decide +kernel⟩ hR, S.2.2.2.2 _ mn_Reader_followOther, S.2.2.2.2 _ ms_Reader_followOther⟩ (preCV hK hD hA hS hP 2 rfl rfl) rfl rfl hl1 rfl (lv_room hst) hdg hcs) hS (fun q _ z => AC_le hD hA hS q z) (fun q z => AC_le hD hA hS q z) (fun r u t H1 locs1 ht _ hp hB _ _ hS1 => kk r u.1 u.2 H1 locs1 hp (of_endC ht hB) hS1)
def wp_Reader_follow (x1 : Int32) (x2 : Int32) (I : Nat → Int32) (A : Nat → Nat → Int32) (post : Int32 → (Nat → Int32) → (Nat → Nat → Int32) → Prop) : Prop := ((x1 = 0 → (wp_Reader_may 32768 I A (fun r135 I135 A135 => ((r135 = 0 → post (-1) I135 A135) ∧ (¬ r135 = 0 → (((I135 0) ≤ 0 → post (-1) I135 A135) ∧ (¬ (I135 0) ≤ 0 → post 20 I135 A135))))))) ∧ (x1 = 32 → (wp_Reader_may 1 I A (fun r160 I160 A160 => ((r160 = 0 → post (-1) I160 A160) ∧ (¬ r160 = 0 → (wp_Reader_behindSpace I160 A160 (fun r167 I167 A167 => post r167 I167 A167))))))) ∧ (x1 = 39 → (wp_Reader_may 512 I A (fun r379 I379 A379 => ((r379 = 0 → post (-1) I379 A379) ∧ (¬ r379 = 0 → post 12 I379 A379))))) ∧ (x1 = 40 → (wp_Reader_may 16 I A (fun r269 I269 A269 => ((r269 = 0 → post (-1) I269 A269) ∧ (¬ r269 = 0 → (((I269 17) = 0 → post 6 I269 A269) ∧ (¬ (I269 17) = 0 → post (-1) I269 A269))))))) ∧ (x1 = 44 → (wp_Reader_may 1024 I A (fun r396 I396 A396 => ((r396 = 0 → post (-1) I396 A396) ∧ (¬ r396 = 0 → post 13 I396 A396))))) ∧ (x1 = 45 → (wp_Reader_may 16384 I A (fun r430 I430 A430 => ((r430 = 0 → post (-1) I430 A430) ∧ (¬ r430 = 0 → (wp_Tune_isRest I430 A430 (fun r440 I440 A440 => ((r440 = 0 → post 18 I440 A440) ∧ (¬ r440 = 0 → post (-1) I440 A440))))))))) ∧ (x1 = 47 → (wp_Reader_may 8192 I A (fun r413 I413 A413 => ((r413 = 0 → post (-1) I413 A413) ∧ (¬ r413 = 0 → post 16 I413 A413))))) ∧ (x1 = 58 → (wp_Reader_may 4 I A (fun r203 I203 A203 => ((r203 = 0 → (wp_Reader_may 2 I203 A203 (fun r215 I215 A215 => ((r215 = 0 → post (-1) I215 A215) ∧ (¬ r215 = 0 → post 2 I215 A215))))) ∧ (¬ r203 = 0 → post 3 I203 A203))))) ∧ (x1 = 61 → (wp_Reader_may 64 I A (fun r362 I362 A362 => ((r362 = 0 → post (-1) I362 A362) ∧ (¬ r362 = 0 → post 10 I362 A362))))) ∧ (x1 = 91 → (wp_Reader_may 8 I A (fun r230 I230 A230 => ((r230 = 0 → (wp_Reader_may 32 I230 A230 (fun r253 I253 A253 => ((r253 = 0 → post (-1) I253 A253) ∧ (¬ r253 = 0 → post 8 I253 A253))))) ∧ (¬ r230 = 0 → ((x2 = 49 → post 4 I230 A230) ∧ (¬ x2 = 49 → ((x2 = 50 → post 4 I230 A230) ∧ (¬ x2 = 50 → (wp_Reader_may 32 I230 A230 (fun r253 I253 A253 => ((r253 = 0 → post (-1) I253 A253) ∧ (¬ r253 = 0 → post 8 I253 A253))))))))))))) ∧ (x1 = 93 → (wp_Reader_may 2048 I A (fun r293 I293 A293 => ((r293 = 0 → post (-1) I293 A293) ∧ (¬ r293 = 0 → post 14 I293 A293))))) ∧ (x1 = 94 → (wp_Reader_may 128 I A (fun r326 I326 A326 => ((r326 = 0 → (wp_Reader_may 64 I326 A326 (fun r346 I346 A346 => ((r346 = 0 → post (-1) I346 A346) ∧ (¬ r346 = 0 → post 9 I346 A346))))) ∧ (¬ r326 = 0 → ((x1 = (I326 19) → post 10 I326 A326) ∧ (¬ x1 = (I326 19) → (wp_Reader_may 64 I326 A326 (fun r346 I346 A346 => ((r346 = 0 → post (-1) I346 A346) ∧ (¬ r346 = 0 → post 9 I346 A346))))))))))) ∧ (x1 = 95 → (wp_Reader_may 128 I A (fun r326 I326 A326 => ((r326 = 0 → (wp_Reader_may 64 I326 A326 (fun r346 I346 A346 => ((r346 = 0 → post (-1) I346 A346) ∧ (¬ r346 = 0 → post 9 I346 A346))))) ∧ (¬ r326 = 0 → ((x1 = (I326 19) → post 10 I326 A326) ∧ (¬ x1 = (I326 19) → (wp_Reader_may 64 I326 A326 (fun r346 I346 A346 => ((r346 = 0 → post (-1) I346 A346) ∧ (¬ r346 = 0 → post 9 I346 A346))))))))))) ∧ (x1 = 122 → (wp_Reader_may 32 I A (fun r309 I309 A309 => ((r309 = 0 → post (-1) I309 A309) ∧ (¬ r309 = 0 → post 14 I309 A309))))) ∧ (x1 = 124 → (wp_Reader_may 4 I A (fun r177 I177 A177 => ((r177 = 0 → (wp_Reader_may 2 I177 A177 (fun r189 I189 A189 => ((r189 = 0 → post (-1) I189 A189) ∧ (¬ r189 = 0 → post 1 I189 A189))))) ∧ (¬ r177 = 0 → post 3 I177 A177))))) ∧ (¬ x1 = 0 → ¬ x1 = 32 → ¬ x1 = 39 → ¬ x1 = 40 → ¬ x1 = 44 → ¬ x1 = 45 → ¬ x1 = 47 → ¬ x1 = 58 → ¬ x1 = 61 → ¬ x1 = 91 → ¬ x1 = 93 → ¬ x1 = 94 → ¬ x1 = 95 → ¬ x1 = 122 → ¬ x1 = 124 → (wp_Reader_followOther x1 I A (fun r455 I455 A455 => post r455 I455 A455))))
theorem d_Reader_follow_0 : decode b_Reader_follow 0 = .ok (.iload_n 1, 1) := by decide +kernel
theorem d_Reader_follow_1 : decode b_Reader_follow 1 = .ok (.lookupswitch 452 #[(0, 131), (32, 157), (39, 374), (40, 265), (44, 391), (45, 425), (47, 408), (58, 200), (61, 358), (91, 226), (93, 288), (94, 321), (95, 321), (122, 305), (124, 174)], 131) := by decide +kernel
theorem d_Reader_follow_132 : decode b_Reader_follow 132 = .ok (.aload_n 0, 1) := by decide +kernel
theorem d_Reader_follow_133 : decode b_Reader_follow 133 = .ok (.ldc 140, 2) := by decide +kernel
theorem d_Reader_follow_135 : decode b_Reader_follow 135 = .ok (.invokevirtual 141, 3) := by decide +kernel
theorem d_Reader_follow_138 : decode b_Reader_follow 138 = .ok (.ifCond .eq 18, 3) := by decide +kernel
theorem d_Reader_follow_141 : decode b_Reader_follow 141 = .ok (.aload_n 0, 1) := by decide +kernel
theorem d_Reader_follow_142 : decode b_Reader_follow 142 = .ok (.getfield 14, 3) := by decide +kernel
theorem d_Reader_follow_145 : decode b_Reader_follow 145 = .ok (.getfield 144, 3) := by decide +kernel
theorem d_Reader_follow_148 : decode b_Reader_follow 148 = .ok (.ifCond .le 8, 3) := by decide +kernel
theorem d_Reader_follow_151 : decode b_Reader_follow 151 = .ok (.bipush 20, 2) := by decide +kernel
theorem d_Reader_follow_153 : decode b_Reader_follow 153 = .ok (.goto 4, 3) := by decide +kernel
theorem d_Reader_follow_156 : decode b_Reader_follow 156 = .ok (.iconst (-1), 1) := by decide +kernel
theorem d_Reader_follow_157 : decode b_Reader_follow 157 = .ok (.ireturn, 1) := by decide +kernel
theorem d_Reader_follow_158 : decode b_Reader_follow 158 = .ok (.aload_n 0, 1) := by decide +kernel
theorem d_Reader_follow_159 : decode b_Reader_follow 159 = .ok (.iconst 1, 1) := by decide +kernel
theorem d_Reader_follow_160 : decode b_Reader_follow 160 = .ok (.invokevirtual 141, 3) := by decide +kernel
theorem d_Reader_follow_163 : decode b_Reader_follow 163 = .ok (.ifCond .eq 10, 3) := by decide +kernel
theorem d_Reader_follow_166 : decode b_Reader_follow 166 = .ok (.aload_n 0, 1) := by decide +kernel
theorem d_Reader_follow_167 : decode b_Reader_follow 167 = .ok (.invokevirtual 147, 3) := by decide +kernel
theorem d_Reader_follow_170 : decode b_Reader_follow 170 = .ok (.goto 4, 3) := by decide +kernel
theorem d_Reader_follow_173 : decode b_Reader_follow 173 = .ok (.iconst (-1), 1) := by decide +kernel
theorem d_Reader_follow_174 : decode b_Reader_follow 174 = .ok (.ireturn, 1) := by decide +kernel
theorem d_Reader_follow_175 : decode b_Reader_follow 175 = .ok (.aload_n 0, 1) := by decide +kernel
theorem d_Reader_follow_176 : decode b_Reader_follow 176 = .ok (.iconst 4, 1) := by decide +kernel
theorem d_Reader_follow_177 : decode b_Reader_follow 177 = .ok (.invokevirtual 141, 3) := by decide +kernel
theorem d_Reader_follow_180 : decode b_Reader_follow 180 = .ok (.ifCond .eq 7, 3) := by decide +kernel
theorem d_Reader_follow_183 : decode b_Reader_follow 183 = .ok (.iconst 3, 1) := by decide +kernel
theorem d_Reader_follow_184 : decode b_Reader_follow 184 = .ok (.goto 16, 3) := by decide +kernel
theorem d_Reader_follow_187 : decode b_Reader_follow 187 = .ok (.aload_n 0, 1) := by decide +kernel
theorem d_Reader_follow_188 : decode b_Reader_follow 188 = .ok (.iconst 2, 1) := by decide +kernel
theorem d_Reader_follow_189 : decode b_Reader_follow 189 = .ok (.invokevirtual 141, 3) := by decide +kernel
theorem d_Reader_follow_192 : decode b_Reader_follow 192 = .ok (.ifCond .eq 7, 3) := by decide +kernel
theorem d_Reader_follow_195 : decode b_Reader_follow 195 = .ok (.iconst 1, 1) := by decide +kernel
theorem d_Reader_follow_196 : decode b_Reader_follow 196 = .ok (.goto 4, 3) := by decide +kernel
theorem d_Reader_follow_199 : decode b_Reader_follow 199 = .ok (.iconst (-1), 1) := by decide +kernel
theorem d_Reader_follow_200 : decode b_Reader_follow 200 = .ok (.ireturn, 1) := by decide +kernel
theorem d_Reader_follow_201 : decode b_Reader_follow 201 = .ok (.aload_n 0, 1) := by decide +kernel
theorem d_Reader_follow_202 : decode b_Reader_follow 202 = .ok (.iconst 4, 1) := by decide +kernel
theorem d_Reader_follow_203 : decode b_Reader_follow 203 = .ok (.invokevirtual 141, 3) := by decide +kernel
theorem d_Reader_follow_206 : decode b_Reader_follow 206 = .ok (.ifCond .eq 7, 3) := by decide +kernel
theorem d_Reader_follow_209 : decode b_Reader_follow 209 = .ok (.iconst 3, 1) := by decide +kernel
theorem d_Reader_follow_210 : decode b_Reader_follow 210 = .ok (.goto 16, 3) := by decide +kernel
theorem d_Reader_follow_213 : decode b_Reader_follow 213 = .ok (.aload_n 0, 1) := by decide +kernel
theorem d_Reader_follow_214 : decode b_Reader_follow 214 = .ok (.iconst 2, 1) := by decide +kernel
theorem d_Reader_follow_215 : decode b_Reader_follow 215 = .ok (.invokevirtual 141, 3) := by decide +kernel
theorem d_Reader_follow_218 : decode b_Reader_follow 218 = .ok (.ifCond .eq 7, 3) := by decide +kernel
theorem d_Reader_follow_221 : decode b_Reader_follow 221 = .ok (.iconst 2, 1) := by decide +kernel
theorem d_Reader_follow_222 : decode b_Reader_follow 222 = .ok (.goto 4, 3) := by decide +kernel
theorem d_Reader_follow_225 : decode b_Reader_follow 225 = .ok (.iconst (-1), 1) := by decide +kernel
theorem d_Reader_follow_226 : decode b_Reader_follow 226 = .ok (.ireturn, 1) := by decide +kernel
theorem d_Reader_follow_227 : decode b_Reader_follow 227 = .ok (.aload_n 0, 1) := by decide +kernel
theorem d_Reader_follow_228 : decode b_Reader_follow 228 = .ok (.bipush 8, 2) := by decide +kernel
theorem d_Reader_follow_230 : decode b_Reader_follow 230 = .ok (.invokevirtual 141, 3) := by decide +kernel
theorem d_Reader_follow_233 : decode b_Reader_follow 233 = .ok (.ifCond .eq 17, 3) := by decide +kernel
theorem d_Reader_follow_236 : decode b_Reader_follow 236 = .ok (.iload_n 2, 1) := by decide +kernel
theorem d_Reader_follow_237 : decode b_Reader_follow 237 = .ok (.bipush 49, 2) := by decide +kernel
theorem d_Reader_follow_239 : decode b_Reader_follow 239 = .ok (.if_icmp .eq 9, 3) := by decide +kernel
theorem d_Reader_follow_242 : decode b_Reader_follow 242 = .ok (.iload_n 2, 1) := by decide +kernel
theorem d_Reader_follow_243 : decode b_Reader_follow 243 = .ok (.bipush 50, 2) := by decide +kernel
theorem d_Reader_follow_245 : decode b_Reader_follow 245 = .ok (.if_icmp .ne 5, 3) := by decide +kernel
theorem d_Reader_follow_248 : decode b_Reader_follow 248 = .ok (.iconst 4, 1) := by decide +kernel
theorem d_Reader_follow_249 : decode b_Reader_follow 249 = .ok (.ireturn, 1) := by decide +kernel
theorem d_Reader_follow_250 : decode b_Reader_follow 250 = .ok (.aload_n 0, 1) := by decide +kernel
theorem d_Reader_follow_251 : decode b_Reader_follow 251 = .ok (.bipush 32, 2) := by decide +kernel
theorem d_Reader_follow_253 : decode b_Reader_follow 253 = .ok (.invokevirtual 141, 3) := by decide +kernel
theorem d_Reader_follow_256 : decode b_Reader_follow 256 = .ok (.ifCond .eq 8, 3) := by decide +kernel
theorem d_Reader_follow_259 : decode b_Reader_follow 259 = .ok (.bipush 8, 2) := by decide +kernel
theorem d_Reader_follow_261 : decode b_Reader_follow 261 = .ok (.goto 4, 3) := by decide +kernel
theorem d_Reader_follow_264 : decode b_Reader_follow 264 = .ok (.iconst (-1), 1) := by decide +kernel
theorem d_Reader_follow_265 : decode b_Reader_follow 265 = .ok (.ireturn, 1) := by decide +kernel
theorem d_Reader_follow_266 : decode b_Reader_follow 266 = .ok (.aload_n 0, 1) := by decide +kernel
theorem d_Reader_follow_267 : decode b_Reader_follow 267 = .ok (.bipush 16, 2) := by decide +kernel
theorem d_Reader_follow_269 : decode b_Reader_follow 269 = .ok (.invokevirtual 141, 3) := by decide +kernel
theorem d_Reader_follow_272 : decode b_Reader_follow 272 = .ok (.ifCond .eq 15, 3) := by decide +kernel
theorem d_Reader_follow_275 : decode b_Reader_follow 275 = .ok (.aload_n 0, 1) := by decide +kernel
theorem d_Reader_follow_276 : decode b_Reader_follow 276 = .ok (.getfield 61, 3) := by decide +kernel
theorem d_Reader_follow_279 : decode b_Reader_follow 279 = .ok (.ifCond .ne 8, 3) := by decide +kernel
theorem d_Reader_follow_282 : decode b_Reader_follow 282 = .ok (.bipush 6, 2) := by decide +kernel
theorem d_Reader_follow_284 : decode b_Reader_follow 284 = .ok (.goto 4, 3) := by decide +kernel
theorem d_Reader_follow_287 : decode b_Reader_follow 287 = .ok (.iconst (-1), 1) := by decide +kernel
theorem d_Reader_follow_288 : decode b_Reader_follow 288 = .ok (.ireturn, 1) := by decide +kernel
theorem d_Reader_follow_289 : decode b_Reader_follow 289 = .ok (.aload_n 0, 1) := by decide +kernel
theorem d_Reader_follow_290 : decode b_Reader_follow 290 = .ok (.sipush 2048, 3) := by decide +kernel
theorem d_Reader_follow_293 : decode b_Reader_follow 293 = .ok (.invokevirtual 141, 3) := by decide +kernel
theorem d_Reader_follow_296 : decode b_Reader_follow 296 = .ok (.ifCond .eq 8, 3) := by decide +kernel
theorem d_Reader_follow_299 : decode b_Reader_follow 299 = .ok (.bipush 14, 2) := by decide +kernel
theorem d_Reader_follow_301 : decode b_Reader_follow 301 = .ok (.goto 4, 3) := by decide +kernel
theorem d_Reader_follow_304 : decode b_Reader_follow 304 = .ok (.iconst (-1), 1) := by decide +kernel
theorem d_Reader_follow_305 : decode b_Reader_follow 305 = .ok (.ireturn, 1) := by decide +kernel
theorem d_Reader_follow_306 : decode b_Reader_follow 306 = .ok (.aload_n 0, 1) := by decide +kernel
theorem d_Reader_follow_307 : decode b_Reader_follow 307 = .ok (.bipush 32, 2) := by decide +kernel
theorem d_Reader_follow_309 : decode b_Reader_follow 309 = .ok (.invokevirtual 141, 3) := by decide +kernel
theorem d_Reader_follow_312 : decode b_Reader_follow 312 = .ok (.ifCond .eq 8, 3) := by decide +kernel
theorem d_Reader_follow_315 : decode b_Reader_follow 315 = .ok (.bipush 14, 2) := by decide +kernel
theorem d_Reader_follow_317 : decode b_Reader_follow 317 = .ok (.goto 4, 3) := by decide +kernel
theorem d_Reader_follow_320 : decode b_Reader_follow 320 = .ok (.iconst (-1), 1) := by decide +kernel
theorem d_Reader_follow_321 : decode b_Reader_follow 321 = .ok (.ireturn, 1) := by decide +kernel
theorem d_Reader_follow_322 : decode b_Reader_follow 322 = .ok (.aload_n 0, 1) := by decide +kernel
theorem d_Reader_follow_323 : decode b_Reader_follow 323 = .ok (.sipush 128, 3) := by decide +kernel
theorem d_Reader_follow_326 : decode b_Reader_follow 326 = .ok (.invokevirtual 141, 3) := by decide +kernel
theorem d_Reader_follow_329 : decode b_Reader_follow 329 = .ok (.ifCond .eq 14, 3) := by decide +kernel
theorem d_Reader_follow_332 : decode b_Reader_follow 332 = .ok (.iload_n 1, 1) := by decide +kernel
theorem d_Reader_follow_333 : decode b_Reader_follow 333 = .ok (.aload_n 0, 1) := by decide +kernel
theorem d_Reader_follow_334 : decode b_Reader_follow 334 = .ok (.getfield 67, 3) := by decide +kernel
theorem d_Reader_follow_337 : decode b_Reader_follow 337 = .ok (.if_icmp .ne 6, 3) := by decide +kernel
theorem d_Reader_follow_340 : decode b_Reader_follow 340 = .ok (.bipush 10, 2) := by decide +kernel
theorem d_Reader_follow_342 : decode b_Reader_follow 342 = .ok (.ireturn, 1) := by decide +kernel
theorem d_Reader_follow_343 : decode b_Reader_follow 343 = .ok (.aload_n 0, 1) := by decide +kernel
theorem d_Reader_follow_344 : decode b_Reader_follow 344 = .ok (.bipush 64, 2) := by decide +kernel
theorem d_Reader_follow_346 : decode b_Reader_follow 346 = .ok (.invokevirtual 141, 3) := by decide +kernel
theorem d_Reader_follow_349 : decode b_Reader_follow 349 = .ok (.ifCond .eq 8, 3) := by decide +kernel
theorem d_Reader_follow_352 : decode b_Reader_follow 352 = .ok (.bipush 9, 2) := by decide +kernel
theorem d_Reader_follow_354 : decode b_Reader_follow 354 = .ok (.goto 4, 3) := by decide +kernel
theorem d_Reader_follow_357 : decode b_Reader_follow 357 = .ok (.iconst (-1), 1) := by decide +kernel
theorem d_Reader_follow_358 : decode b_Reader_follow 358 = .ok (.ireturn, 1) := by decide +kernel
theorem d_Reader_follow_359 : decode b_Reader_follow 359 = .ok (.aload_n 0, 1) := by decide +kernel
theorem d_Reader_follow_360 : decode b_Reader_follow 360 = .ok (.bipush 64, 2) := by decide +kernel
theorem d_Reader_follow_362 : decode b_Reader_follow 362 = .ok (.invokevirtual 141, 3) := by decide +kernel
theorem d_Reader_follow_365 : decode b_Reader_follow 365 = .ok (.ifCond .eq 8, 3) := by decide +kernel
theorem d_Reader_follow_368 : decode b_Reader_follow 368 = .ok (.bipush 10, 2) := by decide +kernel
theorem d_Reader_follow_370 : decode b_Reader_follow 370 = .ok (.goto 4, 3) := by decide +kernel
theorem d_Reader_follow_373 : decode b_Reader_follow 373 = .ok (.iconst (-1), 1) := by decide +kernel
theorem d_Reader_follow_374 : decode b_Reader_follow 374 = .ok (.ireturn, 1) := by decide +kernel
theorem d_Reader_follow_375 : decode b_Reader_follow 375 = .ok (.aload_n 0, 1) := by decide +kernel
theorem d_Reader_follow_376 : decode b_Reader_follow 376 = .ok (.sipush 512, 3) := by decide +kernel
theorem d_Reader_follow_379 : decode b_Reader_follow 379 = .ok (.invokevirtual 141, 3) := by decide +kernel
theorem d_Reader_follow_382 : decode b_Reader_follow 382 = .ok (.ifCond .eq 8, 3) := by decide +kernel
theorem d_Reader_follow_385 : decode b_Reader_follow 385 = .ok (.bipush 12, 2) := by decide +kernel
theorem d_Reader_follow_387 : decode b_Reader_follow 387 = .ok (.goto 4, 3) := by decide +kernel
theorem d_Reader_follow_390 : decode b_Reader_follow 390 = .ok (.iconst (-1), 1) := by decide +kernel
theorem d_Reader_follow_391 : decode b_Reader_follow 391 = .ok (.ireturn, 1) := by decide +kernel
theorem d_Reader_follow_392 : decode b_Reader_follow 392 = .ok (.aload_n 0, 1) := by decide +kernel
theorem d_Reader_follow_393 : decode b_Reader_follow 393 = .ok (.sipush 1024, 3) := by decide +kernel
theorem d_Reader_follow_396 : decode b_Reader_follow 396 = .ok (.invokevirtual 141, 3) := by decide +kernel
theorem d_Reader_follow_399 : decode b_Reader_follow 399 = .ok (.ifCond .eq 8, 3) := by decide +kernel
theorem d_Reader_follow_402 : decode b_Reader_follow 402 = .ok (.bipush 13, 2) := by decide +kernel
theorem d_Reader_follow_404 : decode b_Reader_follow 404 = .ok (.goto 4, 3) := by decide +kernel
theorem d_Reader_follow_407 : decode b_Reader_follow 407 = .ok (.iconst (-1), 1) := by decide +kernel
theorem d_Reader_follow_408 : decode b_Reader_follow 408 = .ok (.ireturn, 1) := by decide +kernel
theorem d_Reader_follow_409 : decode b_Reader_follow 409 = .ok (.aload_n 0, 1) := by decide +kernel
theorem d_Reader_follow_410 : decode b_Reader_follow 410 = .ok (.sipush 8192, 3) := by decide +kernel
theorem d_Reader_follow_413 : decode b_Reader_follow 413 = .ok (.invokevirtual 141, 3) := by decide +kernel
theorem d_Reader_follow_416 : decode b_Reader_follow 416 = .ok (.ifCond .eq 8, 3) := by decide +kernel
theorem d_Reader_follow_419 : decode b_Reader_follow 419 = .ok (.bipush 16, 2) := by decide +kernel
theorem d_Reader_follow_421 : decode b_Reader_follow 421 = .ok (.goto 4, 3) := by decide +kernel
theorem d_Reader_follow_424 : decode b_Reader_follow 424 = .ok (.iconst (-1), 1) := by decide +kernel
theorem d_Reader_follow_425 : decode b_Reader_follow 425 = .ok (.ireturn, 1) := by decide +kernel
theorem d_Reader_follow_426 : decode b_Reader_follow 426 = .ok (.aload_n 0, 1) := by decide +kernel
theorem d_Reader_follow_427 : decode b_Reader_follow 427 = .ok (.sipush 16384, 3) := by decide +kernel
theorem d_Reader_follow_430 : decode b_Reader_follow 430 = .ok (.invokevirtual 141, 3) := by decide +kernel
theorem d_Reader_follow_433 : decode b_Reader_follow 433 = .ok (.ifCond .eq 18, 3) := by decide +kernel
theorem d_Reader_follow_436 : decode b_Reader_follow 436 = .ok (.aload_n 0, 1) := by decide +kernel
theorem d_Reader_follow_437 : decode b_Reader_follow 437 = .ok (.getfield 14, 3) := by decide +kernel
theorem d_Reader_follow_440 : decode b_Reader_follow 440 = .ok (.invokevirtual 150, 3) := by decide +kernel
theorem d_Reader_follow_443 : decode b_Reader_follow 443 = .ok (.ifCond .ne 8, 3) := by decide +kernel
theorem d_Reader_follow_446 : decode b_Reader_follow 446 = .ok (.bipush 18, 2) := by decide +kernel
theorem d_Reader_follow_448 : decode b_Reader_follow 448 = .ok (.goto 4, 3) := by decide +kernel
theorem d_Reader_follow_451 : decode b_Reader_follow 451 = .ok (.iconst (-1), 1) := by decide +kernel
theorem d_Reader_follow_452 : decode b_Reader_follow 452 = .ok (.ireturn, 1) := by decide +kernel
theorem d_Reader_follow_453 : decode b_Reader_follow 453 = .ok (.aload_n 0, 1) := by decide +kernel
theorem d_Reader_follow_454 : decode b_Reader_follow 454 = .ok (.iload_n 1, 1) := by decide +kernel
theorem d_Reader_follow_455 : decode b_Reader_follow 455 = .ok (.invokevirtual 154, 3) := by decide +kernel
theorem d_Reader_follow_458 : decode b_Reader_follow 458 = .ok (.ireturn, 1) := by decide +kernel
def w_Reader_follow : List Cond := .code y_Reader_follow b_Reader_follow 3 (some .int) :: WALL
theorem g_Reader_follow : GoodIn WALL w_Reader_follow := good_of mc_Reader_follow
set_option maxHeartbeats 4000000 in
set_option maxRecDepth 100000 in
theorem c_Reader_follow (l : Launch) (D : va_G) (cA a : Nat → Nat) (sz : Nat) (x1 : Int32) (x2 : Int32) (I : Nat → Int32) (A : Nat → Nat → Int32) (post : Int32 → (Nat → Int32) → (Nat → Nat → Int32) → Prop) (h : wp_Reader_follow x1 x2 I A post) : Met l y_Reader_follow w_Reader_follow ({ frames := 3, cells := 0, slots := 0, locals := 62 }) (va_Pc [.ref (a 2), .int x1, .int x2] (PreC D cA a I A sz)) (va_Qi (fun r (u : StW) => post r u.1 u.2) (EndC D cA a) (AC a sz)) 0 0 (AC a sz) := by
  refine Met.ofW (cc := b_Reader_follow) (maxL := 3) (ret := (some .int)) (by decide) rfl ?_
  intro p e s m args below meth c s₁ B hml hv
  obtain ⟨rfl, hsz, hP, hK, hD0⟩ := hv
  have hx := B.exec
  have hb := B.bytes
  have hr := B.returns
  have hts := atoms_spec (ws := w_Reader_follow) B.pre
  have hw := wall_of hts
  have hown : s.vm.findClass R_Reader = some m.cls := findClass_of_methodNamed B.named
  have hlocks := B.notSynchronized
  subst hsz
  have hD := hDC (sz := s.heap.size) hD0
  have hA : ∀ q : Nat, s.heap.size ≤ q → AC a s.heap.size q := fun q h => Or.inr h
  have hS : va_S (AC a s.heap.size) s.heap s.heap [] := va_S.rf
  have hl := lv_entry ([.ref (a 2), .int x1, .int x2]) (n := 3) (Nat.le_of_ble_eq_true rfl)
  rw [lg_entry_eq]
  generalize (lg_sl ([.ref (a 2), .int x1, .int x2]) ++ List.replicate (3 - (lg_sl ([.ref (a 2), .int x1, .int x2])).length) Slot.unset).toArray = ls at hl ⊢
  have hl : lv_has ls 3 [(0, .ref (a 2)), (1, .int x1), (2, .int x2)] := hl
  unfold wp_Reader_follow at h
  refine lv_iload_n hx hb d_Reader_follow_0 rfl (lv_at hl 1 rfl) ?_
  by_cases q0 : x1 = 0
  · have h := h.1 q0
    refine lv_lookup (off := 131) (tgt := 132) hx hb d_Reader_follow_1 (by decide) (by rw [q0]; rfl) rfl ?_
    refine lv_aload_n hx hb d_Reader_follow_132 rfl (lv_at hl 0 rfl) ?_
    refine lv_ldc (v := 32768) hx hb hown (hw _ m_Reader_140) d_Reader_follow_133 ?_
    refine k_Reader_may 32768 (rest := []) ⟨hx, hb, hml, hown, hw⟩ hK hD hA hS hP hl.1 (hw _ m_Reader_141) (Nat.le_of_ble_eq_true rfl) ⟨Nat.le_of_ble_eq_true rfl, Nat.le_of_ble_eq_true rfl⟩ ⟨Nat.zero_le _, Nat.zero_le _⟩ d_Reader_follow_135 h (fun r135 I135 A135 H locs h hP hS => ?_)
    refine lv_if_eq (tgt := 156) hx hb d_Reader_follow_138 rfl (fun q => ?_) (fun q => ?_)
    · have h := h.1 q
      refine lv_iconst (v := (-1)) hx hb d_Reader_follow_156 ic_m1 ?_
      exact W.iret hx hb hr (fun t ht hW => ⟨⟨_, (I135, A135), rfl, h, endC_of ht hP⟩, hS.F ht⟩) hS.2.2 d_Reader_follow_157
    · have h := h.2 q
      refine lv_aload_n hx hb d_Reader_follow_141 rfl (lv_at hl 0 rfl) ?_
      refine gC_Reader_tune hx hb hw hown hK hP (hw _ m_Reader_14) d_Reader_follow_142 ?_
      refine gC_Tune_barCount hx hb hw hown hK hP (hw _ m_Reader_144) d_Reader_follow_145 ?_
      refine lv_if_le (tgt := 156) hx hb d_Reader_follow_148 rfl (fun q => ?_) (fun q => ?_)
      · have h := h.1 q
        refine lv_iconst (v := (-1)) hx hb d_Reader_follow_156 ic_m1 ?_
        exact W.iret hx hb hr (fun t ht hW => ⟨⟨_, (I135, A135), rfl, h, endC_of ht hP⟩, hS.F ht⟩) hS.2.2 d_Reader_follow_157
      · have h := h.2 q
        refine lv_bipush (v := 20) hx hb d_Reader_follow_151 bp_20 ?_
        refine lv_goto (tgt := 157) hx hb d_Reader_follow_153 rfl ?_
        exact W.iret hx hb hr (fun t ht hW => ⟨⟨_, (I135, A135), rfl, h, endC_of ht hP⟩, hS.F ht⟩) hS.2.2 d_Reader_follow_157
  by_cases q1 : x1 = 32
  · have h := h.2.1 q1
    refine lv_lookup (off := 157) (tgt := 158) hx hb d_Reader_follow_1 (by decide) (by rw [q1]; rfl) rfl ?_
    refine lv_aload_n hx hb d_Reader_follow_158 rfl (lv_at hl 0 rfl) ?_
    refine lv_iconst (v := 1) hx hb d_Reader_follow_159 ic_1 ?_
    refine k_Reader_may 1 (rest := []) ⟨hx, hb, hml, hown, hw⟩ hK hD hA hS hP hl.1 (hw _ m_Reader_141) (Nat.le_of_ble_eq_true rfl) ⟨Nat.le_of_ble_eq_true rfl, Nat.le_of_ble_eq_true rfl⟩ ⟨Nat.zero_le _, Nat.zero_le _⟩ d_Reader_follow_160 h (fun r160 I160 A160 H locs h hP hS => ?_)
    refine lv_if_eq (tgt := 173) hx hb d_Reader_follow_163 rfl (fun q => ?_) (fun q => ?_)
    · have h := h.1 q
      refine lv_iconst (v := (-1)) hx hb d_Reader_follow_173 ic_m1 ?_
      exact W.iret hx hb hr (fun t ht hW => ⟨⟨_, (I160, A160), rfl, h, endC_of ht hP⟩, hS.F ht⟩) hS.2.2 d_Reader_follow_174
    · have h := h.2 q
      refine lv_aload_n hx hb d_Reader_follow_166 rfl (lv_at hl 0 rfl) ?_
      refine k_Reader_behindSpace (rest := []) ⟨hx, hb, hml, hown, hw⟩ hK hD hA hS hP hl.1 (hw _ m_Reader_147) (Nat.le_of_ble_eq_true rfl) ⟨Nat.le_of_ble_eq_true rfl, Nat.le_of_ble_eq_true rfl⟩ ⟨Nat.zero_le _, Nat.zero_le _⟩ d_Reader_follow_167 h (fun r167 I167 A167 H locs h hP hS => ?_)
      refine lv_goto (tgt := 174) hx hb d_Reader_follow_170 rfl ?_
      exact W.iret hx hb hr (fun t ht hW => ⟨⟨_, (I167, A167), rfl, h, endC_of ht hP⟩, hS.F ht⟩) hS.2.2 d_Reader_follow_174
  by_cases q2 : x1 = 39
  · have h := h.2.2.1 q2
    refine lv_lookup (off := 374) (tgt := 375) hx hb d_Reader_follow_1 (by decide) (by rw [q2]; rfl) rfl ?_
    refine lv_aload_n hx hb d_Reader_follow_375 rfl (lv_at hl 0 rfl) ?_
    refine lv_sipush (v := 512) hx hb d_Reader_follow_376 sp_512 ?_
    refine k_Reader_may 512 (rest := []) ⟨hx, hb, hml, hown, hw⟩ hK hD hA hS hP hl.1 (hw _ m_Reader_141) (Nat.le_of_ble_eq_true rfl) ⟨Nat.le_of_ble_eq_true rfl, Nat.le_of_ble_eq_true rfl⟩ ⟨Nat.zero_le _, Nat.zero_le _⟩ d_Reader_follow_379 h (fun r379 I379 A379 H locs h hP hS => ?_)
    refine lv_if_eq (tgt := 390) hx hb d_Reader_follow_382 rfl (fun q => ?_) (fun q => ?_)
    · have h := h.1 q
      refine lv_iconst (v := (-1)) hx hb d_Reader_follow_390 ic_m1 ?_
      exact W.iret hx hb hr (fun t ht hW => ⟨⟨_, (I379, A379), rfl, h, endC_of ht hP⟩, hS.F ht⟩) hS.2.2 d_Reader_follow_391
    · have h := h.2 q
      refine lv_bipush (v := 12) hx hb d_Reader_follow_385 bp_12 ?_
      refine lv_goto (tgt := 391) hx hb d_Reader_follow_387 rfl ?_
      exact W.iret hx hb hr (fun t ht hW => ⟨⟨_, (I379, A379), rfl, h, endC_of ht hP⟩, hS.F ht⟩) hS.2.2 d_Reader_follow_391
  by_cases q3 : x1 = 40
  · have h := h.2.2.2.1 q3
    refine lv_lookup (off := 265) (tgt := 266) hx hb d_Reader_follow_1 (by decide) (by rw [q3]; rfl) rfl ?_
    refine lv_aload_n hx hb d_Reader_follow_266 rfl (lv_at hl 0 rfl) ?_
    refine lv_bipush (v := 16) hx hb d_Reader_follow_267 bp_16 ?_
    refine k_Reader_may 16 (rest := []) ⟨hx, hb, hml, hown, hw⟩ hK hD hA hS hP hl.1 (hw _ m_Reader_141) (Nat.le_of_ble_eq_true rfl) ⟨Nat.le_of_ble_eq_true rfl, Nat.le_of_ble_eq_true rfl⟩ ⟨Nat.zero_le _, Nat.zero_le _⟩ d_Reader_follow_269 h (fun r269 I269 A269 H locs h hP hS => ?_)
    refine lv_if_eq (tgt := 287) hx hb d_Reader_follow_272 rfl (fun q => ?_) (fun q => ?_)
    · have h := h.1 q
      refine lv_iconst (v := (-1)) hx hb d_Reader_follow_287 ic_m1 ?_
      exact W.iret hx hb hr (fun t ht hW => ⟨⟨_, (I269, A269), rfl, h, endC_of ht hP⟩, hS.F ht⟩) hS.2.2 d_Reader_follow_288
    · have h := h.2 q
      refine lv_aload_n hx hb d_Reader_follow_275 rfl (lv_at hl 0 rfl) ?_
      refine gC_Reader_tripletLeft hx hb hw hown hK hP (hw _ m_Reader_61) d_Reader_follow_276 ?_
      refine lv_if_ne (tgt := 287) hx hb d_Reader_follow_279 rfl (fun q => ?_) (fun q => ?_)
      · have h := h.2 q
        refine lv_iconst (v := (-1)) hx hb d_Reader_follow_287 ic_m1 ?_
        exact W.iret hx hb hr (fun t ht hW => ⟨⟨_, (I269, A269), rfl, h, endC_of ht hP⟩, hS.F ht⟩) hS.2.2 d_Reader_follow_288
      · have h := h.1 q
        refine lv_bipush (v := 6) hx hb d_Reader_follow_282 bp_6 ?_
        refine lv_goto (tgt := 288) hx hb d_Reader_follow_284 rfl ?_
        exact W.iret hx hb hr (fun t ht hW => ⟨⟨_, (I269, A269), rfl, h, endC_of ht hP⟩, hS.F ht⟩) hS.2.2 d_Reader_follow_288
  by_cases q4 : x1 = 44
  · have h := h.2.2.2.2.1 q4
    refine lv_lookup (off := 391) (tgt := 392) hx hb d_Reader_follow_1 (by decide) (by rw [q4]; rfl) rfl ?_
    refine lv_aload_n hx hb d_Reader_follow_392 rfl (lv_at hl 0 rfl) ?_
    refine lv_sipush (v := 1024) hx hb d_Reader_follow_393 sp_1024 ?_
    refine k_Reader_may 1024 (rest := []) ⟨hx, hb, hml, hown, hw⟩ hK hD hA hS hP hl.1 (hw _ m_Reader_141) (Nat.le_of_ble_eq_true rfl) ⟨Nat.le_of_ble_eq_true rfl, Nat.le_of_ble_eq_true rfl⟩ ⟨Nat.zero_le _, Nat.zero_le _⟩ d_Reader_follow_396 h (fun r396 I396 A396 H locs h hP hS => ?_)
    refine lv_if_eq (tgt := 407) hx hb d_Reader_follow_399 rfl (fun q => ?_) (fun q => ?_)
    · have h := h.1 q
      refine lv_iconst (v := (-1)) hx hb d_Reader_follow_407 ic_m1 ?_
      exact W.iret hx hb hr (fun t ht hW => ⟨⟨_, (I396, A396), rfl, h, endC_of ht hP⟩, hS.F ht⟩) hS.2.2 d_Reader_follow_408
    · have h := h.2 q
      refine lv_bipush (v := 13) hx hb d_Reader_follow_402 bp_13 ?_
      refine lv_goto (tgt := 408) hx hb d_Reader_follow_404 rfl ?_
      exact W.iret hx hb hr (fun t ht hW => ⟨⟨_, (I396, A396), rfl, h, endC_of ht hP⟩, hS.F ht⟩) hS.2.2 d_Reader_follow_408
  by_cases q5 : x1 = 45
  · have h := h.2.2.2.2.2.1 q5
    refine lv_lookup (off := 425) (tgt := 426) hx hb d_Reader_follow_1 (by decide) (by rw [q5]; rfl) rfl ?_
    refine lv_aload_n hx hb d_Reader_follow_426 rfl (lv_at hl 0 rfl) ?_
    refine lv_sipush (v := 16384) hx hb d_Reader_follow_427 sp_16384 ?_
    refine k_Reader_may 16384 (rest := []) ⟨hx, hb, hml, hown, hw⟩ hK hD hA hS hP hl.1 (hw _ m_Reader_141) (Nat.le_of_ble_eq_true rfl) ⟨Nat.le_of_ble_eq_true rfl, Nat.le_of_ble_eq_true rfl⟩ ⟨Nat.zero_le _, Nat.zero_le _⟩ d_Reader_follow_430 h (fun r430 I430 A430 H locs h hP hS => ?_)
    refine lv_if_eq (tgt := 451) hx hb d_Reader_follow_433 rfl (fun q => ?_) (fun q => ?_)
    · have h := h.1 q
      refine lv_iconst (v := (-1)) hx hb d_Reader_follow_451 ic_m1 ?_
      exact W.iret hx hb hr (fun t ht hW => ⟨⟨_, (I430, A430), rfl, h, endC_of ht hP⟩, hS.F ht⟩) hS.2.2 d_Reader_follow_452
    · have h := h.2 q
      refine lv_aload_n hx hb d_Reader_follow_436 rfl (lv_at hl 0 rfl) ?_
      refine gC_Reader_tune hx hb hw hown hK hP (hw _ m_Reader_14) d_Reader_follow_437 ?_
      refine k_Tune_isRest (rest := []) ⟨hx, hb, hml, hown, hw⟩ hK hD hA hS hP hl.1 (hw _ m_Reader_150) (Nat.le_of_ble_eq_true rfl) ⟨Nat.le_of_ble_eq_true rfl, Nat.le_of_ble_eq_true rfl⟩ ⟨Nat.zero_le _, Nat.zero_le _⟩ d_Reader_follow_440 h (fun r440 I440 A440 H locs h hP hS => ?_)
      refine lv_if_ne (tgt := 451) hx hb d_Reader_follow_443 rfl (fun q => ?_) (fun q => ?_)
      · have h := h.2 q
        refine lv_iconst (v := (-1)) hx hb d_Reader_follow_451 ic_m1 ?_
        exact W.iret hx hb hr (fun t ht hW => ⟨⟨_, (I440, A440), rfl, h, endC_of ht hP⟩, hS.F ht⟩) hS.2.2 d_Reader_follow_452
      · have h := h.1 q
        refine lv_bipush (v := 18) hx hb d_Reader_follow_446 bp_18 ?_
        refine lv_goto (tgt := 452) hx hb d_Reader_follow_448 rfl ?_
        exact W.iret hx hb hr (fun t ht hW => ⟨⟨_, (I440, A440), rfl, h, endC_of ht hP⟩, hS.F ht⟩) hS.2.2 d_Reader_follow_452
  by_cases q6 : x1 = 47
  · have h := h.2.2.2.2.2.2.1 q6
    refine lv_lookup (off := 408) (tgt := 409) hx hb d_Reader_follow_1 (by decide) (by rw [q6]; rfl) rfl ?_
    refine lv_aload_n hx hb d_Reader_follow_409 rfl (lv_at hl 0 rfl) ?_
    refine lv_sipush (v := 8192) hx hb d_Reader_follow_410 sp_8192 ?_
    refine k_Reader_may 8192 (rest := []) ⟨hx, hb, hml, hown, hw⟩ hK hD hA hS hP hl.1 (hw _ m_Reader_141) (Nat.le_of_ble_eq_true rfl) ⟨Nat.le_of_ble_eq_true rfl, Nat.le_of_ble_eq_true rfl⟩ ⟨Nat.zero_le _, Nat.zero_le _⟩ d_Reader_follow_413 h (fun r413 I413 A413 H locs h hP hS => ?_)
    refine lv_if_eq (tgt := 424) hx hb d_Reader_follow_416 rfl (fun q => ?_) (fun q => ?_)
    · have h := h.1 q
      refine lv_iconst (v := (-1)) hx hb d_Reader_follow_424 ic_m1 ?_
      exact W.iret hx hb hr (fun t ht hW => ⟨⟨_, (I413, A413), rfl, h, endC_of ht hP⟩, hS.F ht⟩) hS.2.2 d_Reader_follow_425
    · have h := h.2 q
      refine lv_bipush (v := 16) hx hb d_Reader_follow_419 bp_16 ?_
      refine lv_goto (tgt := 425) hx hb d_Reader_follow_421 rfl ?_
      exact W.iret hx hb hr (fun t ht hW => ⟨⟨_, (I413, A413), rfl, h, endC_of ht hP⟩, hS.F ht⟩) hS.2.2 d_Reader_follow_425
  by_cases q7 : x1 = 58
  · have h := h.2.2.2.2.2.2.2.1 q7
    refine lv_lookup (off := 200) (tgt := 201) hx hb d_Reader_follow_1 (by decide) (by rw [q7]; rfl) rfl ?_
    refine lv_aload_n hx hb d_Reader_follow_201 rfl (lv_at hl 0 rfl) ?_
    refine lv_iconst (v := 4) hx hb d_Reader_follow_202 ic_4 ?_
    refine k_Reader_may 4 (rest := []) ⟨hx, hb, hml, hown, hw⟩ hK hD hA hS hP hl.1 (hw _ m_Reader_141) (Nat.le_of_ble_eq_true rfl) ⟨Nat.le_of_ble_eq_true rfl, Nat.le_of_ble_eq_true rfl⟩ ⟨Nat.zero_le _, Nat.zero_le _⟩ d_Reader_follow_203 h (fun r203 I203 A203 H locs h hP hS => ?_)
    refine lv_if_eq (tgt := 213) hx hb d_Reader_follow_206 rfl (fun q => ?_) (fun q => ?_)
    · have h := h.1 q
      refine lv_aload_n hx hb d_Reader_follow_213 rfl (lv_at hl 0 rfl) ?_
      refine lv_iconst (v := 2) hx hb d_Reader_follow_214 ic_2 ?_
      refine k_Reader_may 2 (rest := []) ⟨hx, hb, hml, hown, hw⟩ hK hD hA hS hP hl.1 (hw _ m_Reader_141) (Nat.le_of_ble_eq_true rfl) ⟨Nat.le_of_ble_eq_true rfl, Nat.le_of_ble_eq_true rfl⟩ ⟨Nat.zero_le _, Nat.zero_le _⟩ d_Reader_follow_215 h (fun r215 I215 A215 H locs h hP hS => ?_)
      refine lv_if_eq (tgt := 225) hx hb d_Reader_follow_218 rfl (fun q => ?_) (fun q => ?_)
      · have h := h.1 q
        refine lv_iconst (v := (-1)) hx hb d_Reader_follow_225 ic_m1 ?_
        exact W.iret hx hb hr (fun t ht hW => ⟨⟨_, (I215, A215), rfl, h, endC_of ht hP⟩, hS.F ht⟩) hS.2.2 d_Reader_follow_226
      · have h := h.2 q
        refine lv_iconst (v := 2) hx hb d_Reader_follow_221 ic_2 ?_
        refine lv_goto (tgt := 226) hx hb d_Reader_follow_222 rfl ?_
        exact W.iret hx hb hr (fun t ht hW => ⟨⟨_, (I215, A215), rfl, h, endC_of ht hP⟩, hS.F ht⟩) hS.2.2 d_Reader_follow_226
    · have h := h.2 q
      refine lv_iconst (v := 3) hx hb d_Reader_follow_209 ic_3 ?_
      refine lv_goto (tgt := 226) hx hb d_Reader_follow_210 rfl ?_
      exact W.iret hx hb hr (fun t ht hW => ⟨⟨_, (I203, A203), rfl, h, endC_of ht hP⟩, hS.F ht⟩) hS.2.2 d_Reader_follow_226
  by_cases q8 : x1 = 61
  · have h := h.2.2.2.2.2.2.2.2.1 q8
    refine lv_lookup (off := 358) (tgt := 359) hx hb d_Reader_follow_1 (by decide) (by rw [q8]; rfl) rfl ?_
    refine lv_aload_n hx hb d_Reader_follow_359 rfl (lv_at hl 0 rfl) ?_
    refine lv_bipush (v := 64) hx hb d_Reader_follow_360 bp_64 ?_
    refine k_Reader_may 64 (rest := []) ⟨hx, hb, hml, hown, hw⟩ hK hD hA hS hP hl.1 (hw _ m_Reader_141) (Nat.le_of_ble_eq_true rfl) ⟨Nat.le_of_ble_eq_true rfl, Nat.le_of_ble_eq_true rfl⟩ ⟨Nat.zero_le _, Nat.zero_le _⟩ d_Reader_follow_362 h (fun r362 I362 A362 H locs h hP hS => ?_)
    refine lv_if_eq (tgt := 373) hx hb d_Reader_follow_365 rfl (fun q => ?_) (fun q => ?_)
    · have h := h.1 q
      refine lv_iconst (v := (-1)) hx hb d_Reader_follow_373 ic_m1 ?_
      exact W.iret hx hb hr (fun t ht hW => ⟨⟨_, (I362, A362), rfl, h, endC_of ht hP⟩, hS.F ht⟩) hS.2.2 d_Reader_follow_374
    · have h := h.2 q
      refine lv_bipush (v := 10) hx hb d_Reader_follow_368 bp_10 ?_
      refine lv_goto (tgt := 374) hx hb d_Reader_follow_370 rfl ?_
      exact W.iret hx hb hr (fun t ht hW => ⟨⟨_, (I362, A362), rfl, h, endC_of ht hP⟩, hS.F ht⟩) hS.2.2 d_Reader_follow_374
  by_cases q9 : x1 = 91
  · have h := h.2.2.2.2.2.2.2.2.2.1 q9
    refine lv_lookup (off := 226) (tgt := 227) hx hb d_Reader_follow_1 (by decide) (by rw [q9]; rfl) rfl ?_
    refine lv_aload_n hx hb d_Reader_follow_227 rfl (lv_at hl 0 rfl) ?_
    refine lv_bipush (v := 8) hx hb d_Reader_follow_228 bp_8 ?_
    refine k_Reader_may 8 (rest := []) ⟨hx, hb, hml, hown, hw⟩ hK hD hA hS hP hl.1 (hw _ m_Reader_141) (Nat.le_of_ble_eq_true rfl) ⟨Nat.le_of_ble_eq_true rfl, Nat.le_of_ble_eq_true rfl⟩ ⟨Nat.zero_le _, Nat.zero_le _⟩ d_Reader_follow_230 h (fun r230 I230 A230 H locs h hP hS => ?_)
    refine lv_if_eq (tgt := 250) hx hb d_Reader_follow_233 rfl (fun q => ?_) (fun q => ?_)
    · have h := h.1 q
      refine lv_aload_n hx hb d_Reader_follow_250 rfl (lv_at hl 0 rfl) ?_
      refine lv_bipush (v := 32) hx hb d_Reader_follow_251 bp_32 ?_
      refine k_Reader_may 32 (rest := []) ⟨hx, hb, hml, hown, hw⟩ hK hD hA hS hP hl.1 (hw _ m_Reader_141) (Nat.le_of_ble_eq_true rfl) ⟨Nat.le_of_ble_eq_true rfl, Nat.le_of_ble_eq_true rfl⟩ ⟨Nat.zero_le _, Nat.zero_le _⟩ d_Reader_follow_253 h (fun r253 I253 A253 H locs h hP hS => ?_)
      refine lv_if_eq (tgt := 264) hx hb d_Reader_follow_256 rfl (fun q => ?_) (fun q => ?_)
      · have h := h.1 q
        refine lv_iconst (v := (-1)) hx hb d_Reader_follow_264 ic_m1 ?_
        exact W.iret hx hb hr (fun t ht hW => ⟨⟨_, (I253, A253), rfl, h, endC_of ht hP⟩, hS.F ht⟩) hS.2.2 d_Reader_follow_265
      · have h := h.2 q
        refine lv_bipush (v := 8) hx hb d_Reader_follow_259 bp_8 ?_
        refine lv_goto (tgt := 265) hx hb d_Reader_follow_261 rfl ?_
        exact W.iret hx hb hr (fun t ht hW => ⟨⟨_, (I253, A253), rfl, h, endC_of ht hP⟩, hS.F ht⟩) hS.2.2 d_Reader_follow_265
    · have h := h.2 q
      refine lv_iload_n hx hb d_Reader_follow_236 rfl (lv_at hl 2 rfl) ?_
      refine lv_bipush (v := 49) hx hb d_Reader_follow_237 bp_49 ?_
      refine lv_icmp_eq (tgt := 248) hx hb d_Reader_follow_239 rfl (fun q => ?_) (fun q => ?_)
      · have h := h.1 q
        refine lv_iconst (v := 4) hx hb d_Reader_follow_248 ic_4 ?_
        exact W.iret hx hb hr (fun t ht hW => ⟨⟨_, (I230, A230), rfl, h, endC_of ht hP⟩, hS.F ht⟩) hS.2.2 d_Reader_follow_249
      · have h := h.2 q
        refine lv_iload_n hx hb d_Reader_follow_242 rfl (lv_at hl 2 rfl) ?_
        refine lv_bipush (v := 50) hx hb d_Reader_follow_243 bp_50 ?_
        refine lv_icmp_ne (tgt := 250) hx hb d_Reader_follow_245 rfl (fun q => ?_) (fun q => ?_)
        · have h := h.2 q
          refine lv_aload_n hx hb d_Reader_follow_250 rfl (lv_at hl 0 rfl) ?_
          refine lv_bipush (v := 32) hx hb d_Reader_follow_251 bp_32 ?_
          refine k_Reader_may 32 (rest := []) ⟨hx, hb, hml, hown, hw⟩ hK hD hA hS hP hl.1 (hw _ m_Reader_141) (Nat.le_of_ble_eq_true rfl) ⟨Nat.le_of_ble_eq_true rfl, Nat.le_of_ble_eq_true rfl⟩ ⟨Nat.zero_le _, Nat.zero_le _⟩ d_Reader_follow_253 h (fun r253 I253 A253 H locs h hP hS => ?_)
          refine lv_if_eq (tgt := 264) hx hb d_Reader_follow_256 rfl (fun q => ?_) (fun q => ?_)
          · have h := h.1 q
            refine lv_iconst (v := (-1)) hx hb d_Reader_follow_264 ic_m1 ?_
            exact W.iret hx hb hr (fun t ht hW => ⟨⟨_, (I253, A253), rfl, h, endC_of ht hP⟩, hS.F ht⟩) hS.2.2 d_Reader_follow_265
          · have h := h.2 q
            refine lv_bipush (v := 8) hx hb d_Reader_follow_259 bp_8 ?_
            refine lv_goto (tgt := 265) hx hb d_Reader_follow_261 rfl ?_
            exact W.iret hx hb hr (fun t ht hW => ⟨⟨_, (I253, A253), rfl, h, endC_of ht hP⟩, hS.F ht⟩) hS.2.2 d_Reader_follow_265
        · have h := h.1 q
          refine lv_iconst (v := 4) hx hb d_Reader_follow_248 ic_4 ?_
          exact W.iret hx hb hr (fun t ht hW => ⟨⟨_, (I230, A230), rfl, h, endC_of ht hP⟩, hS.F ht⟩) hS.2.2 d_Reader_follow_249
  by_cases q10 : x1 = 93
  · have h := h.2.2.2.2.2.2.2.2.2.2.1 q10
    refine lv_lookup (off := 288) (tgt := 289) hx hb d_Reader_follow_1 (by decide) (by rw [q10]; rfl) rfl ?_
    refine lv_aload_n hx hb d_Reader_follow_289 rfl (lv_at hl 0 rfl) ?_
    refine lv_sipush (v := 2048) hx hb d_Reader_follow_290 sp_2048 ?_
    refine k_Reader_may 2048 (rest := []) ⟨hx, hb, hml, hown, hw⟩ hK hD hA hS hP hl.1 (hw _ m_Reader_141) (Nat.le_of_ble_eq_true rfl) ⟨Nat.le_of_ble_eq_true rfl, Nat.le_of_ble_eq_true rfl⟩ ⟨Nat.zero_le _, Nat.zero_le _⟩ d_Reader_follow_293 h (fun r293 I293 A293 H locs h hP hS => ?_)
    refine lv_if_eq (tgt := 304) hx hb d_Reader_follow_296 rfl (fun q => ?_) (fun q => ?_)
    · have h := h.1 q
      refine lv_iconst (v := (-1)) hx hb d_Reader_follow_304 ic_m1 ?_
      exact W.iret hx hb hr (fun t ht hW => ⟨⟨_, (I293, A293), rfl, h, endC_of ht hP⟩, hS.F ht⟩) hS.2.2 d_Reader_follow_305
    · have h := h.2 q
      refine lv_bipush (v := 14) hx hb d_Reader_follow_299 bp_14 ?_
      refine lv_goto (tgt := 305) hx hb d_Reader_follow_301 rfl ?_
      exact W.iret hx hb hr (fun t ht hW => ⟨⟨_, (I293, A293), rfl, h, endC_of ht hP⟩, hS.F ht⟩) hS.2.2 d_Reader_follow_305
  by_cases q11 : x1 = 94
  · have h := h.2.2.2.2.2.2.2.2.2.2.2.1 q11
    refine lv_lookup (off := 321) (tgt := 322) hx hb d_Reader_follow_1 (by decide) (by rw [q11]; rfl) rfl ?_
    refine lv_aload_n hx hb d_Reader_follow_322 rfl (lv_at hl 0 rfl) ?_
    refine lv_sipush (v := 128) hx hb d_Reader_follow_323 sp_128 ?_
    refine k_Reader_may 128 (rest := []) ⟨hx, hb, hml, hown, hw⟩ hK hD hA hS hP hl.1 (hw _ m_Reader_141) (Nat.le_of_ble_eq_true rfl) ⟨Nat.le_of_ble_eq_true rfl, Nat.le_of_ble_eq_true rfl⟩ ⟨Nat.zero_le _, Nat.zero_le _⟩ d_Reader_follow_326 h (fun r326 I326 A326 H locs h hP hS => ?_)
    refine lv_if_eq (tgt := 343) hx hb d_Reader_follow_329 rfl (fun q => ?_) (fun q => ?_)
    · have h := h.1 q
      refine lv_aload_n hx hb d_Reader_follow_343 rfl (lv_at hl 0 rfl) ?_
      refine lv_bipush (v := 64) hx hb d_Reader_follow_344 bp_64 ?_
      refine k_Reader_may 64 (rest := []) ⟨hx, hb, hml, hown, hw⟩ hK hD hA hS hP hl.1 (hw _ m_Reader_141) (Nat.le_of_ble_eq_true rfl) ⟨Nat.le_of_ble_eq_true rfl, Nat.le_of_ble_eq_true rfl⟩ ⟨Nat.zero_le _, Nat.zero_le _⟩ d_Reader_follow_346 h (fun r346 I346 A346 H locs h hP hS => ?_)
      refine lv_if_eq (tgt := 357) hx hb d_Reader_follow_349 rfl (fun q => ?_) (fun q => ?_)
      · have h := h.1 q
        refine lv_iconst (v := (-1)) hx hb d_Reader_follow_357 ic_m1 ?_
        exact W.iret hx hb hr (fun t ht hW => ⟨⟨_, (I346, A346), rfl, h, endC_of ht hP⟩, hS.F ht⟩) hS.2.2 d_Reader_follow_358
      · have h := h.2 q
        refine lv_bipush (v := 9) hx hb d_Reader_follow_352 bp_9 ?_
        refine lv_goto (tgt := 358) hx hb d_Reader_follow_354 rfl ?_
        exact W.iret hx hb hr (fun t ht hW => ⟨⟨_, (I346, A346), rfl, h, endC_of ht hP⟩, hS.F ht⟩) hS.2.2 d_Reader_follow_358
    · have h := h.2 q
      refine lv_iload_n hx hb d_Reader_follow_332 rfl (lv_at hl 1 rfl) ?_
      refine lv_aload_n hx hb d_Reader_follow_333 rfl (lv_at hl 0 rfl) ?_
      refine gC_Reader_latestSign hx hb hw hown hK hP (hw _ m_Reader_67) d_Reader_follow_334 ?_
      refine lv_icmp_ne (tgt := 343) hx hb d_Reader_follow_337 rfl (fun q => ?_) (fun q => ?_)
      · have h := h.2 q
        refine lv_aload_n hx hb d_Reader_follow_343 rfl (lv_at hl 0 rfl) ?_
        refine lv_bipush (v := 64) hx hb d_Reader_follow_344 bp_64 ?_
        refine k_Reader_may 64 (rest := []) ⟨hx, hb, hml, hown, hw⟩ hK hD hA hS hP hl.1 (hw _ m_Reader_141) (Nat.le_of_ble_eq_true rfl) ⟨Nat.le_of_ble_eq_true rfl, Nat.le_of_ble_eq_true rfl⟩ ⟨Nat.zero_le _, Nat.zero_le _⟩ d_Reader_follow_346 h (fun r346 I346 A346 H locs h hP hS => ?_)
        refine lv_if_eq (tgt := 357) hx hb d_Reader_follow_349 rfl (fun q => ?_) (fun q => ?_)
        · have h := h.1 q
          refine lv_iconst (v := (-1)) hx hb d_Reader_follow_357 ic_m1 ?_
          exact W.iret hx hb hr (fun t ht hW => ⟨⟨_, (I346, A346), rfl, h, endC_of ht hP⟩, hS.F ht⟩) hS.2.2 d_Reader_follow_358
        · have h := h.2 q
          refine lv_bipush (v := 9) hx hb d_Reader_follow_352 bp_9 ?_
          refine lv_goto (tgt := 358) hx hb d_Reader_follow_354 rfl ?_
          exact W.iret hx hb hr (fun t ht hW => ⟨⟨_, (I346, A346), rfl, h, endC_of ht hP⟩, hS.F ht⟩) hS.2.2 d_Reader_follow_358
      · have h := h.1 q
        refine lv_bipush (v := 10) hx hb d_Reader_follow_340 bp_10 ?_
        exact W.iret hx hb hr (fun t ht hW => ⟨⟨_, (I326, A326), rfl, h, endC_of ht hP⟩, hS.F ht⟩) hS.2.2 d_Reader_follow_342
  by_cases q12 : x1 = 95
  · have h := h.2.2.2.2.2.2.2.2.2.2.2.2.1 q12
    refine lv_lookup (off := 321) (tgt := 322) hx hb d_Reader_follow_1 (by decide) (by rw [q12]; rfl) rfl ?_
    refine lv_aload_n hx hb d_Reader_follow_322 rfl (lv_at hl 0 rfl) ?_
    refine lv_sipush (v := 128) hx hb d_Reader_follow_323 sp_128 ?_
    refine k_Reader_may 128 (rest := []) ⟨hx, hb, hml, hown, hw⟩ hK hD hA hS hP hl.1 (hw _ m_Reader_141) (Nat.le_of_ble_eq_true rfl) ⟨Nat.le_of_ble_eq_true rfl, Nat.le_of_ble_eq_true rfl⟩ ⟨Nat.zero_le _, Nat.zero_le _⟩ d_Reader_follow_326 h (fun r326 I326 A326 H locs h hP hS => ?_)
    refine lv_if_eq (tgt := 343) hx hb d_Reader_follow_329 rfl (fun q => ?_) (fun q => ?_)
    · have h := h.1 q
      refine lv_aload_n hx hb d_Reader_follow_343 rfl (lv_at hl 0 rfl) ?_
      refine lv_bipush (v := 64) hx hb d_Reader_follow_344 bp_64 ?_
      refine k_Reader_may 64 (rest := []) ⟨hx, hb, hml, hown, hw⟩ hK hD hA hS hP hl.1 (hw _ m_Reader_141) (Nat.le_of_ble_eq_true rfl) ⟨Nat.le_of_ble_eq_true rfl, Nat.le_of_ble_eq_true rfl⟩ ⟨Nat.zero_le _, Nat.zero_le _⟩ d_Reader_follow_346 h (fun r346 I346 A346 H locs h hP hS => ?_)
      refine lv_if_eq (tgt := 357) hx hb d_Reader_follow_349 rfl (fun q => ?_) (fun q => ?_)
      · have h := h.1 q
        refine lv_iconst (v := (-1)) hx hb d_Reader_follow_357 ic_m1 ?_
        exact W.iret hx hb hr (fun t ht hW => ⟨⟨_, (I346, A346), rfl, h, endC_of ht hP⟩, hS.F ht⟩) hS.2.2 d_Reader_follow_358
      · have h := h.2 q
        refine lv_bipush (v := 9) hx hb d_Reader_follow_352 bp_9 ?_
        refine lv_goto (tgt := 358) hx hb d_Reader_follow_354 rfl ?_
        exact W.iret hx hb hr (fun t ht hW => ⟨⟨_, (I346, A346), rfl, h, endC_of ht hP⟩, hS.F ht⟩) hS.2.2 d_Reader_follow_358
    · have h := h.2 q
      refine lv_iload_n hx hb d_Reader_follow_332 rfl (lv_at hl 1 rfl) ?_
      refine lv_aload_n hx hb d_Reader_follow_333 rfl (lv_at hl 0 rfl) ?_
      refine gC_Reader_latestSign hx hb hw hown hK hP (hw _ m_Reader_67) d_Reader_follow_334 ?_
      refine lv_icmp_ne (tgt := 343) hx hb d_Reader_follow_337 rfl (fun q => ?_) (fun q => ?_)
      · have h := h.2 q
        refine lv_aload_n hx hb d_Reader_follow_343 rfl (lv_at hl 0 rfl) ?_
        refine lv_bipush (v := 64) hx hb d_Reader_follow_344 bp_64 ?_
        refine k_Reader_may 64 (rest := []) ⟨hx, hb, hml, hown, hw⟩ hK hD hA hS hP hl.1 (hw _ m_Reader_141) (Nat.le_of_ble_eq_true rfl) ⟨Nat.le_of_ble_eq_true rfl, Nat.le_of_ble_eq_true rfl⟩ ⟨Nat.zero_le _, Nat.zero_le _⟩ d_Reader_follow_346 h (fun r346 I346 A346 H locs h hP hS => ?_)
        refine lv_if_eq (tgt := 357) hx hb d_Reader_follow_349 rfl (fun q => ?_) (fun q => ?_)
        · have h := h.1 q
          refine lv_iconst (v := (-1)) hx hb d_Reader_follow_357 ic_m1 ?_
          exact W.iret hx hb hr (fun t ht hW => ⟨⟨_, (I346, A346), rfl, h, endC_of ht hP⟩, hS.F ht⟩) hS.2.2 d_Reader_follow_358
        · have h := h.2 q
          refine lv_bipush (v := 9) hx hb d_Reader_follow_352 bp_9 ?_
          refine lv_goto (tgt := 358) hx hb d_Reader_follow_354 rfl ?_
          exact W.iret hx hb hr (fun t ht hW => ⟨⟨_, (I346, A346), rfl, h, endC_of ht hP⟩, hS.F ht⟩) hS.2.2 d_Reader_follow_358
      · have h := h.1 q
        refine lv_bipush (v := 10) hx hb d_Reader_follow_340 bp_10 ?_
        exact W.iret hx hb hr (fun t ht hW => ⟨⟨_, (I326, A326), rfl, h, endC_of ht hP⟩, hS.F ht⟩) hS.2.2 d_Reader_follow_342
  by_cases q13 : x1 = 122
  · have h := h.2.2.2.2.2.2.2.2.2.2.2.2.2.1 q13
    refine lv_lookup (off := 305) (tgt := 306) hx hb d_Reader_follow_1 (by decide) (by rw [q13]; rfl) rfl ?_
    refine lv_aload_n hx hb d_Reader_follow_306 rfl (lv_at hl 0 rfl) ?_
    refine lv_bipush (v := 32) hx hb d_Reader_follow_307 bp_32 ?_
    refine k_Reader_may 32 (rest := []) ⟨hx, hb, hml, hown, hw⟩ hK hD hA hS hP hl.1 (hw _ m_Reader_141) (Nat.le_of_ble_eq_true rfl) ⟨Nat.le_of_ble_eq_true rfl, Nat.le_of_ble_eq_true rfl⟩ ⟨Nat.zero_le _, Nat.zero_le _⟩ d_Reader_follow_309 h (fun r309 I309 A309 H locs h hP hS => ?_)
    refine lv_if_eq (tgt := 320) hx hb d_Reader_follow_312 rfl (fun q => ?_) (fun q => ?_)
    · have h := h.1 q
      refine lv_iconst (v := (-1)) hx hb d_Reader_follow_320 ic_m1 ?_
      exact W.iret hx hb hr (fun t ht hW => ⟨⟨_, (I309, A309), rfl, h, endC_of ht hP⟩, hS.F ht⟩) hS.2.2 d_Reader_follow_321
    · have h := h.2 q
      refine lv_bipush (v := 14) hx hb d_Reader_follow_315 bp_14 ?_
      refine lv_goto (tgt := 321) hx hb d_Reader_follow_317 rfl ?_
      exact W.iret hx hb hr (fun t ht hW => ⟨⟨_, (I309, A309), rfl, h, endC_of ht hP⟩, hS.F ht⟩) hS.2.2 d_Reader_follow_321
  by_cases q14 : x1 = 124
  · have h := h.2.2.2.2.2.2.2.2.2.2.2.2.2.2.1 q14
    refine lv_lookup (off := 174) (tgt := 175) hx hb d_Reader_follow_1 (by decide) (by rw [q14]; rfl) rfl ?_
    refine lv_aload_n hx hb d_Reader_follow_175 rfl (lv_at hl 0 rfl) ?_
    refine lv_iconst (v := 4) hx hb d_Reader_follow_176 ic_4 ?_
    refine k_Reader_may 4 (rest := []) ⟨hx, hb, hml, hown, hw⟩ hK hD hA hS hP hl.1 (hw _ m_Reader_141) (Nat.le_of_ble_eq_true rfl) ⟨Nat.le_of_ble_eq_true rfl, Nat.le_of_ble_eq_true rfl⟩ ⟨Nat.zero_le _, Nat.zero_le _⟩ d_Reader_follow_177 h (fun r177 I177 A177 H locs h hP hS => ?_)
    refine lv_if_eq (tgt := 187) hx hb d_Reader_follow_180 rfl (fun q => ?_) (fun q => ?_)
    · have h := h.1 q
      refine lv_aload_n hx hb d_Reader_follow_187 rfl (lv_at hl 0 rfl) ?_
      refine lv_iconst (v := 2) hx hb d_Reader_follow_188 ic_2 ?_
      refine k_Reader_may 2 (rest := []) ⟨hx, hb, hml, hown, hw⟩ hK hD hA hS hP hl.1 (hw _ m_Reader_141) (Nat.le_of_ble_eq_true rfl) ⟨Nat.le_of_ble_eq_true rfl, Nat.le_of_ble_eq_true rfl⟩ ⟨Nat.zero_le _, Nat.zero_le _⟩ d_Reader_follow_189 h (fun r189 I189 A189 H locs h hP hS => ?_)
      refine lv_if_eq (tgt := 199) hx hb d_Reader_follow_192 rfl (fun q => ?_) (fun q => ?_)
      · have h := h.1 q
        refine lv_iconst (v := (-1)) hx hb d_Reader_follow_199 ic_m1 ?_
        exact W.iret hx hb hr (fun t ht hW => ⟨⟨_, (I189, A189), rfl, h, endC_of ht hP⟩, hS.F ht⟩) hS.2.2 d_Reader_follow_200
      · have h := h.2 q
        refine lv_iconst (v := 1) hx hb d_Reader_follow_195 ic_1 ?_
        refine lv_goto (tgt := 200) hx hb d_Reader_follow_196 rfl ?_
        exact W.iret hx hb hr (fun t ht hW => ⟨⟨_, (I189, A189), rfl, h, endC_of ht hP⟩, hS.F ht⟩) hS.2.2 d_Reader_follow_200
    · have h := h.2 q
      refine lv_iconst (v := 3) hx hb d_Reader_follow_183 ic_3 ?_
      refine lv_goto (tgt := 200) hx hb d_Reader_follow_184 rfl ?_
      exact W.iret hx hb hr (fun t ht hW => ⟨⟨_, (I177, A177), rfl, h, endC_of ht hP⟩, hS.F ht⟩) hS.2.2 d_Reader_follow_200
  · have h := h.2.2.2.2.2.2.2.2.2.2.2.2.2.2.2 q0 q1 q2 q3 q4 q5 q6 q7 q8 q9 q10 q11 q12 q13 q14
    refine lv_lookup (off := 452) (tgt := 453) hx hb d_Reader_follow_1 (by decide) ((lv_osw q0 (by decide)).trans ((lv_osw q1 (by decide)).trans ((lv_osw q2 (by decide)).trans ((lv_osw q3 (by decide)).trans ((lv_osw q4 (by decide)).trans ((lv_osw q5 (by decide)).trans ((lv_osw q6 (by decide)).trans ((lv_osw q7 (by decide)).trans ((lv_osw q8 (by decide)).trans ((lv_osw q9 (by decide)).trans ((lv_osw q10 (by decide)).trans ((lv_osw q11 (by decide)).trans ((lv_osw q12 (by decide)).trans ((lv_osw q13 (by decide)).trans ((lv_osw q14 (by decide)).trans rfl))))))))))))))) rfl ?_
    refine lv_aload_n hx hb d_Reader_follow_453 rfl (lv_at hl 0 rfl) ?_
    refine lv_iload_n hx hb d_Reader_follow_454 rfl (lv_at hl 1 rfl) ?_
    refine k_Reader_followOther x1 (rest := []) ⟨hx, hb, hml, hown, hw⟩ hK hD hA hS hP hl.1 (hw _ m_Reader_154) (Nat.le_of_ble_eq_true rfl) ⟨Nat.le_of_ble_eq_true rfl, Nat.le_of_ble_eq_true rfl⟩ ⟨Nat.zero_le _, Nat.zero_le _⟩ d_Reader_follow_455 h (fun r455 I455 A455 H locs h hP hS => ?_)
    exact W.iret hx hb hr (fun t ht hW => ⟨⟨_, (I455, A455), rfl, h, endC_of ht hP⟩, hS.F ht⟩) hS.2.2 d_Reader_follow_458
theorem k_Reader_follow {p : Program} {l : Launch} {e : Env} {R : Room} {s : State} {m : MethodId} {args : Array Value} {below : List Frame} {meth : Method} {c : Code} {H : Heap} {locs : List Loc} {cells slots : Nat} {Q : State → Prop} {cc : ByteArray} {pc nL idx : Nat} {own : String} {ls : Array Slot} {D : va_G} {cA a : Nat → Nat} {AA : Nat → Prop} {I : Nat → Int32} {A : Nat → Nat → Int32} {post : Int32 → (Nat → Int32) → (Nat → Nat → Int32) → Prop} (x1 : Int32) (x2 : Int32) {rest : List Value} (S : CallFix p m c cc nL s args WALL own) (hK : KC D cA a AA s) (hD : ∀ I A, va_D AA (wC cA a I A)) (hA : ∀ q : Nat, s.heap.size ≤ q → AA q) (hS : va_S AA s.heap H locs) (hP : va_P D cls (wC cA a I A) H) (hl1 : ls.size = nL) (hlink : (Cond.methodLink own idx y_Reader_follow).before args s = true) (hst : (rest.map fun v => v.category).sum ≤ 8) (hR : ({ frames := 3, cells := 0, slots := 0, locals := 62 } : Room).frames + 1 ≤ R.frames ∧ 8 + (3 + 11) + ({ frames := 3, cells := 0, slots := 0, locals := 62 } : Room).locals ≤ R.locals) (hcs : cells ≤ R.cells ∧ slots ≤ R.slots) (hdg : decode cc pc = .ok (.invokevirtual idx, 3)) (h : wp_Reader_follow x1 x2 I A post) (kk : ∀ (r : Int32) (I1 : Nat → Int32) (A1 : Nat → Nat → Int32) (H1 : Heap) (locs1 : List Loc), post r I1 A1 → va_P D cls (wC cA a I1 A1) H1 → va_S AA s.heap H1 locs1 → W p l e R s m args below meth c H1 locs1 cells slots Q (F0 m (pc + 3) ls (.int r :: rest))) : W p l e R s m args below meth c H locs cells slots Q (F0 m pc ls (.int x2 :: .int x1 :: .ref (a 2) :: rest)) :=
  va_calli (va_runV (As := [.int x1, .int x2]) (rest := rest) S (c_Reader_follow l D cA a H.size x1 x2 I A post h) ⟨callB_of 2 S.2.2.2.2 g_Reader_follow rfl rfl rfl (S.2.2.2.2 _ mi_Reader) hlink ⟨by decide, by decide, by decide +kernel⟩ hR, S.2.2.2.2 _ mn_Reader_follow, S.2.2.2.2 _ ms_Reader_follow⟩ (preCV hK hD hA hS hP 2 rfl rfl) rfl rfl hl1 rfl (lv_room hst) hdg hcs) hS (fun q _ z => AC_le hD hA hS q z) (fun q z => AC_le hD hA hS q z) (fun r u t H1 locs1 ht _ hp hB _ _ hS1 => kk r u.1 u.2 H1 locs1 hp (of_endC ht hB) hS1)
def wp_Reader_isNoteState (x1 : Int32) (I : Nat → Int32) (A : Nat → Nat → Int32) (post : Int32 → (Nat → Int32) → (Nat → Nat → Int32) → Prop) : Prop := ((x1 = 9 → post 1 I A) ∧ (¬ x1 = 9 → ((x1 = 10 → post 1 I A) ∧ (¬ x1 = 10 → ((x1 = 11 → post 1 I A) ∧ (¬ x1 = 11 → post 0 I A))))))
theorem d_Reader_isNoteState_0 : decode b_Reader_isNoteState 0 = .ok (.iload_n 0, 1) := by decide +kernel
theorem d_Reader_isNoteState_1 : decode b_Reader_isNoteState 1 = .ok (.bipush 9, 2) := by decide +kernel
theorem d_Reader_isNoteState_3 : decode b_Reader_isNoteState 3 = .ok (.if_icmp .eq 15, 3) := by decide +kernel
theorem d_Reader_isNoteState_6 : decode b_Reader_isNoteState 6 = .ok (.iload_n 0, 1) := by decide +kernel
theorem d_Reader_isNoteState_7 : decode b_Reader_isNoteState 7 = .ok (.bipush 10, 2) := by decide +kernel
theorem d_Reader_isNoteState_9 : decode b_Reader_isNoteState 9 = .ok (.if_icmp .eq 9, 3) := by decide +kernel
theorem d_Reader_isNoteState_12 : decode b_Reader_isNoteState 12 = .ok (.iload_n 0, 1) := by decide +kernel
theorem d_Reader_isNoteState_13 : decode b_Reader_isNoteState 13 = .ok (.bipush 11, 2) := by decide +kernel
theorem d_Reader_isNoteState_15 : decode b_Reader_isNoteState 15 = .ok (.if_icmp .ne 7, 3) := by decide +kernel
theorem d_Reader_isNoteState_18 : decode b_Reader_isNoteState 18 = .ok (.iconst 1, 1) := by decide +kernel
theorem d_Reader_isNoteState_19 : decode b_Reader_isNoteState 19 = .ok (.goto 4, 3) := by decide +kernel
theorem d_Reader_isNoteState_22 : decode b_Reader_isNoteState 22 = .ok (.iconst 0, 1) := by decide +kernel
theorem d_Reader_isNoteState_23 : decode b_Reader_isNoteState 23 = .ok (.ireturn, 1) := by decide +kernel
def w_Reader_isNoteState : List Cond := .code y_Reader_isNoteState b_Reader_isNoteState 1 (some .boolean) :: WALL
theorem g_Reader_isNoteState : GoodIn WALL w_Reader_isNoteState := good_of mc_Reader_isNoteState
set_option maxHeartbeats 4000000 in
set_option maxRecDepth 100000 in
theorem c_Reader_isNoteState (l : Launch) (D : va_G) (cA a : Nat → Nat) (sz : Nat) (x1 : Int32) (I : Nat → Int32) (A : Nat → Nat → Int32) (post : Int32 → (Nat → Int32) → (Nat → Nat → Int32) → Prop) (h : wp_Reader_isNoteState x1 I A post) : Met l y_Reader_isNoteState w_Reader_isNoteState ({ frames := 0, cells := 0, slots := 0, locals := 0 }) (va_Pc [.int x1] (PreC D cA a I A sz)) (va_Qi (fun r (u : StW) => post r u.1 u.2) (EndC D cA a) (AC a sz)) 0 0 (AC a sz) := by
  refine Met.ofW (cc := b_Reader_isNoteState) (maxL := 1) (ret := (some .boolean)) (by decide) rfl ?_
  intro p e s m args below meth c s₁ B hml hv
  obtain ⟨rfl, hsz, hP, hK, hD0⟩ := hv
  have hx := B.exec
  have hb := B.bytes
  have hr := B.returns
  have hts := atoms_spec (ws := w_Reader_isNoteState) B.pre
  have hw := wall_of hts
  have hown : s.vm.findClass R_Reader = some m.cls := findClass_of_methodNamed B.named
  have hlocks := B.notSynchronized
  subst hsz
  have hD := hDC (sz := s.heap.size) hD0
  have hA : ∀ q : Nat, s.heap.size ≤ q → AC a s.heap.size q := fun q h => Or.inr h
  have hS : va_S (AC a s.heap.size) s.heap s.heap [] := va_S.rf
  have hl := lv_entry ([.int x1]) (n := 1) (Nat.le_of_ble_eq_true rfl)
  rw [lg_entry_eq]
  generalize (lg_sl ([.int x1]) ++ List.replicate (1 - (lg_sl ([.int x1])).length) Slot.unset).toArray = ls at hl ⊢
  have hl : lv_has ls 1 [(0, .int x1)] := hl
  unfold wp_Reader_isNoteState at h
  refine lv_iload_n hx hb d_Reader_isNoteState_0 rfl (lv_at hl 0 rfl) ?_
  refine lv_bipush (v := 9) hx hb d_Reader_isNoteState_1 bp_9 ?_
  refine lv_icmp_eq (tgt := 18) hx hb d_Reader_isNoteState_3 rfl (fun q => ?_) (fun q => ?_)
  · have h := h.1 q
    refine lv_iconst (v := 1) hx hb d_Reader_isNoteState_18 ic_1 ?_
    refine lv_goto (tgt := 23) hx hb d_Reader_isNoteState_19 rfl ?_
    exact W.zret hx hb hr (vz_n vz1) (fun t ht hW => ⟨⟨_, (I, A), rfl, h, endC_of ht hP⟩, hS.F ht⟩) hS.2.2 d_Reader_isNoteState_23
  · have h := h.2 q
    refine lv_iload_n hx hb d_Reader_isNoteState_6 rfl (lv_at hl 0 rfl) ?_
    refine lv_bipush (v := 10) hx hb d_Reader_isNoteState_7 bp_10 ?_
    refine lv_icmp_eq (tgt := 18) hx hb d_Reader_isNoteState_9 rfl (fun q => ?_) (fun q => ?_)
    · have h := h.1 q
      refine lv_iconst (v := 1) hx hb d_Reader_isNoteState_18 ic_1 ?_
      refine lv_goto (tgt := 23) hx hb d_Reader_isNoteState_19 rfl ?_
      exact W.zret hx hb hr (vz_n vz1) (fun t ht hW => ⟨⟨_, (I, A), rfl, h, endC_of ht hP⟩, hS.F ht⟩) hS.2.2 d_Reader_isNoteState_23
    · have h := h.2 q
      refine lv_iload_n hx hb d_Reader_isNoteState_12 rfl (lv_at hl 0 rfl) ?_
      refine lv_bipush (v := 11) hx hb d_Reader_isNoteState_13 bp_11 ?_
      refine lv_icmp_ne (tgt := 22) hx hb d_Reader_isNoteState_15 rfl (fun q => ?_) (fun q => ?_)
      · have h := h.2 q
        refine lv_iconst (v := 0) hx hb d_Reader_isNoteState_22 ic_0 ?_
        exact W.zret hx hb hr (vz_n vz0) (fun t ht hW => ⟨⟨_, (I, A), rfl, h, endC_of ht hP⟩, hS.F ht⟩) hS.2.2 d_Reader_isNoteState_23
      · have h := h.1 q
        refine lv_iconst (v := 1) hx hb d_Reader_isNoteState_18 ic_1 ?_
        refine lv_goto (tgt := 23) hx hb d_Reader_isNoteState_19 rfl ?_
        exact W.zret hx hb hr (vz_n vz1) (fun t ht hW => ⟨⟨_, (I, A), rfl, h, endC_of ht hP⟩, hS.F ht⟩) hS.2.2 d_Reader_isNoteState_23
theorem k_Reader_isNoteState {p : Program} {l : Launch} {e : Env} {R : Room} {s : State} {m : MethodId} {args : Array Value} {below : List Frame} {meth : Method} {c : Code} {H : Heap} {locs : List Loc} {cells slots : Nat} {Q : State → Prop} {cc : ByteArray} {pc nL idx : Nat} {own : String} {ls : Array Slot} {D : va_G} {cA a : Nat → Nat} {AA : Nat → Prop} {I : Nat → Int32} {A : Nat → Nat → Int32} {post : Int32 → (Nat → Int32) → (Nat → Nat → Int32) → Prop} (x1 : Int32) {rest : List Value} (S : CallFix p m c cc nL s args WALL own) (hK : KC D cA a AA s) (hD : ∀ I A, va_D AA (wC cA a I A)) (hA : ∀ q : Nat, s.heap.size ≤ q → AA q) (hS : va_S AA s.heap H locs) (hP : va_P D cls (wC cA a I A) H) (hl1 : ls.size = nL) (hlink : (Cond.methodLink own idx y_Reader_isNoteState).before args s = true) (hst : (rest.map fun v => v.category).sum ≤ 8) (hR : ({ frames := 0, cells := 0, slots := 0, locals := 0 } : Room).frames + 1 ≤ R.frames ∧ 8 + (1 + 11) + ({ frames := 0, cells := 0, slots := 0, locals := 0 } : Room).locals ≤ R.locals) (hcs : cells ≤ R.cells ∧ slots ≤ R.slots) (hdg : decode cc pc = .ok (.invokestatic idx, 3)) (h : wp_Reader_isNoteState x1 I A post) (kk : ∀ (r : Int32) (I1 : Nat → Int32) (A1 : Nat → Nat → Int32) (H1 : Heap) (locs1 : List Loc), post r I1 A1 → va_P D cls (wC cA a I1 A1) H1 → va_S AA s.heap H1 locs1 → W p l e R s m args below meth c H1 locs1 cells slots Q (F0 m (pc + 3) ls (.int r :: rest))) : W p l e R s m args below meth c H locs cells slots Q (F0 m pc ls (.int x1 :: rest)) :=
  va_calli (va_runS (As := [.int x1]) (rest := rest) S (c_Reader_isNoteState l D cA a H.size x1 I A post h) ⟨callB_of 1 S.2.2.2.2 g_Reader_isNoteState rfl rfl rfl (S.2.2.2.2 _ mi_Reader) hlink ⟨by decide, by decide, by decide +kernel⟩ hR, S.2.2.2.2 _ mn_Reader_isNoteState⟩ (preCS hK hD hA hS hP) rfl rfl hl1 rfl (lv_room hst) hdg hcs) hS (fun q _ z => AC_le hD hA hS q z) (fun q z => AC_le hD hA hS q z) (fun r u t H1 locs1 ht _ hp hB _ _ hS1 => kk r u.1 u.2 H1 locs1 hp (of_endC ht hB) hS1)
def wp_Reader_opensItem (x1 : Int32) (I : Nat → Int32) (A : Nat → Nat → Int32) (post : Int32 → (Nat → Int32) → (Nat → Nat → Int32) → Prop) : Prop := (((I 21) = 0 → ((x1 = 6 → post 1 I A) ∧ (¬ x1 = 6 → ((x1 = 8 → post 1 I A) ∧ (¬ x1 = 8 → ((x1 = 14 → post 1 I A) ∧ (¬ x1 = 14 → (wp_Reader_isNoteState x1 I A (fun r26 I26 A26 => ((r26 = 0 → post 0 I26 A26) ∧ (¬ r26 = 0 → post 1 I26 A26))))))))))) ∧ (¬ (I 21) = 0 → post 0 I A))
theorem d_Reader_opensItem_0 : decode b_Reader_opensItem 0 = .ok (.aload_n 0, 1) := by decide +kernel
theorem d_Reader_opensItem_1 : decode b_Reader_opensItem 1 = .ok (.getfield 74, 3) := by decide +kernel
theorem d_Reader_opensItem_4 : decode b_Reader_opensItem 4 = .ok (.ifCond .ne 32, 3) := by decide +kernel
theorem d_Reader_opensItem_7 : decode b_Reader_opensItem 7 = .ok (.iload_n 1, 1) := by decide +kernel
theorem d_Reader_opensItem_8 : decode b_Reader_opensItem 8 = .ok (.bipush 6, 2) := by decide +kernel
theorem d_Reader_opensItem_10 : decode b_Reader_opensItem 10 = .ok (.if_icmp .eq 22, 3) := by decide +kernel
theorem d_Reader_opensItem_13 : decode b_Reader_opensItem 13 = .ok (.iload_n 1, 1) := by decide +kernel
theorem d_Reader_opensItem_14 : decode b_Reader_opensItem 14 = .ok (.bipush 8, 2) := by decide +kernel
theorem d_Reader_opensItem_16 : decode b_Reader_opensItem 16 = .ok (.if_icmp .eq 16, 3) := by decide +kernel
theorem d_Reader_opensItem_19 : decode b_Reader_opensItem 19 = .ok (.iload_n 1, 1) := by decide +kernel
theorem d_Reader_opensItem_20 : decode b_Reader_opensItem 20 = .ok (.bipush 14, 2) := by decide +kernel
theorem d_Reader_opensItem_22 : decode b_Reader_opensItem 22 = .ok (.if_icmp .eq 10, 3) := by decide +kernel
theorem d_Reader_opensItem_25 : decode b_Reader_opensItem 25 = .ok (.iload_n 1, 1) := by decide +kernel
theorem d_Reader_opensItem_26 : decode b_Reader_opensItem 26 = .ok (.invokestatic 171, 3) := by decide +kernel
theorem d_Reader_opensItem_29 : decode b_Reader_opensItem 29 = .ok (.ifCond .eq 7, 3) := by decide +kernel
theorem d_Reader_opensItem_32 : decode b_Reader_opensItem 32 = .ok (.iconst 1, 1) := by decide +kernel
theorem d_Reader_opensItem_33 : decode b_Reader_opensItem 33 = .ok (.goto 4, 3) := by decide +kernel
theorem d_Reader_opensItem_36 : decode b_Reader_opensItem 36 = .ok (.iconst 0, 1) := by decide +kernel
theorem d_Reader_opensItem_37 : decode b_Reader_opensItem 37 = .ok (.ireturn, 1) := by decide +kernel
def w_Reader_opensItem : List Cond := .code y_Reader_opensItem b_Reader_opensItem 2 (some .boolean) :: WALL
theorem g_Reader_opensItem : GoodIn WALL w_Reader_opensItem := good_of mc_Reader_opensItem
set_option maxHeartbeats 4000000 in
set_option maxRecDepth 100000 in
theorem c_Reader_opensItem (l : Launch) (D : va_G) (cA a : Nat → Nat) (sz : Nat) (x1 : Int32) (I : Nat → Int32) (A : Nat → Nat → Int32) (post : Int32 → (Nat → Int32) → (Nat → Nat → Int32) → Prop) (h : wp_Reader_opensItem x1 I A post) : Met l y_Reader_opensItem w_Reader_opensItem ({ frames := 1, cells := 0, slots := 0, locals := 20 }) (va_Pc [.ref (a 2), .int x1] (PreC D cA a I A sz)) (va_Qi (fun r (u : StW) => post r u.1 u.2) (EndC D cA a) (AC a sz)) 0 0 (AC a sz) := by
  refine Met.ofW (cc := b_Reader_opensItem) (maxL := 2) (ret := (some .boolean)) (by decide) rfl ?_
  intro p e s m args below meth c s₁ B hml hv
  obtain ⟨rfl, hsz, hP, hK, hD0⟩ := hv
  have hx := B.exec
  have hb := B.bytes
  have hr := B.returns
  have hts := atoms_spec (ws := w_Reader_opensItem) B.pre
  have hw := wall_of hts
  have hown : s.vm.findClass R_Reader = some m.cls := findClass_of_methodNamed B.named
  have hlocks := B.notSynchronized
  subst hsz
  have hD := hDC (sz := s.heap.size) hD0
  have hA : ∀ q : Nat, s.heap.size ≤ q → AC a s.heap.size q := fun q h => Or.inr h
  have hS : va_S (AC a s.heap.size) s.heap s.heap [] := va_S.rf
  have hl := lv_entry ([.ref (a 2), .int x1]) (n := 2) (Nat.le_of_ble_eq_true rfl)
  rw [lg_entry_eq]
  generalize (lg_sl ([.ref (a 2), .int x1]) ++ List.replicate (2 - (lg_sl ([.ref (a 2), .int x1])).length) Slot.unset).toArray = ls at hl ⊢
  have hl : lv_has ls 2 [(0, .ref (a 2)), (1, .int x1)] := hl
  unfold wp_Reader_opensItem at h
  refine lv_aload_n hx hb d_Reader_opensItem_0 rfl (lv_at hl 0 rfl) ?_
  refine gC_Reader_inItem hx hb hw hown hK hP (hw _ m_Reader_74) d_Reader_opensItem_1 ?_
  refine lv_if_ne (tgt := 36) hx hb d_Reader_opensItem_4 rfl (fun q => ?_) (fun q => ?_)
  · have h := h.2 q
    refine lv_iconst (v := 0) hx hb d_Reader_opensItem_36 ic_0 ?_
    exact W.zret hx hb hr (vz_n vz0) (fun t ht hW => ⟨⟨_, (I, A), rfl, h, endC_of ht hP⟩, hS.F ht⟩) hS.2.2 d_Reader_opensItem_37
  · have h := h.1 q
    refine lv_iload_n hx hb d_Reader_opensItem_7 rfl (lv_at hl 1 rfl) ?_
    refine lv_bipush (v := 6) hx hb d_Reader_opensItem_8 bp_6 ?_
    refine lv_icmp_eq (tgt := 32) hx hb d_Reader_opensItem_10 rfl (fun q => ?_) (fun q => ?_)
    · have h := h.1 q
      refine lv_iconst (v := 1) hx hb d_Reader_opensItem_32 ic_1 ?_
      refine lv_goto (tgt := 37) hx hb d_Reader_opensItem_33 rfl ?_
      exact W.zret hx hb hr (vz_n vz1) (fun t ht hW => ⟨⟨_, (I, A), rfl, h, endC_of ht hP⟩, hS.F ht⟩) hS.2.2 d_Reader_opensItem_37
    · have h := h.2 q
      refine lv_iload_n hx hb d_Reader_opensItem_13 rfl (lv_at hl 1 rfl) ?_
      refine lv_bipush (v := 8) hx hb d_Reader_opensItem_14 bp_8 ?_
      refine lv_icmp_eq (tgt := 32) hx hb d_Reader_opensItem_16 rfl (fun q => ?_) (fun q => ?_)
      · have h := h.1 q
        refine lv_iconst (v := 1) hx hb d_Reader_opensItem_32 ic_1 ?_
        refine lv_goto (tgt := 37) hx hb d_Reader_opensItem_33 rfl ?_
        exact W.zret hx hb hr (vz_n vz1) (fun t ht hW => ⟨⟨_, (I, A), rfl, h, endC_of ht hP⟩, hS.F ht⟩) hS.2.2 d_Reader_opensItem_37
      · have h := h.2 q
        refine lv_iload_n hx hb d_Reader_opensItem_19 rfl (lv_at hl 1 rfl) ?_
        refine lv_bipush (v := 14) hx hb d_Reader_opensItem_20 bp_14 ?_
        refine lv_icmp_eq (tgt := 32) hx hb d_Reader_opensItem_22 rfl (fun q => ?_) (fun q => ?_)
        · have h := h.1 q
          refine lv_iconst (v := 1) hx hb d_Reader_opensItem_32 ic_1 ?_
          refine lv_goto (tgt := 37) hx hb d_Reader_opensItem_33 rfl ?_
          exact W.zret hx hb hr (vz_n vz1) (fun t ht hW => ⟨⟨_, (I, A), rfl, h, endC_of ht hP⟩, hS.F ht⟩) hS.2.2 d_Reader_opensItem_37
        · have h := h.2 q
          refine lv_iload_n hx hb d_Reader_opensItem_25 rfl (lv_at hl 1 rfl) ?_
          refine k_Reader_isNoteState x1 (rest := []) ⟨hx, hb, hml, hown, hw⟩ hK hD hA hS hP hl.1 (hw _ m_Reader_171) (Nat.le_of_ble_eq_true rfl) ⟨Nat.le_of_ble_eq_true rfl, Nat.le_of_ble_eq_true rfl⟩ ⟨Nat.zero_le _, Nat.zero_le _⟩ d_Reader_opensItem_26 h (fun r26 I26 A26 H locs h hP hS => ?_)
          refine lv_if_eq (tgt := 36) hx hb d_Reader_opensItem_29 rfl (fun q => ?_) (fun q => ?_)
          · have h := h.1 q
            refine lv_iconst (v := 0) hx hb d_Reader_opensItem_36 ic_0 ?_
            exact W.zret hx hb hr (vz_n vz0) (fun t ht hW => ⟨⟨_, (I26, A26), rfl, h, endC_of ht hP⟩, hS.F ht⟩) hS.2.2 d_Reader_opensItem_37
          · have h := h.2 q
            refine lv_iconst (v := 1) hx hb d_Reader_opensItem_32 ic_1 ?_
            refine lv_goto (tgt := 37) hx hb d_Reader_opensItem_33 rfl ?_
            exact W.zret hx hb hr (vz_n vz1) (fun t ht hW => ⟨⟨_, (I26, A26), rfl, h, endC_of ht hP⟩, hS.F ht⟩) hS.2.2 d_Reader_opensItem_37
theorem k_Reader_opensItem {p : Program} {l : Launch} {e : Env} {R : Room} {s : State} {m : MethodId} {args : Array Value} {below : List Frame} {meth : Method} {c : Code} {H : Heap} {locs : List Loc} {cells slots : Nat} {Q : State → Prop} {cc : ByteArray} {pc nL idx : Nat} {own : String} {ls : Array Slot} {D : va_G} {cA a : Nat → Nat} {AA : Nat → Prop} {I : Nat → Int32} {A : Nat → Nat → Int32} {post : Int32 → (Nat → Int32) → (Nat → Nat → Int32) → Prop} (x1 : Int32) {rest : List Value} (S : CallFix p m c cc nL s args WALL own) (hK : KC D cA a AA s) (hD : ∀ I A, va_D AA (wC cA a I A)) (hA : ∀ q : Nat, s.heap.size ≤ q → AA q) (hS : va_S AA s.heap H locs) (hP : va_P D cls (wC cA a I A) H) (hl1 : ls.size = nL) (hlink : (Cond.methodLink own idx y_Reader_opensItem).before args s = true) (hst : (rest.map fun v => v.category).sum ≤ 8) (hR : ({ frames := 1, cells := 0, slots := 0, locals := 20 } : Room).frames + 1 ≤ R.frames ∧ 8 + (2 + 11) + ({ frames := 1, cells := 0, slots := 0, locals := 20 } : Room).locals ≤ R.locals) (hcs : cells ≤ R.cells ∧ slots ≤ R.slots) (hdg : decode cc pc = .ok (.invokevirtual idx, 3)) (h : wp_Reader_opensItem x1 I A post) (kk : ∀ (r : Int32) (I1 : Nat → Int32) (A1 : Nat → Nat → Int32) (H1 : Heap) (locs1 : List Loc), post r I1 A1 → va_P D cls (wC cA a I1 A1) H1 → va_S AA s.heap H1 locs1 → W p l e R s m args below meth c H1 locs1 cells slots Q (F0 m (pc + 3) ls (.int r :: rest))) : W p l e R s m args below meth c H locs cells slots Q (F0 m pc ls (.int x1 :: .ref (a 2) :: rest)) :=
  va_calli (va_runV (As := [.int x1]) (rest := rest) S (c_Reader_opensItem l D cA a H.size x1 I A post h) ⟨callB_of 1 S.2.2.2.2 g_Reader_opensItem rfl rfl rfl (S.2.2.2.2 _ mi_Reader) hlink ⟨by decide, by decide, by decide +kernel⟩ hR, S.2.2.2.2 _ mn_Reader_opensItem, S.2.2.2.2 _ ms_Reader_opensItem⟩ (preCV hK hD hA hS hP 2 rfl rfl) rfl rfl hl1 rfl (lv_room hst) hdg hcs) hS (fun q _ z => AC_le hD hA hS q z) (fun q z => AC_le hD hA hS q z) (fun r u t H1 locs1 ht _ hp hB _ _ hS1 => kk r u.1 u.2 H1 locs1 hp (of_endC ht hB) hS1)
def wp_Reader_opensBar (x1 : Int32) (I : Nat → Int32) (A : Nat → Nat → Int32) (post : Int32 → (Nat → Int32) → (Nat → Nat → Int32) → Prop) : Prop := (((I 20) = 0 → ((x1 = 4 → post 1 I A) ∧ (¬ x1 = 4 → (wp_Reader_opensItem x1 I A (fun r14 I14 A14 => ((r14 = 0 → post 0 I14 A14) ∧ (¬ r14 = 0 → post 1 I14 A14))))))) ∧ (¬ (I 20) = 0 → post 0 I A))
theorem d_Reader_opensBar_0 : decode b_Reader_opensBar 0 = .ok (.aload_n 0, 1) := by decide +kernel
theorem d_Reader_opensBar_1 : decode b_Reader_opensBar 1 = .ok (.getfield 70, 3) := by decide +kernel
theorem d_Reader_opensBar_4 : decode b_Reader_opensBar 4 = .ok (.ifCond .ne 20, 3) := by decide +kernel
theorem d_Reader_opensBar_7 : decode b_Reader_opensBar 7 = .ok (.iload_n 1, 1) := by decide +kernel
theorem d_Reader_opensBar_8 : decode b_Reader_opensBar 8 = .ok (.iconst 4, 1) := by decide +kernel
theorem d_Reader_opensBar_9 : decode b_Reader_opensBar 9 = .ok (.if_icmp .eq 11, 3) := by decide +kernel
theorem d_Reader_opensBar_12 : decode b_Reader_opensBar 12 = .ok (.aload_n 0, 1) := by decide +kernel
theorem d_Reader_opensBar_13 : decode b_Reader_opensBar 13 = .ok (.iload_n 1, 1) := by decide +kernel
theorem d_Reader_opensBar_14 : decode b_Reader_opensBar 14 = .ok (.invokevirtual 174, 3) := by decide +kernel
theorem d_Reader_opensBar_17 : decode b_Reader_opensBar 17 = .ok (.ifCond .eq 7, 3) := by decide +kernel
theorem d_Reader_opensBar_20 : decode b_Reader_opensBar 20 = .ok (.iconst 1, 1) := by decide +kernel
theorem d_Reader_opensBar_21 : decode b_Reader_opensBar 21 = .ok (.goto 4, 3) := by decide +kernel
theorem d_Reader_opensBar_24 : decode b_Reader_opensBar 24 = .ok (.iconst 0, 1) := by decide +kernel
theorem d_Reader_opensBar_25 : decode b_Reader_opensBar 25 = .ok (.ireturn, 1) := by decide +kernel
def w_Reader_opensBar : List Cond := .code y_Reader_opensBar b_Reader_opensBar 2 (some .boolean) :: WALL
theorem g_Reader_opensBar : GoodIn WALL w_Reader_opensBar := good_of mc_Reader_opensBar
set_option maxHeartbeats 4000000 in
set_option maxRecDepth 100000 in
theorem c_Reader_opensBar (l : Launch) (D : va_G) (cA a : Nat → Nat) (sz : Nat) (x1 : Int32) (I : Nat → Int32) (A : Nat → Nat → Int32) (post : Int32 → (Nat → Int32) → (Nat → Nat → Int32) → Prop) (h : wp_Reader_opensBar x1 I A post) : Met l y_Reader_opensBar w_Reader_opensBar ({ frames := 2, cells := 0, slots := 0, locals := 41 }) (va_Pc [.ref (a 2), .int x1] (PreC D cA a I A sz)) (va_Qi (fun r (u : StW) => post r u.1 u.2) (EndC D cA a) (AC a sz)) 0 0 (AC a sz) := by
  refine Met.ofW (cc := b_Reader_opensBar) (maxL := 2) (ret := (some .boolean)) (by decide) rfl ?_
  intro p e s m args below meth c s₁ B hml hv
  obtain ⟨rfl, hsz, hP, hK, hD0⟩ := hv
  have hx := B.exec
  have hb := B.bytes
  have hr := B.returns
  have hts := atoms_spec (ws := w_Reader_opensBar) B.pre
  have hw := wall_of hts
  have hown : s.vm.findClass R_Reader = some m.cls := findClass_of_methodNamed B.named
  have hlocks := B.notSynchronized
  subst hsz
  have hD := hDC (sz := s.heap.size) hD0
  have hA : ∀ q : Nat, s.heap.size ≤ q → AC a s.heap.size q := fun q h => Or.inr h
  have hS : va_S (AC a s.heap.size) s.heap s.heap [] := va_S.rf
  have hl := lv_entry ([.ref (a 2), .int x1]) (n := 2) (Nat.le_of_ble_eq_true rfl)
  rw [lg_entry_eq]
  generalize (lg_sl ([.ref (a 2), .int x1]) ++ List.replicate (2 - (lg_sl ([.ref (a 2), .int x1])).length) Slot.unset).toArray = ls at hl ⊢
  have hl : lv_has ls 2 [(0, .ref (a 2)), (1, .int x1)] := hl
  unfold wp_Reader_opensBar at h
  refine lv_aload_n hx hb d_Reader_opensBar_0 rfl (lv_at hl 0 rfl) ?_
  refine gC_Reader_inBar hx hb hw hown hK hP (hw _ m_Reader_70) d_Reader_opensBar_1 ?_
  refine lv_if_ne (tgt := 24) hx hb d_Reader_opensBar_4 rfl (fun q => ?_) (fun q => ?_)
  · have h := h.2 q
    refine lv_iconst (v := 0) hx hb d_Reader_opensBar_24 ic_0 ?_
    exact W.zret hx hb hr (vz_n vz0) (fun t ht hW => ⟨⟨_, (I, A), rfl, h, endC_of ht hP⟩, hS.F ht⟩) hS.2.2 d_Reader_opensBar_25
  · have h := h.1 q
    refine lv_iload_n hx hb d_Reader_opensBar_7 rfl (lv_at hl 1 rfl) ?_
    refine lv_iconst (v := 4) hx hb d_Reader_opensBar_8 ic_4 ?_
    refine lv_icmp_eq (tgt := 20) hx hb d_Reader_opensBar_9 rfl (fun q => ?_) (fun q => ?_)
    · have h := h.1 q
      refine lv_iconst (v := 1) hx hb d_Reader_opensBar_20 ic_1 ?_
      refine lv_goto (tgt := 25) hx hb d_Reader_opensBar_21 rfl ?_
      exact W.zret hx hb hr (vz_n vz1) (fun t ht hW => ⟨⟨_, (I, A), rfl, h, endC_of ht hP⟩, hS.F ht⟩) hS.2.2 d_Reader_opensBar_25
    · have h := h.2 q
      refine lv_aload_n hx hb d_Reader_opensBar_12 rfl (lv_at hl 0 rfl) ?_
      refine lv_iload_n hx hb d_Reader_opensBar_13 rfl (lv_at hl 1 rfl) ?_
      refine k_Reader_opensItem x1 (rest := []) ⟨hx, hb, hml, hown, hw⟩ hK hD hA hS hP hl.1 (hw _ m_Reader_174) (Nat.le_of_ble_eq_true rfl) ⟨Nat.le_of_ble_eq_true rfl, Nat.le_of_ble_eq_true rfl⟩ ⟨Nat.zero_le _, Nat.zero_le _⟩ d_Reader_opensBar_14 h (fun r14 I14 A14 H locs h hP hS => ?_)
      refine lv_if_eq (tgt := 24) hx hb d_Reader_opensBar_17 rfl (fun q => ?_) (fun q => ?_)
      · have h := h.1 q
        refine lv_iconst (v := 0) hx hb d_Reader_opensBar_24 ic_0 ?_
        exact W.zret hx hb hr (vz_n vz0) (fun t ht hW => ⟨⟨_, (I14, A14), rfl, h, endC_of ht hP⟩, hS.F ht⟩) hS.2.2 d_Reader_opensBar_25
      · have h := h.2 q
        refine lv_iconst (v := 1) hx hb d_Reader_opensBar_20 ic_1 ?_
        refine lv_goto (tgt := 25) hx hb d_Reader_opensBar_21 rfl ?_
        exact W.zret hx hb hr (vz_n vz1) (fun t ht hW => ⟨⟨_, (I14, A14), rfl, h, endC_of ht hP⟩, hS.F ht⟩) hS.2.2 d_Reader_opensBar_25
theorem k_Reader_opensBar {p : Program} {l : Launch} {e : Env} {R : Room} {s : State} {m : MethodId} {args : Array Value} {below : List Frame} {meth : Method} {c : Code} {H : Heap} {locs : List Loc} {cells slots : Nat} {Q : State → Prop} {cc : ByteArray} {pc nL idx : Nat} {own : String} {ls : Array Slot} {D : va_G} {cA a : Nat → Nat} {AA : Nat → Prop} {I : Nat → Int32} {A : Nat → Nat → Int32} {post : Int32 → (Nat → Int32) → (Nat → Nat → Int32) → Prop} (x1 : Int32) {rest : List Value} (S : CallFix p m c cc nL s args WALL own) (hK : KC D cA a AA s) (hD : ∀ I A, va_D AA (wC cA a I A)) (hA : ∀ q : Nat, s.heap.size ≤ q → AA q) (hS : va_S AA s.heap H locs) (hP : va_P D cls (wC cA a I A) H) (hl1 : ls.size = nL) (hlink : (Cond.methodLink own idx y_Reader_opensBar).before args s = true) (hst : (rest.map fun v => v.category).sum ≤ 8) (hR : ({ frames := 2, cells := 0, slots := 0, locals := 41 } : Room).frames + 1 ≤ R.frames ∧ 8 + (2 + 11) + ({ frames := 2, cells := 0, slots := 0, locals := 41 } : Room).locals ≤ R.locals) (hcs : cells ≤ R.cells ∧ slots ≤ R.slots) (hdg : decode cc pc = .ok (.invokevirtual idx, 3)) (h : wp_Reader_opensBar x1 I A post) (kk : ∀ (r : Int32) (I1 : Nat → Int32) (A1 : Nat → Nat → Int32) (H1 : Heap) (locs1 : List Loc), post r I1 A1 → va_P D cls (wC cA a I1 A1) H1 → va_S AA s.heap H1 locs1 → W p l e R s m args below meth c H1 locs1 cells slots Q (F0 m (pc + 3) ls (.int r :: rest))) : W p l e R s m args below meth c H locs cells slots Q (F0 m pc ls (.int x1 :: .ref (a 2) :: rest)) :=
  va_calli (va_runV (As := [.int x1]) (rest := rest) S (c_Reader_opensBar l D cA a H.size x1 I A post h) ⟨callB_of 1 S.2.2.2.2 g_Reader_opensBar rfl rfl rfl (S.2.2.2.2 _ mi_Reader) hlink ⟨by decide, by decide, by decide +kernel⟩ hR, S.2.2.2.2 _ mn_Reader_opensBar, S.2.2.2.2 _ ms_Reader_opensBar⟩ (preCV hK hD hA hS hP 2 rfl rfl) rfl rfl hl1 rfl (lv_room hst) hdg hcs) hS (fun q _ z => AC_le hD hA hS q z) (fun q z => AC_le hD hA hS q z) (fun r u t H1 locs1 ht _ hp hB _ _ hS1 => kk r u.1 u.2 H1 locs1 hp (of_endC ht hB) hS1)
def wp_Reader_opensChordNote (x1 : Int32) (I : Nat → Int32) (A : Nat → Nat → Int32) (post : Int32 → (Nat → Int32) → (Nat → Nat → Int32) → Prop) : Prop := (((I 22) = 0 → post 0 I A) ∧ (¬ (I 22) = 0 → (wp_Reader_isNoteState x1 I A (fun r8 I8 A8 => ((r8 = 0 → post 0 I8 A8) ∧ (¬ r8 = 0 → (((I8 14) = 9 → post 0 I8 A8) ∧ (¬ (I8 14) = 9 → (((I8 14) = 10 → post 0 I8 A8) ∧ (¬ (I8 14) = 10 → post 1 I8 A8))))))))))
theorem d_Reader_opensChordNote_0 : decode b_Reader_opensChordNote 0 = .ok (.aload_n 0, 1) := by decide +kernel
theorem d_Reader_opensChordNote_1 : decode b_Reader_opensChordNote 1 = .ok (.getfield 77, 3) := by decide +kernel
theorem d_Reader_opensChordNote_4 : decode b_Reader_opensChordNote 4 = .ok (.ifCond .eq 32, 3) := by decide +kernel
theorem d_Reader_opensChordNote_7 : decode b_Reader_opensChordNote 7 = .ok (.iload_n 1, 1) := by decide +kernel
theorem d_Reader_opensChordNote_8 : decode b_Reader_opensChordNote 8 = .ok (.invokestatic 171, 3) := by decide +kernel
theorem d_Reader_opensChordNote_11 : decode b_Reader_opensChordNote 11 = .ok (.ifCond .eq 25, 3) := by decide +kernel
theorem d_Reader_opensChordNote_14 : decode b_Reader_opensChordNote 14 = .ok (.aload_n 0, 1) := by decide +kernel
theorem d_Reader_opensChordNote_15 : decode b_Reader_opensChordNote 15 = .ok (.getfield 55, 3) := by decide +kernel
theorem d_Reader_opensChordNote_18 : decode b_Reader_opensChordNote 18 = .ok (.bipush 9, 2) := by decide +kernel
theorem d_Reader_opensChordNote_20 : decode b_Reader_opensChordNote 20 = .ok (.if_icmp .eq 16, 3) := by decide +kernel
theorem d_Reader_opensChordNote_23 : decode b_Reader_opensChordNote 23 = .ok (.aload_n 0, 1) := by decide +kernel
theorem d_Reader_opensChordNote_24 : decode b_Reader_opensChordNote 24 = .ok (.getfield 55, 3) := by decide +kernel
theorem d_Reader_opensChordNote_27 : decode b_Reader_opensChordNote 27 = .ok (.bipush 10, 2) := by decide +kernel
theorem d_Reader_opensChordNote_29 : decode b_Reader_opensChordNote 29 = .ok (.if_icmp .eq 7, 3) := by decide +kernel
theorem d_Reader_opensChordNote_32 : decode b_Reader_opensChordNote 32 = .ok (.iconst 1, 1) := by decide +kernel
theorem d_Reader_opensChordNote_33 : decode b_Reader_opensChordNote 33 = .ok (.goto 4, 3) := by decide +kernel
theorem d_Reader_opensChordNote_36 : decode b_Reader_opensChordNote 36 = .ok (.iconst 0, 1) := by decide +kernel
theorem d_Reader_opensChordNote_37 : decode b_Reader_opensChordNote 37 = .ok (.ireturn, 1) := by decide +kernel
def w_Reader_opensChordNote : List Cond := .code y_Reader_opensChordNote b_Reader_opensChordNote 2 (some .boolean) :: WALL
theorem g_Reader_opensChordNote : GoodIn WALL w_Reader_opensChordNote := good_of mc_Reader_opensChordNote
set_option maxHeartbeats 4000000 in
set_option maxRecDepth 100000 in
theorem c_Reader_opensChordNote (l : Launch) (D : va_G) (cA a : Nat → Nat) (sz : Nat) (x1 : Int32) (I : Nat → Int32) (A : Nat → Nat → Int32) (post : Int32 → (Nat → Int32) → (Nat → Nat → Int32) → Prop) (h : wp_Reader_opensChordNote x1 I A post) : Met l y_Reader_opensChordNote w_Reader_opensChordNote ({ frames := 1, cells := 0, slots := 0, locals := 20 }) (va_Pc [.ref (a 2), .int x1] (PreC D cA a I A sz)) (va_Qi (fun r (u : StW) => post r u.1 u.2) (EndC D cA a) (AC a sz)) 0 0 (AC a sz) := by
  refine Met.ofW (cc := b_Reader_opensChordNote) (maxL := 2) (ret := (some .boolean)) (by decide) rfl ?_
  intro p e s m args below meth c s₁ B hml hv
  obtain ⟨rfl, hsz, hP, hK, hD0⟩ := hv
  have hx := B.exec
  have hb := B.bytes
  have hr := B.returns
  have hts := atoms_spec (ws := w_Reader_opensChordNote) B.pre
  have hw := wall_of hts
  have hown : s.vm.findClass R_Reader = some m.cls := findClass_of_methodNamed B.named
  have hlocks := B.notSynchronized
  subst hsz
  have hD := hDC (sz := s.heap.size) hD0
  have hA : ∀ q : Nat, s.heap.size ≤ q → AC a s.heap.size q := fun q h => Or.inr h
  have hS : va_S (AC a s.heap.size) s.heap s.heap [] := va_S.rf
  have hl := lv_entry ([.ref (a 2), .int x1]) (n := 2) (Nat.le_of_ble_eq_true rfl)
  rw [lg_entry_eq]
  generalize (lg_sl ([.ref (a 2), .int x1]) ++ List.replicate (2 - (lg_sl ([.ref (a 2), .int x1])).length) Slot.unset).toArray = ls at hl ⊢
  have hl : lv_has ls 2 [(0, .ref (a 2)), (1, .int x1)] := hl
  unfold wp_Reader_opensChordNote at h
  refine lv_aload_n hx hb d_Reader_opensChordNote_0 rfl (lv_at hl 0 rfl) ?_
  refine gC_Reader_inChord hx hb hw hown hK hP (hw _ m_Reader_77) d_Reader_opensChordNote_1 ?_
  refine lv_if_eq (tgt := 36) hx hb d_Reader_opensChordNote_4 rfl (fun q => ?_) (fun q => ?_)
  · have h := h.1 q
    refine lv_iconst (v := 0) hx hb d_Reader_opensChordNote_36 ic_0 ?_
    exact W.zret hx hb hr (vz_n vz0) (fun t ht hW => ⟨⟨_, (I, A), rfl, h, endC_of ht hP⟩, hS.F ht⟩) hS.2.2 d_Reader_opensChordNote_37
  · have h := h.2 q
    refine lv_iload_n hx hb d_Reader_opensChordNote_7 rfl (lv_at hl 1 rfl) ?_
    refine k_Reader_isNoteState x1 (rest := []) ⟨hx, hb, hml, hown, hw⟩ hK hD hA hS hP hl.1 (hw _ m_Reader_171) (Nat.le_of_ble_eq_true rfl) ⟨Nat.le_of_ble_eq_true rfl, Nat.le_of_ble_eq_true rfl⟩ ⟨Nat.zero_le _, Nat.zero_le _⟩ d_Reader_opensChordNote_8 h (fun r8 I8 A8 H locs h hP hS => ?_)
    refine lv_if_eq (tgt := 36) hx hb d_Reader_opensChordNote_11 rfl (fun q => ?_) (fun q => ?_)
    · have h := h.1 q
      refine lv_iconst (v := 0) hx hb d_Reader_opensChordNote_36 ic_0 ?_
      exact W.zret hx hb hr (vz_n vz0) (fun t ht hW => ⟨⟨_, (I8, A8), rfl, h, endC_of ht hP⟩, hS.F ht⟩) hS.2.2 d_Reader_opensChordNote_37
    · have h := h.2 q
      refine lv_aload_n hx hb d_Reader_opensChordNote_14 rfl (lv_at hl 0 rfl) ?_
      refine gC_Reader_state hx hb hw hown hK hP (hw _ m_Reader_55) d_Reader_opensChordNote_15 ?_
      refine lv_bipush (v := 9) hx hb d_Reader_opensChordNote_18 bp_9 ?_
      refine lv_icmp_eq (tgt := 36) hx hb d_Reader_opensChordNote_20 rfl (fun q => ?_) (fun q => ?_)
      · have h := h.1 q
        refine lv_iconst (v := 0) hx hb d_Reader_opensChordNote_36 ic_0 ?_
        exact W.zret hx hb hr (vz_n vz0) (fun t ht hW => ⟨⟨_, (I8, A8), rfl, h, endC_of ht hP⟩, hS.F ht⟩) hS.2.2 d_Reader_opensChordNote_37
      · have h := h.2 q
        refine lv_aload_n hx hb d_Reader_opensChordNote_23 rfl (lv_at hl 0 rfl) ?_
        refine gC_Reader_state hx hb hw hown hK hP (hw _ m_Reader_55) d_Reader_opensChordNote_24 ?_
        refine lv_bipush (v := 10) hx hb d_Reader_opensChordNote_27 bp_10 ?_
        refine lv_icmp_eq (tgt := 36) hx hb d_Reader_opensChordNote_29 rfl (fun q => ?_) (fun q => ?_)
        · have h := h.1 q
          refine lv_iconst (v := 0) hx hb d_Reader_opensChordNote_36 ic_0 ?_
          exact W.zret hx hb hr (vz_n vz0) (fun t ht hW => ⟨⟨_, (I8, A8), rfl, h, endC_of ht hP⟩, hS.F ht⟩) hS.2.2 d_Reader_opensChordNote_37
        · have h := h.2 q
          refine lv_iconst (v := 1) hx hb d_Reader_opensChordNote_32 ic_1 ?_
          refine lv_goto (tgt := 37) hx hb d_Reader_opensChordNote_33 rfl ?_
          exact W.zret hx hb hr (vz_n vz1) (fun t ht hW => ⟨⟨_, (I8, A8), rfl, h, endC_of ht hP⟩, hS.F ht⟩) hS.2.2 d_Reader_opensChordNote_37
theorem k_Reader_opensChordNote {p : Program} {l : Launch} {e : Env} {R : Room} {s : State} {m : MethodId} {args : Array Value} {below : List Frame} {meth : Method} {c : Code} {H : Heap} {locs : List Loc} {cells slots : Nat} {Q : State → Prop} {cc : ByteArray} {pc nL idx : Nat} {own : String} {ls : Array Slot} {D : va_G} {cA a : Nat → Nat} {AA : Nat → Prop} {I : Nat → Int32} {A : Nat → Nat → Int32} {post : Int32 → (Nat → Int32) → (Nat → Nat → Int32) → Prop} (x1 : Int32) {rest : List Value} (S : CallFix p m c cc nL s args WALL own) (hK : KC D cA a AA s) (hD : ∀ I A, va_D AA (wC cA a I A)) (hA : ∀ q : Nat, s.heap.size ≤ q → AA q) (hS : va_S AA s.heap H locs) (hP : va_P D cls (wC cA a I A) H) (hl1 : ls.size = nL) (hlink : (Cond.methodLink own idx y_Reader_opensChordNote).before args s = true) (hst : (rest.map fun v => v.category).sum ≤ 8) (hR : ({ frames := 1, cells := 0, slots := 0, locals := 20 } : Room).frames + 1 ≤ R.frames ∧ 8 + (2 + 11) + ({ frames := 1, cells := 0, slots := 0, locals := 20 } : Room).locals ≤ R.locals) (hcs : cells ≤ R.cells ∧ slots ≤ R.slots) (hdg : decode cc pc = .ok (.invokevirtual idx, 3)) (h : wp_Reader_opensChordNote x1 I A post) (kk : ∀ (r : Int32) (I1 : Nat → Int32) (A1 : Nat → Nat → Int32) (H1 : Heap) (locs1 : List Loc), post r I1 A1 → va_P D cls (wC cA a I1 A1) H1 → va_S AA s.heap H1 locs1 → W p l e R s m args below meth c H1 locs1 cells slots Q (F0 m (pc + 3) ls (.int r :: rest))) : W p l e R s m args below meth c H locs cells slots Q (F0 m pc ls (.int x1 :: .ref (a 2) :: rest)) :=
  va_calli (va_runV (As := [.int x1]) (rest := rest) S (c_Reader_opensChordNote l D cA a H.size x1 I A post h) ⟨callB_of 1 S.2.2.2.2 g_Reader_opensChordNote rfl rfl rfl (S.2.2.2.2 _ mi_Reader) hlink ⟨by decide, by decide, by decide +kernel⟩ hR, S.2.2.2.2 _ mn_Reader_opensChordNote, S.2.2.2.2 _ ms_Reader_opensChordNote⟩ (preCV hK hD hA hS hP 2 rfl rfl) rfl rfl hl1 rfl (lv_room hst) hdg hcs) hS (fun q _ z => AC_le hD hA hS q z) (fun q z => AC_le hD hA hS q z) (fun r u t H1 locs1 ht _ hp hB _ _ hS1 => kk r u.1 u.2 H1 locs1 hp (of_endC ht hB) hS1)

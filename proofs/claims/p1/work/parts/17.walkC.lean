def wp_TuneSetter_notes (I : Nat → Int32) (A : Nat → Nat → Int32) (post : Int32 → (Nat → Int32) → (Nat → Nat → Int32) → Prop) : Prop := (((I 34) = 0 → post 0 I A) ∧ (¬ (I 34) = 0 → post (I 23) I A))
theorem d_TuneSetter_notes_0 : decode b_TuneSetter_notes 0 = .ok (.aload_n 0, 1) := by decide +kernel
theorem d_TuneSetter_notes_1 : decode b_TuneSetter_notes 1 = .ok (.getfield 87, 3) := by decide +kernel
theorem d_TuneSetter_notes_4 : decode b_TuneSetter_notes 4 = .ok (.ifCond .eq 13, 3) := by decide +kernel
theorem d_TuneSetter_notes_7 : decode b_TuneSetter_notes 7 = .ok (.aload_n 0, 1) := by decide +kernel
theorem d_TuneSetter_notes_8 : decode b_TuneSetter_notes 8 = .ok (.getfield 23, 3) := by decide +kernel
theorem d_TuneSetter_notes_11 : decode b_TuneSetter_notes 11 = .ok (.getfield 90, 3) := by decide +kernel
theorem d_TuneSetter_notes_14 : decode b_TuneSetter_notes 14 = .ok (.goto 4, 3) := by decide +kernel
theorem d_TuneSetter_notes_17 : decode b_TuneSetter_notes 17 = .ok (.iconst 0, 1) := by decide +kernel
theorem d_TuneSetter_notes_18 : decode b_TuneSetter_notes 18 = .ok (.ireturn, 1) := by decide +kernel
def w_TuneSetter_notes : List Cond := .code y_TuneSetter_notes b_TuneSetter_notes 1 (some .int) :: WALL
theorem g_TuneSetter_notes : GoodIn WALL w_TuneSetter_notes := good_of mc_TuneSetter_notes
set_option maxHeartbeats 4000000 in
set_option maxRecDepth 100000 in
theorem c_TuneSetter_notes (l : Launch) (D : va_G) (cA a : Nat → Nat) (sz : Nat) (I : Nat → Int32) (A : Nat → Nat → Int32) (post : Int32 → (Nat → Int32) → (Nat → Nat → Int32) → Prop) (h : wp_TuneSetter_notes I A post) : Met l y_TuneSetter_notes w_TuneSetter_notes ({ frames := 0, cells := 0, slots := 0, locals := 0 }) (va_Pc [.ref (a 0)] (PreC D cA a I A sz)) (va_Qi (fun r (u : StW) => post r u.1 u.2) (EndC D cA a) (AC a sz)) 0 0 (AC a sz) := by
  refine Met.ofW (cc := b_TuneSetter_notes) (maxL := 1) (ret := (some .int)) (by decide) rfl ?_
  intro p e s m args below meth c s₁ B hml hv
  obtain ⟨rfl, hsz, hP, hK, hD0⟩ := hv
  have hx := B.exec
  have hb := B.bytes
  have hr := B.returns
  have hts := atoms_spec (ws := w_TuneSetter_notes) B.pre
  have hw := wall_of hts
  have hown : s.vm.findClass R_TuneSetter = some m.cls := findClass_of_methodNamed B.named
  have hlocks := B.notSynchronized
  subst hsz
  have hD := hDC (sz := s.heap.size) hD0
  have hA : ∀ q : Nat, s.heap.size ≤ q → AC a s.heap.size q := fun q h => Or.inr h
  have hS : va_S (AC a s.heap.size) s.heap s.heap [] := va_S.rf
  have hl := lv_entry ([.ref (a 0)]) (n := 1) (Nat.le_of_ble_eq_true rfl)
  rw [lg_entry_eq]
  generalize (lg_sl ([.ref (a 0)]) ++ List.replicate (1 - (lg_sl ([.ref (a 0)])).length) Slot.unset).toArray = ls at hl ⊢
  have hl : lv_has ls 1 [(0, .ref (a 0))] := hl
  unfold wp_TuneSetter_notes at h
  refine lv_aload_n hx hb d_TuneSetter_notes_0 rfl (lv_at hl 0 rfl) ?_
  refine gC_TuneSetter_hasTune hx hb hw hown hK hP (hw _ m_TuneSetter_87) d_TuneSetter_notes_1 ?_
  refine lv_if_eq (tgt := 17) hx hb d_TuneSetter_notes_4 rfl (fun q => ?_) (fun q => ?_)
  · have h := h.1 q
    refine lv_iconst (v := 0) hx hb d_TuneSetter_notes_17 ic_0 ?_
    exact W.iret hx hb hr (fun t ht hW => ⟨⟨_, (I, A), rfl, h, endC_of ht hP⟩, hS.F ht⟩) hS.2.2 d_TuneSetter_notes_18
  · have h := h.2 q
    refine lv_aload_n hx hb d_TuneSetter_notes_7 rfl (lv_at hl 0 rfl) ?_
    refine gC_TuneSetter_playing hx hb hw hown hK hP (hw _ m_TuneSetter_23) d_TuneSetter_notes_8 ?_
    refine gC_Playing_count hx hb hw hown hK hP (hw _ m_TuneSetter_90) d_TuneSetter_notes_11 ?_
    refine lv_goto (tgt := 18) hx hb d_TuneSetter_notes_14 rfl ?_
    exact W.iret hx hb hr (fun t ht hW => ⟨⟨_, (I, A), rfl, h, endC_of ht hP⟩, hS.F ht⟩) hS.2.2 d_TuneSetter_notes_18
theorem k_TuneSetter_notes {p : Program} {l : Launch} {e : Env} {R : Room} {s : State} {m : MethodId} {args : Array Value} {below : List Frame} {meth : Method} {c : Code} {H : Heap} {locs : List Loc} {cells slots : Nat} {Q : State → Prop} {cc : ByteArray} {pc nL idx : Nat} {own : String} {ls : Array Slot} {D : va_G} {cA a : Nat → Nat} {AA : Nat → Prop} {I : Nat → Int32} {A : Nat → Nat → Int32} {post : Int32 → (Nat → Int32) → (Nat → Nat → Int32) → Prop} {rest : List Value} (S : CallFix p m c cc nL s args WALL own) (hK : KC D cA a AA s) (hD : ∀ I A, va_D AA (wC cA a I A)) (hA : ∀ q : Nat, s.heap.size ≤ q → AA q) (hS : va_S AA s.heap H locs) (hP : va_P D cls (wC cA a I A) H) (hl1 : ls.size = nL) (hlink : (Cond.methodLink own idx y_TuneSetter_notes).before args s = true) (hst : (rest.map fun v => v.category).sum ≤ 8) (hR : ({ frames := 0, cells := 0, slots := 0, locals := 0 } : Room).frames + 1 ≤ R.frames ∧ 8 + (1 + 11) + ({ frames := 0, cells := 0, slots := 0, locals := 0 } : Room).locals ≤ R.locals) (hcs : cells ≤ R.cells ∧ slots ≤ R.slots) (hdg : decode cc pc = .ok (.invokevirtual idx, 3)) (h : wp_TuneSetter_notes I A post) (kk : ∀ (r : Int32) (I1 : Nat → Int32) (A1 : Nat → Nat → Int32) (H1 : Heap) (locs1 : List Loc), post r I1 A1 → va_P D cls (wC cA a I1 A1) H1 → va_S AA s.heap H1 locs1 → W p l e R s m args below meth c H1 locs1 cells slots Q (F0 m (pc + 3) ls (.int r :: rest))) : W p l e R s m args below meth c H locs cells slots Q (F0 m pc ls (.ref (a 0) :: rest)) :=
  va_calli (va_runV (As := []) (rest := rest) S (c_TuneSetter_notes l D cA a H.size I A post h) ⟨callB_of 0 S.2.2.2.2 g_TuneSetter_notes rfl rfl rfl (S.2.2.2.2 _ mi_TuneSetter) hlink ⟨by decide, by decide, by decide +kernel⟩ hR, S.2.2.2.2 _ mn_TuneSetter_notes, S.2.2.2.2 _ ms_TuneSetter_notes⟩ (preCV hK hD hA hS hP 0 rfl rfl) rfl rfl hl1 rfl (lv_room hst) hdg hcs) hS (fun q _ z => AC_le hD hA hS q z) (fun q z => AC_le hD hA hS q z) (fun r u t H1 locs1 ht _ hp hB _ _ hS1 => kk r u.1 u.2 H1 locs1 hp (of_endC ht hB) hS1)
def wp_TuneSetter_note (x1 : Int32) (x2 : Int32) (I : Nat → Int32) (A : Nat → Nat → Int32) (post : Int32 → (Nat → Int32) → (Nat → Nat → Int32) → Prop) : Prop := ((x1 < 0 → post (-1) I A) ∧ (¬ x1 < 0 → (wp_TuneSetter_notes I A (fun r6 I6 A6 => ((x1 < r6 → ((x2 = 0 → (vp_in x1 64 ∧ post (A6 17 (x1.toNatClampNeg)) I6 A6)) ∧ (x2 = 1 → (vp_in x1 64 ∧ post (A6 18 (x1.toNatClampNeg)) I6 A6)) ∧ (x2 = 2 → (vp_in x1 64 ∧ post (A6 19 (x1.toNatClampNeg)) I6 A6)) ∧ (¬ x2 = 0 → ¬ x2 = 1 → ¬ x2 = 2 → post (-1) I6 A6))) ∧ (¬ x1 < r6 → post (-1) I6 A6))))))
theorem d_TuneSetter_note_0 : decode b_TuneSetter_note 0 = .ok (.iload_n 1, 1) := by decide +kernel
theorem d_TuneSetter_note_1 : decode b_TuneSetter_note 1 = .ok (.ifCond .lt 11, 3) := by decide +kernel
theorem d_TuneSetter_note_4 : decode b_TuneSetter_note 4 = .ok (.iload_n 1, 1) := by decide +kernel
theorem d_TuneSetter_note_5 : decode b_TuneSetter_note 5 = .ok (.aload_n 0, 1) := by decide +kernel
theorem d_TuneSetter_note_6 : decode b_TuneSetter_note 6 = .ok (.invokevirtual 98, 3) := by decide +kernel
theorem d_TuneSetter_note_9 : decode b_TuneSetter_note 9 = .ok (.if_icmp .lt 5, 3) := by decide +kernel
theorem d_TuneSetter_note_12 : decode b_TuneSetter_note 12 = .ok (.iconst (-1), 1) := by decide +kernel
theorem d_TuneSetter_note_13 : decode b_TuneSetter_note 13 = .ok (.ireturn, 1) := by decide +kernel
theorem d_TuneSetter_note_14 : decode b_TuneSetter_note 14 = .ok (.iload_n 2, 1) := by decide +kernel
theorem d_TuneSetter_note_15 : decode b_TuneSetter_note 15 = .ok (.tableswitch 55 0 2 #[25, 35, 45], 25) := by decide +kernel
theorem d_TuneSetter_note_40 : decode b_TuneSetter_note 40 = .ok (.aload_n 0, 1) := by decide +kernel
theorem d_TuneSetter_note_41 : decode b_TuneSetter_note 41 = .ok (.getfield 23, 3) := by decide +kernel
theorem d_TuneSetter_note_44 : decode b_TuneSetter_note 44 = .ok (.getfield 102, 3) := by decide +kernel
theorem d_TuneSetter_note_47 : decode b_TuneSetter_note 47 = .ok (.iload_n 1, 1) := by decide +kernel
theorem d_TuneSetter_note_48 : decode b_TuneSetter_note 48 = .ok (.iaload, 1) := by decide +kernel
theorem d_TuneSetter_note_49 : decode b_TuneSetter_note 49 = .ok (.ireturn, 1) := by decide +kernel
theorem d_TuneSetter_note_50 : decode b_TuneSetter_note 50 = .ok (.aload_n 0, 1) := by decide +kernel
theorem d_TuneSetter_note_51 : decode b_TuneSetter_note 51 = .ok (.getfield 23, 3) := by decide +kernel
theorem d_TuneSetter_note_54 : decode b_TuneSetter_note 54 = .ok (.getfield 106, 3) := by decide +kernel
theorem d_TuneSetter_note_57 : decode b_TuneSetter_note 57 = .ok (.iload_n 1, 1) := by decide +kernel
theorem d_TuneSetter_note_58 : decode b_TuneSetter_note 58 = .ok (.iaload, 1) := by decide +kernel
theorem d_TuneSetter_note_59 : decode b_TuneSetter_note 59 = .ok (.ireturn, 1) := by decide +kernel
theorem d_TuneSetter_note_60 : decode b_TuneSetter_note 60 = .ok (.aload_n 0, 1) := by decide +kernel
theorem d_TuneSetter_note_61 : decode b_TuneSetter_note 61 = .ok (.getfield 23, 3) := by decide +kernel
theorem d_TuneSetter_note_64 : decode b_TuneSetter_note 64 = .ok (.getfield 109, 3) := by decide +kernel
theorem d_TuneSetter_note_67 : decode b_TuneSetter_note 67 = .ok (.iload_n 1, 1) := by decide +kernel
theorem d_TuneSetter_note_68 : decode b_TuneSetter_note 68 = .ok (.iaload, 1) := by decide +kernel
theorem d_TuneSetter_note_69 : decode b_TuneSetter_note 69 = .ok (.ireturn, 1) := by decide +kernel
theorem d_TuneSetter_note_70 : decode b_TuneSetter_note 70 = .ok (.iconst (-1), 1) := by decide +kernel
theorem d_TuneSetter_note_71 : decode b_TuneSetter_note 71 = .ok (.ireturn, 1) := by decide +kernel
def w_TuneSetter_note : List Cond := .code y_TuneSetter_note b_TuneSetter_note 3 (some .int) :: WALL
theorem g_TuneSetter_note : GoodIn WALL w_TuneSetter_note := good_of mc_TuneSetter_note
set_option maxHeartbeats 4000000 in
set_option maxRecDepth 100000 in
theorem c_TuneSetter_note (l : Launch) (D : va_G) (cA a : Nat → Nat) (sz : Nat) (x1 : Int32) (x2 : Int32) (I : Nat → Int32) (A : Nat → Nat → Int32) (post : Int32 → (Nat → Int32) → (Nat → Nat → Int32) → Prop) (h : wp_TuneSetter_note x1 x2 I A post) : Met l y_TuneSetter_note w_TuneSetter_note ({ frames := 1, cells := 0, slots := 0, locals := 20 }) (va_Pc [.ref (a 0), .int x1, .int x2] (PreC D cA a I A sz)) (va_Qi (fun r (u : StW) => post r u.1 u.2) (EndC D cA a) (AC a sz)) 0 0 (AC a sz) := by
  refine Met.ofW (cc := b_TuneSetter_note) (maxL := 3) (ret := (some .int)) (by decide) rfl ?_
  intro p e s m args below meth c s₁ B hml hv
  obtain ⟨rfl, hsz, hP, hK, hD0⟩ := hv
  have hx := B.exec
  have hb := B.bytes
  have hr := B.returns
  have hts := atoms_spec (ws := w_TuneSetter_note) B.pre
  have hw := wall_of hts
  have hown : s.vm.findClass R_TuneSetter = some m.cls := findClass_of_methodNamed B.named
  have hlocks := B.notSynchronized
  subst hsz
  have hD := hDC (sz := s.heap.size) hD0
  have hA : ∀ q : Nat, s.heap.size ≤ q → AC a s.heap.size q := fun q h => Or.inr h
  have hS : va_S (AC a s.heap.size) s.heap s.heap [] := va_S.rf
  have hl := lv_entry ([.ref (a 0), .int x1, .int x2]) (n := 3) (Nat.le_of_ble_eq_true rfl)
  rw [lg_entry_eq]
  generalize (lg_sl ([.ref (a 0), .int x1, .int x2]) ++ List.replicate (3 - (lg_sl ([.ref (a 0), .int x1, .int x2])).length) Slot.unset).toArray = ls at hl ⊢
  have hl : lv_has ls 3 [(0, .ref (a 0)), (1, .int x1), (2, .int x2)] := hl
  unfold wp_TuneSetter_note at h
  refine lv_iload_n hx hb d_TuneSetter_note_0 rfl (lv_at hl 1 rfl) ?_
  refine lv_if_lt (tgt := 12) hx hb d_TuneSetter_note_1 rfl (fun q => ?_) (fun q => ?_)
  · have h := h.1 q
    refine lv_iconst (v := (-1)) hx hb d_TuneSetter_note_12 ic_m1 ?_
    exact W.iret hx hb hr (fun t ht hW => ⟨⟨_, (I, A), rfl, h, endC_of ht hP⟩, hS.F ht⟩) hS.2.2 d_TuneSetter_note_13
  · have h := h.2 q
    refine lv_iload_n hx hb d_TuneSetter_note_4 rfl (lv_at hl 1 rfl) ?_
    refine lv_aload_n hx hb d_TuneSetter_note_5 rfl (lv_at hl 0 rfl) ?_
    refine k_TuneSetter_notes (rest := [.int x1]) ⟨hx, hb, hml, hown, hw⟩ hK hD hA hS hP hl.1 (hw _ m_TuneSetter_98) (Nat.le_of_ble_eq_true rfl) ⟨Nat.le_of_ble_eq_true rfl, Nat.le_of_ble_eq_true rfl⟩ ⟨Nat.zero_le _, Nat.zero_le _⟩ d_TuneSetter_note_6 h (fun r6 I6 A6 H locs h hP hS => ?_)
    refine lv_icmp_lt (tgt := 14) hx hb d_TuneSetter_note_9 rfl (fun q => ?_) (fun q => ?_)
    · have h := h.1 q
      refine lv_iload_n hx hb d_TuneSetter_note_14 rfl (lv_at hl 2 rfl) ?_
      by_cases q0 : x2 = 0
      · have h := h.1 q0
        refine lv_tableIn (off := 25) (tgt := 40) hx hb d_TuneSetter_note_15 (by rw [q0]; decide) (by rw [q0]; decide) (by rw [q0]; rfl) rfl ?_
        refine lv_aload_n hx hb d_TuneSetter_note_40 rfl (lv_at hl 0 rfl) ?_
        refine gC_TuneSetter_playing hx hb hw hown hK hP (hw _ m_TuneSetter_23) d_TuneSetter_note_41 ?_
        refine gC_Playing_onset hx hb hw hown hK hP (hw _ m_TuneSetter_102) d_TuneSetter_note_44 ?_
        refine lv_iload_n hx hb d_TuneSetter_note_47 rfl (lv_at hl 1 rfl) ?_
        obtain ⟨hin, h⟩ := h
        refine lC17 hx hb hK hP hin d_TuneSetter_note_48 ?_
        exact W.iret hx hb hr (fun t ht hW => ⟨⟨_, (I6, A6), rfl, h, endC_of ht hP⟩, hS.F ht⟩) hS.2.2 d_TuneSetter_note_49
      by_cases q1 : x2 = 1
      · have h := h.2.1 q1
        refine lv_tableIn (off := 35) (tgt := 50) hx hb d_TuneSetter_note_15 (by rw [q1]; decide) (by rw [q1]; decide) (by rw [q1]; rfl) rfl ?_
        refine lv_aload_n hx hb d_TuneSetter_note_50 rfl (lv_at hl 0 rfl) ?_
        refine gC_TuneSetter_playing hx hb hw hown hK hP (hw _ m_TuneSetter_23) d_TuneSetter_note_51 ?_
        refine gC_Playing_duration hx hb hw hown hK hP (hw _ m_TuneSetter_106) d_TuneSetter_note_54 ?_
        refine lv_iload_n hx hb d_TuneSetter_note_57 rfl (lv_at hl 1 rfl) ?_
        obtain ⟨hin, h⟩ := h
        refine lC18 hx hb hK hP hin d_TuneSetter_note_58 ?_
        exact W.iret hx hb hr (fun t ht hW => ⟨⟨_, (I6, A6), rfl, h, endC_of ht hP⟩, hS.F ht⟩) hS.2.2 d_TuneSetter_note_59
      by_cases q2 : x2 = 2
      · have h := h.2.2.1 q2
        refine lv_tableIn (off := 45) (tgt := 60) hx hb d_TuneSetter_note_15 (by rw [q2]; decide) (by rw [q2]; decide) (by rw [q2]; rfl) rfl ?_
        refine lv_aload_n hx hb d_TuneSetter_note_60 rfl (lv_at hl 0 rfl) ?_
        refine gC_TuneSetter_playing hx hb hw hown hK hP (hw _ m_TuneSetter_23) d_TuneSetter_note_61 ?_
        refine gC_Playing_pitch hx hb hw hown hK hP (hw _ m_TuneSetter_109) d_TuneSetter_note_64 ?_
        refine lv_iload_n hx hb d_TuneSetter_note_67 rfl (lv_at hl 1 rfl) ?_
        obtain ⟨hin, h⟩ := h
        refine lC19 hx hb hK hP hin d_TuneSetter_note_68 ?_
        exact W.iret hx hb hr (fun t ht hW => ⟨⟨_, (I6, A6), rfl, h, endC_of ht hP⟩, hS.F ht⟩) hS.2.2 d_TuneSetter_note_69
      · have h := h.2.2.2 q0 q1 q2
        have z0 := lv_neT (a := 0) q0 (by decide)
        have z1 := lv_neT (a := 1) q1 (by decide)
        have z2 := lv_neT (a := 2) q2 (by decide)
        refine lv_tableOut (tgt := 70) hx hb d_TuneSetter_note_15 (by omega) rfl ?_
        refine lv_iconst (v := (-1)) hx hb d_TuneSetter_note_70 ic_m1 ?_
        exact W.iret hx hb hr (fun t ht hW => ⟨⟨_, (I6, A6), rfl, h, endC_of ht hP⟩, hS.F ht⟩) hS.2.2 d_TuneSetter_note_71
    · have h := h.2 q
      refine lv_iconst (v := (-1)) hx hb d_TuneSetter_note_12 ic_m1 ?_
      exact W.iret hx hb hr (fun t ht hW => ⟨⟨_, (I6, A6), rfl, h, endC_of ht hP⟩, hS.F ht⟩) hS.2.2 d_TuneSetter_note_13
theorem k_TuneSetter_note {p : Program} {l : Launch} {e : Env} {R : Room} {s : State} {m : MethodId} {args : Array Value} {below : List Frame} {meth : Method} {c : Code} {H : Heap} {locs : List Loc} {cells slots : Nat} {Q : State → Prop} {cc : ByteArray} {pc nL idx : Nat} {own : String} {ls : Array Slot} {D : va_G} {cA a : Nat → Nat} {AA : Nat → Prop} {I : Nat → Int32} {A : Nat → Nat → Int32} {post : Int32 → (Nat → Int32) → (Nat → Nat → Int32) → Prop} (x1 : Int32) (x2 : Int32) {rest : List Value} (S : CallFix p m c cc nL s args WALL own) (hK : KC D cA a AA s) (hD : ∀ I A, va_D AA (wC cA a I A)) (hA : ∀ q : Nat, s.heap.size ≤ q → AA q) (hS : va_S AA s.heap H locs) (hP : va_P D cls (wC cA a I A) H) (hl1 : ls.size = nL) (hlink : (Cond.methodLink own idx y_TuneSetter_note).before args s = true) (hst : (rest.map fun v => v.category).sum ≤ 8) (hR : ({ frames := 1, cells := 0, slots := 0, locals := 20 } : Room).frames + 1 ≤ R.frames ∧ 8 + (3 + 11) + ({ frames := 1, cells := 0, slots := 0, locals := 20 } : Room).locals ≤ R.locals) (hcs : cells ≤ R.cells ∧ slots ≤ R.slots) (hdg : decode cc pc = .ok (.invokevirtual idx, 3)) (h : wp_TuneSetter_note x1 x2 I A post) (kk : ∀ (r : Int32) (I1 : Nat → Int32) (A1 : Nat → Nat → Int32) (H1 : Heap) (locs1 : List Loc), post r I1 A1 → va_P D cls (wC cA a I1 A1) H1 → va_S AA s.heap H1 locs1 → W p l e R s m args below meth c H1 locs1 cells slots Q (F0 m (pc + 3) ls (.int r :: rest))) : W p l e R s m args below meth c H locs cells slots Q (F0 m pc ls (.int x2 :: .int x1 :: .ref (a 0) :: rest)) :=
  va_calli (va_runV (As := [.int x1, .int x2]) (rest := rest) S (c_TuneSetter_note l D cA a H.size x1 x2 I A post h) ⟨callB_of 2 S.2.2.2.2 g_TuneSetter_note rfl rfl rfl (S.2.2.2.2 _ mi_TuneSetter) hlink ⟨by decide, by decide, by decide +kernel⟩ hR, S.2.2.2.2 _ mn_TuneSetter_note, S.2.2.2.2 _ ms_TuneSetter_note⟩ (preCV hK hD hA hS hP 0 rfl rfl) rfl rfl hl1 rfl (lv_room hst) hdg hcs) hS (fun q _ z => AC_le hD hA hS q z) (fun q z => AC_le hD hA hS q z) (fun r u t H1 locs1 ht _ hp hB _ _ hS1 => kk r u.1 u.2 H1 locs1 hp (of_endC ht hB) hS1)
def wp_TuneSetter_width (x1 : Int32) (I : Nat → Int32) (A : Nat → Nat → Int32) (post : Int32 → (Nat → Int32) → (Nat → Nat → Int32) → Prop) : Prop := ((x1 < 0 → post (-1) I A) ∧ (¬ x1 < 0 → (wp_TuneSetter_bars I A (fun r6 I6 A6 => ((x1 < r6 → (vp_in x1 8 ∧ post (A6 7 (x1.toNatClampNeg)) I6 A6)) ∧ (¬ x1 < r6 → post (-1) I6 A6))))))
theorem d_TuneSetter_width_0 : decode b_TuneSetter_width 0 = .ok (.iload_n 1, 1) := by decide +kernel
theorem d_TuneSetter_width_1 : decode b_TuneSetter_width 1 = .ok (.ifCond .lt 11, 3) := by decide +kernel
theorem d_TuneSetter_width_4 : decode b_TuneSetter_width 4 = .ok (.iload_n 1, 1) := by decide +kernel
theorem d_TuneSetter_width_5 : decode b_TuneSetter_width 5 = .ok (.aload_n 0, 1) := by decide +kernel
theorem d_TuneSetter_width_6 : decode b_TuneSetter_width 6 = .ok (.invokevirtual 112, 3) := by decide +kernel
theorem d_TuneSetter_width_9 : decode b_TuneSetter_width 9 = .ok (.if_icmp .lt 7, 3) := by decide +kernel
theorem d_TuneSetter_width_12 : decode b_TuneSetter_width 12 = .ok (.iconst (-1), 1) := by decide +kernel
theorem d_TuneSetter_width_13 : decode b_TuneSetter_width 13 = .ok (.goto 15, 3) := by decide +kernel
theorem d_TuneSetter_width_16 : decode b_TuneSetter_width 16 = .ok (.aload_n 0, 1) := by decide +kernel
theorem d_TuneSetter_width_17 : decode b_TuneSetter_width 17 = .ok (.getfield 16, 3) := by decide +kernel
theorem d_TuneSetter_width_20 : decode b_TuneSetter_width 20 = .ok (.getfield 75, 3) := by decide +kernel
theorem d_TuneSetter_width_23 : decode b_TuneSetter_width 23 = .ok (.getfield 115, 3) := by decide +kernel
theorem d_TuneSetter_width_26 : decode b_TuneSetter_width 26 = .ok (.iload_n 1, 1) := by decide +kernel
theorem d_TuneSetter_width_27 : decode b_TuneSetter_width 27 = .ok (.iaload, 1) := by decide +kernel
theorem d_TuneSetter_width_28 : decode b_TuneSetter_width 28 = .ok (.ireturn, 1) := by decide +kernel
def w_TuneSetter_width : List Cond := .code y_TuneSetter_width b_TuneSetter_width 2 (some .int) :: WALL
theorem g_TuneSetter_width : GoodIn WALL w_TuneSetter_width := good_of mc_TuneSetter_width
set_option maxHeartbeats 4000000 in
set_option maxRecDepth 100000 in
theorem c_TuneSetter_width (l : Launch) (D : va_G) (cA a : Nat → Nat) (sz : Nat) (x1 : Int32) (I : Nat → Int32) (A : Nat → Nat → Int32) (post : Int32 → (Nat → Int32) → (Nat → Nat → Int32) → Prop) (h : wp_TuneSetter_width x1 I A post) : Met l y_TuneSetter_width w_TuneSetter_width ({ frames := 1, cells := 0, slots := 0, locals := 20 }) (va_Pc [.ref (a 0), .int x1] (PreC D cA a I A sz)) (va_Qi (fun r (u : StW) => post r u.1 u.2) (EndC D cA a) (AC a sz)) 0 0 (AC a sz) := by
  refine Met.ofW (cc := b_TuneSetter_width) (maxL := 2) (ret := (some .int)) (by decide) rfl ?_
  intro p e s m args below meth c s₁ B hml hv
  obtain ⟨rfl, hsz, hP, hK, hD0⟩ := hv
  have hx := B.exec
  have hb := B.bytes
  have hr := B.returns
  have hts := atoms_spec (ws := w_TuneSetter_width) B.pre
  have hw := wall_of hts
  have hown : s.vm.findClass R_TuneSetter = some m.cls := findClass_of_methodNamed B.named
  have hlocks := B.notSynchronized
  subst hsz
  have hD := hDC (sz := s.heap.size) hD0
  have hA : ∀ q : Nat, s.heap.size ≤ q → AC a s.heap.size q := fun q h => Or.inr h
  have hS : va_S (AC a s.heap.size) s.heap s.heap [] := va_S.rf
  have hl := lv_entry ([.ref (a 0), .int x1]) (n := 2) (Nat.le_of_ble_eq_true rfl)
  rw [lg_entry_eq]
  generalize (lg_sl ([.ref (a 0), .int x1]) ++ List.replicate (2 - (lg_sl ([.ref (a 0), .int x1])).length) Slot.unset).toArray = ls at hl ⊢
  have hl : lv_has ls 2 [(0, .ref (a 0)), (1, .int x1)] := hl
  unfold wp_TuneSetter_width at h
  refine lv_iload_n hx hb d_TuneSetter_width_0 rfl (lv_at hl 1 rfl) ?_
  refine lv_if_lt (tgt := 12) hx hb d_TuneSetter_width_1 rfl (fun q => ?_) (fun q => ?_)
  · have h := h.1 q
    refine lv_iconst (v := (-1)) hx hb d_TuneSetter_width_12 ic_m1 ?_
    refine lv_goto (tgt := 28) hx hb d_TuneSetter_width_13 rfl ?_
    exact W.iret hx hb hr (fun t ht hW => ⟨⟨_, (I, A), rfl, h, endC_of ht hP⟩, hS.F ht⟩) hS.2.2 d_TuneSetter_width_28
  · have h := h.2 q
    refine lv_iload_n hx hb d_TuneSetter_width_4 rfl (lv_at hl 1 rfl) ?_
    refine lv_aload_n hx hb d_TuneSetter_width_5 rfl (lv_at hl 0 rfl) ?_
    refine k_TuneSetter_bars (rest := [.int x1]) ⟨hx, hb, hml, hown, hw⟩ hK hD hA hS hP hl.1 (hw _ m_TuneSetter_112) (Nat.le_of_ble_eq_true rfl) ⟨Nat.le_of_ble_eq_true rfl, Nat.le_of_ble_eq_true rfl⟩ ⟨Nat.zero_le _, Nat.zero_le _⟩ d_TuneSetter_width_6 h (fun r6 I6 A6 H locs h hP hS => ?_)
    refine lv_icmp_lt (tgt := 16) hx hb d_TuneSetter_width_9 rfl (fun q => ?_) (fun q => ?_)
    · have h := h.1 q
      refine lv_aload_n hx hb d_TuneSetter_width_16 rfl (lv_at hl 0 rfl) ?_
      refine gC_TuneSetter_reader hx hb hw hown hK hP (hw _ m_TuneSetter_16) d_TuneSetter_width_17 ?_
      refine gC_Reader_tune hx hb hw hown hK hP (hw _ m_TuneSetter_75) d_TuneSetter_width_20 ?_
      refine gC_Tune_barWidth hx hb hw hown hK hP (hw _ m_TuneSetter_115) d_TuneSetter_width_23 ?_
      refine lv_iload_n hx hb d_TuneSetter_width_26 rfl (lv_at hl 1 rfl) ?_
      obtain ⟨hin, h⟩ := h
      refine lC7 hx hb hK hP hin d_TuneSetter_width_27 ?_
      exact W.iret hx hb hr (fun t ht hW => ⟨⟨_, (I6, A6), rfl, h, endC_of ht hP⟩, hS.F ht⟩) hS.2.2 d_TuneSetter_width_28
    · have h := h.2 q
      refine lv_iconst (v := (-1)) hx hb d_TuneSetter_width_12 ic_m1 ?_
      refine lv_goto (tgt := 28) hx hb d_TuneSetter_width_13 rfl ?_
      exact W.iret hx hb hr (fun t ht hW => ⟨⟨_, (I6, A6), rfl, h, endC_of ht hP⟩, hS.F ht⟩) hS.2.2 d_TuneSetter_width_28
theorem k_TuneSetter_width {p : Program} {l : Launch} {e : Env} {R : Room} {s : State} {m : MethodId} {args : Array Value} {below : List Frame} {meth : Method} {c : Code} {H : Heap} {locs : List Loc} {cells slots : Nat} {Q : State → Prop} {cc : ByteArray} {pc nL idx : Nat} {own : String} {ls : Array Slot} {D : va_G} {cA a : Nat → Nat} {AA : Nat → Prop} {I : Nat → Int32} {A : Nat → Nat → Int32} {post : Int32 → (Nat → Int32) → (Nat → Nat → Int32) → Prop} (x1 : Int32) {rest : List Value} (S : CallFix p m c cc nL s args WALL own) (hK : KC D cA a AA s) (hD : ∀ I A, va_D AA (wC cA a I A)) (hA : ∀ q : Nat, s.heap.size ≤ q → AA q) (hS : va_S AA s.heap H locs) (hP : va_P D cls (wC cA a I A) H) (hl1 : ls.size = nL) (hlink : (Cond.methodLink own idx y_TuneSetter_width).before args s = true) (hst : (rest.map fun v => v.category).sum ≤ 8) (hR : ({ frames := 1, cells := 0, slots := 0, locals := 20 } : Room).frames + 1 ≤ R.frames ∧ 8 + (2 + 11) + ({ frames := 1, cells := 0, slots := 0, locals := 20 } : Room).locals ≤ R.locals) (hcs : cells ≤ R.cells ∧ slots ≤ R.slots) (hdg : decode cc pc = .ok (.invokevirtual idx, 3)) (h : wp_TuneSetter_width x1 I A post) (kk : ∀ (r : Int32) (I1 : Nat → Int32) (A1 : Nat → Nat → Int32) (H1 : Heap) (locs1 : List Loc), post r I1 A1 → va_P D cls (wC cA a I1 A1) H1 → va_S AA s.heap H1 locs1 → W p l e R s m args below meth c H1 locs1 cells slots Q (F0 m (pc + 3) ls (.int r :: rest))) : W p l e R s m args below meth c H locs cells slots Q (F0 m pc ls (.int x1 :: .ref (a 0) :: rest)) :=
  va_calli (va_runV (As := [.int x1]) (rest := rest) S (c_TuneSetter_width l D cA a H.size x1 I A post h) ⟨callB_of 1 S.2.2.2.2 g_TuneSetter_width rfl rfl rfl (S.2.2.2.2 _ mi_TuneSetter) hlink ⟨by decide, by decide, by decide +kernel⟩ hR, S.2.2.2.2 _ mn_TuneSetter_width, S.2.2.2.2 _ ms_TuneSetter_width⟩ (preCV hK hD hA hS hP 0 rfl rfl) rfl rfl hl1 rfl (lv_room hst) hdg hcs) hS (fun q _ z => AC_le hD hA hS q z) (fun q z => AC_le hD hA hS q z) (fun r u t H1 locs1 ht _ hp hB _ _ hS1 => kk r u.1 u.2 H1 locs1 hp (of_endC ht hB) hS1)
def wp_NoteFile_put (x1 : Int32) (I : Nat → Int32) (A : Nat → Nat → Int32) (post : (Nat → Int32) → (Nat → Nat → Int32) → Prop) : Prop := ((794 ≤ (I 28) → post I A) ∧ (¬ 794 ≤ (I 28) → (vp_in (I 28) 794 ∧ post (upd I 28 ((I 28) + 1)) (upd2 A 23 ((I 28).toNatClampNeg) x1))))
theorem d_NoteFile_put_0 : decode b_NoteFile_put 0 = .ok (.aload_n 0, 1) := by decide +kernel
theorem d_NoteFile_put_1 : decode b_NoteFile_put 1 = .ok (.getfield 18, 3) := by decide +kernel
theorem d_NoteFile_put_4 : decode b_NoteFile_put 4 = .ok (.sipush 794, 3) := by decide +kernel
theorem d_NoteFile_put_7 : decode b_NoteFile_put 7 = .ok (.if_icmp .ge 23, 3) := by decide +kernel
theorem d_NoteFile_put_10 : decode b_NoteFile_put 10 = .ok (.aload_n 0, 1) := by decide +kernel
theorem d_NoteFile_put_11 : decode b_NoteFile_put 11 = .ok (.getfield 11, 3) := by decide +kernel
theorem d_NoteFile_put_14 : decode b_NoteFile_put 14 = .ok (.aload_n 0, 1) := by decide +kernel
theorem d_NoteFile_put_15 : decode b_NoteFile_put 15 = .ok (.getfield 18, 3) := by decide +kernel
theorem d_NoteFile_put_18 : decode b_NoteFile_put 18 = .ok (.iload_n 1, 1) := by decide +kernel
theorem d_NoteFile_put_19 : decode b_NoteFile_put 19 = .ok (.iastore, 1) := by decide +kernel
theorem d_NoteFile_put_20 : decode b_NoteFile_put 20 = .ok (.aload_n 0, 1) := by decide +kernel
theorem d_NoteFile_put_21 : decode b_NoteFile_put 21 = .ok (.dup, 1) := by decide +kernel
theorem d_NoteFile_put_22 : decode b_NoteFile_put 22 = .ok (.getfield 18, 3) := by decide +kernel
theorem d_NoteFile_put_25 : decode b_NoteFile_put 25 = .ok (.iconst 1, 1) := by decide +kernel
theorem d_NoteFile_put_26 : decode b_NoteFile_put 26 = .ok (.iadd, 1) := by decide +kernel
theorem d_NoteFile_put_27 : decode b_NoteFile_put 27 = .ok (.putfield 18, 3) := by decide +kernel
theorem d_NoteFile_put_30 : decode b_NoteFile_put 30 = .ok (.return_, 1) := by decide +kernel
def w_NoteFile_put : List Cond := .code y_NoteFile_put b_NoteFile_put 2 none :: WALL
theorem g_NoteFile_put : GoodIn WALL w_NoteFile_put := good_of mc_NoteFile_put
set_option maxHeartbeats 4000000 in
set_option maxRecDepth 100000 in
theorem c_NoteFile_put (l : Launch) (D : va_G) (cA a : Nat → Nat) (sz : Nat) (x1 : Int32) (I : Nat → Int32) (A : Nat → Nat → Int32) (post : (Nat → Int32) → (Nat → Nat → Int32) → Prop) (h : wp_NoteFile_put x1 I A post) : Met l y_NoteFile_put w_NoteFile_put ({ frames := 0, cells := 0, slots := 0, locals := 0 }) (va_Pc [.ref (a 22), .int x1] (PreC D cA a I A sz)) (va_Qv (fun (u : StW) => post u.1 u.2) (EndC D cA a) (AC a sz)) 0 0 (AC a sz) := by
  refine Met.ofW (cc := b_NoteFile_put) (maxL := 2) (ret := none) (by decide) rfl ?_
  intro p e s m args below meth c s₁ B hml hv
  obtain ⟨rfl, hsz, hP, hK, hD0⟩ := hv
  have hx := B.exec
  have hb := B.bytes
  have hr := B.returns
  have hts := atoms_spec (ws := w_NoteFile_put) B.pre
  have hw := wall_of hts
  have hown : s.vm.findClass R_NoteFile = some m.cls := findClass_of_methodNamed B.named
  have hlocks := B.notSynchronized
  subst hsz
  have hD := hDC (sz := s.heap.size) hD0
  have hA : ∀ q : Nat, s.heap.size ≤ q → AC a s.heap.size q := fun q h => Or.inr h
  have hS : va_S (AC a s.heap.size) s.heap s.heap [] := va_S.rf
  have hl := lv_entry ([.ref (a 22), .int x1]) (n := 2) (Nat.le_of_ble_eq_true rfl)
  rw [lg_entry_eq]
  generalize (lg_sl ([.ref (a 22), .int x1]) ++ List.replicate (2 - (lg_sl ([.ref (a 22), .int x1])).length) Slot.unset).toArray = ls at hl ⊢
  have hl : lv_has ls 2 [(0, .ref (a 22)), (1, .int x1)] := hl
  unfold wp_NoteFile_put at h
  refine lv_aload_n hx hb d_NoteFile_put_0 rfl (lv_at hl 0 rfl) ?_
  refine gC_NoteFile_size hx hb hw hown hK hP (hw _ m_NoteFile_18) d_NoteFile_put_1 ?_
  refine lv_sipush (v := 794) hx hb d_NoteFile_put_4 sp_794 ?_
  refine lv_icmp_ge (tgt := 30) hx hb d_NoteFile_put_7 rfl (fun q => ?_) (fun q => ?_)
  · have h := h.1 q
    exact W.vret hx hb hr (fun t ht hW => ⟨⟨(I, A), rfl, h, endC_of ht hP⟩, hS.F ht⟩) hS.2.2 d_NoteFile_put_30
  · have h := h.2 q
    refine lv_aload_n hx hb d_NoteFile_put_10 rfl (lv_at hl 0 rfl) ?_
    refine gC_NoteFile_bytes hx hb hw hown hK hP (hw _ m_NoteFile_11) d_NoteFile_put_11 ?_
    refine lv_aload_n hx hb d_NoteFile_put_14 rfl (lv_at hl 0 rfl) ?_
    refine gC_NoteFile_size hx hb hw hown hK hP (hw _ m_NoteFile_18) d_NoteFile_put_15 ?_
    refine lv_iload_n hx hb d_NoteFile_put_18 rfl (lv_at hl 1 rfl) ?_
    obtain ⟨hin, h⟩ := h
    refine sC23 hx hb hK hD hS hP hin d_NoteFile_put_19 (fun H locs hP hS => ?_)
    refine lv_aload_n hx hb d_NoteFile_put_20 rfl (lv_at hl 0 rfl) ?_
    refine lv_dup hx hb d_NoteFile_put_21 rfl ?_
    refine gC_NoteFile_size hx hb hw hown hK hP (hw _ m_NoteFile_18) d_NoteFile_put_22 ?_
    refine lv_iconst (v := 1) hx hb d_NoteFile_put_25 ic_1 ?_
    refine lv_iadd hx hb d_NoteFile_put_26 ?_
    refine pC_NoteFile_size hx hb hw hown hK hD hS hP (hw _ m_NoteFile_18) d_NoteFile_put_27 (fun H locs hP hS => ?_)
    exact W.vret hx hb hr (fun t ht hW => ⟨⟨((upd I 28 ((I 28) + 1)), (upd2 A 23 ((I 28).toNatClampNeg) x1)), rfl, h, endC_of ht hP⟩, hS.F ht⟩) hS.2.2 d_NoteFile_put_30
theorem k_NoteFile_put {p : Program} {l : Launch} {e : Env} {R : Room} {s : State} {m : MethodId} {args : Array Value} {below : List Frame} {meth : Method} {c : Code} {H : Heap} {locs : List Loc} {cells slots : Nat} {Q : State → Prop} {cc : ByteArray} {pc nL idx : Nat} {own : String} {ls : Array Slot} {D : va_G} {cA a : Nat → Nat} {AA : Nat → Prop} {I : Nat → Int32} {A : Nat → Nat → Int32} {post : (Nat → Int32) → (Nat → Nat → Int32) → Prop} (x1 : Int32) {rest : List Value} (S : CallFix p m c cc nL s args WALL own) (hK : KC D cA a AA s) (hD : ∀ I A, va_D AA (wC cA a I A)) (hA : ∀ q : Nat, s.heap.size ≤ q → AA q) (hS : va_S AA s.heap H locs) (hP : va_P D cls (wC cA a I A) H) (hl1 : ls.size = nL) (hlink : (Cond.methodLink own idx y_NoteFile_put).before args s = true) (hst : (rest.map fun v => v.category).sum ≤ 8) (hR : ({ frames := 0, cells := 0, slots := 0, locals := 0 } : Room).frames + 1 ≤ R.frames ∧ 8 + (2 + 11) + ({ frames := 0, cells := 0, slots := 0, locals := 0 } : Room).locals ≤ R.locals) (hcs : cells ≤ R.cells ∧ slots ≤ R.slots) (hdg : decode cc pc = .ok (.invokevirtual idx, 3)) (h : wp_NoteFile_put x1 I A post) (kk : ∀ (I1 : Nat → Int32) (A1 : Nat → Nat → Int32) (H1 : Heap) (locs1 : List Loc), post I1 A1 → va_P D cls (wC cA a I1 A1) H1 → va_S AA s.heap H1 locs1 → W p l e R s m args below meth c H1 locs1 cells slots Q (F0 m (pc + 3) ls rest)) : W p l e R s m args below meth c H locs cells slots Q (F0 m pc ls (.int x1 :: .ref (a 22) :: rest)) :=
  va_callv (va_runV (As := [.int x1]) (rest := rest) S (c_NoteFile_put l D cA a H.size x1 I A post h) ⟨callB_of 1 S.2.2.2.2 g_NoteFile_put rfl rfl rfl (S.2.2.2.2 _ mi_NoteFile) hlink ⟨by decide, by decide, by decide +kernel⟩ hR, S.2.2.2.2 _ mn_NoteFile_put, S.2.2.2.2 _ ms_NoteFile_put⟩ (preCV hK hD hA hS hP 22 rfl rfl) rfl rfl hl1 rfl (lv_room hst) hdg hcs) hS (fun q _ z => AC_le hD hA hS q z) (fun q z => AC_le hD hA hS q z) (fun u t H1 locs1 ht _ hp hB _ _ hS1 => kk u.1 u.2 H1 locs1 hp (of_endC ht hB) hS1)
def wp_NoteFile_putAll_63_8 (post : (Nat → Int32) → (Nat → Nat → Int32) → Prop) : Nat → Int32 → Int32 → (Nat → Int32) → (Nat → Nat → Int32) → Prop
  | 0, _, _, _, _ => False
  | n + 1, y3, y4, I, A => ((y3 ≤ y4 → post I A) ∧ (¬ y3 ≤ y4 → (vp_in y4 18 ∧ (∀ v18 : Int32, v18 = tb_HEAD y4.toNatClampNeg → (wp_NoteFile_put v18 I A (fun I23 A23 => (∀ v26 : Int32, v26 = y4 + 1 → wp_NoteFile_putAll_63_8 post n y3 v26 I23 A23)))))))
def wp_NoteFile_putAll_63 (I : Nat → Int32) (A : Nat → Nat → Int32) (post : (Nat → Int32) → (Nat → Nat → Int32) → Prop) : Prop := (∃ n8, wp_NoteFile_putAll_63_8 post n8 18 0 I A)
theorem d_NoteFile_putAll_0 : decode b_NoteFile_putAll 0 = .ok (.aload_n 1, 1) := by decide +kernel
theorem d_NoteFile_putAll_1 : decode b_NoteFile_putAll 1 = .ok (.astore_n 2, 1) := by decide +kernel
theorem d_NoteFile_putAll_2 : decode b_NoteFile_putAll 2 = .ok (.aload_n 2, 1) := by decide +kernel
theorem d_NoteFile_putAll_3 : decode b_NoteFile_putAll 3 = .ok (.arraylength, 1) := by decide +kernel
theorem d_NoteFile_putAll_4 : decode b_NoteFile_putAll 4 = .ok (.istore_n 3, 1) := by decide +kernel
theorem d_NoteFile_putAll_5 : decode b_NoteFile_putAll 5 = .ok (.iconst 0, 1) := by decide +kernel
theorem d_NoteFile_putAll_6 : decode b_NoteFile_putAll 6 = .ok (.istore 4, 2) := by decide +kernel
theorem d_NoteFile_putAll_8 : decode b_NoteFile_putAll 8 = .ok (.iload 4, 2) := by decide +kernel
theorem d_NoteFile_putAll_10 : decode b_NoteFile_putAll 10 = .ok (.iload_n 3, 1) := by decide +kernel
theorem d_NoteFile_putAll_11 : decode b_NoteFile_putAll 11 = .ok (.if_icmp .ge 21, 3) := by decide +kernel
theorem d_NoteFile_putAll_14 : decode b_NoteFile_putAll 14 = .ok (.aload_n 2, 1) := by decide +kernel
theorem d_NoteFile_putAll_15 : decode b_NoteFile_putAll 15 = .ok (.iload 4, 2) := by decide +kernel
theorem d_NoteFile_putAll_17 : decode b_NoteFile_putAll 17 = .ok (.iaload, 1) := by decide +kernel
theorem d_NoteFile_putAll_18 : decode b_NoteFile_putAll 18 = .ok (.istore 5, 2) := by decide +kernel
theorem d_NoteFile_putAll_20 : decode b_NoteFile_putAll 20 = .ok (.aload_n 0, 1) := by decide +kernel
theorem d_NoteFile_putAll_21 : decode b_NoteFile_putAll 21 = .ok (.iload 5, 2) := by decide +kernel
theorem d_NoteFile_putAll_23 : decode b_NoteFile_putAll 23 = .ok (.invokevirtual 66, 3) := by decide +kernel
theorem d_NoteFile_putAll_26 : decode b_NoteFile_putAll 26 = .ok (.iinc 4 1, 3) := by decide +kernel
theorem d_NoteFile_putAll_29 : decode b_NoteFile_putAll 29 = .ok (.goto (-21), 3) := by decide +kernel
theorem d_NoteFile_putAll_32 : decode b_NoteFile_putAll 32 = .ok (.return_, 1) := by decide +kernel
def w_NoteFile_putAll_63 : List Cond := .code y_NoteFile_putAll b_NoteFile_putAll 6 none :: WALL
theorem g_NoteFile_putAll_63 : GoodIn WALL w_NoteFile_putAll_63 := good_of mc_NoteFile_putAll
set_option maxHeartbeats 4000000 in
set_option maxRecDepth 100000 in
theorem c_NoteFile_putAll_63 (l : Launch) (D : va_G) (cA a : Nat → Nat) (sz : Nat) (I : Nat → Int32) (A : Nat → Nat → Int32) (post : (Nat → Int32) → (Nat → Nat → Int32) → Prop) (h : wp_NoteFile_putAll_63 I A post) : Met l y_NoteFile_putAll w_NoteFile_putAll_63 ({ frames := 1, cells := 0, slots := 0, locals := 21 }) (va_Pc [.ref (a 22), .ref (a 63)] (PreC D cA a I A sz)) (va_Qv (fun (u : StW) => post u.1 u.2) (EndC D cA a) (AC a sz)) 0 0 (AC a sz) := by
  refine Met.ofW (cc := b_NoteFile_putAll) (maxL := 6) (ret := none) (by decide) rfl ?_
  intro p e s m args below meth c s₁ B hml hv
  obtain ⟨rfl, hsz, hP, hK, hD0⟩ := hv
  have hx := B.exec
  have hb := B.bytes
  have hr := B.returns
  have hts := atoms_spec (ws := w_NoteFile_putAll_63) B.pre
  have hw := wall_of hts
  have hown : s.vm.findClass R_NoteFile = some m.cls := findClass_of_methodNamed B.named
  have hlocks := B.notSynchronized
  subst hsz
  have hD := hDC (sz := s.heap.size) hD0
  have hA : ∀ q : Nat, s.heap.size ≤ q → AC a s.heap.size q := fun q h => Or.inr h
  have hS : va_S (AC a s.heap.size) s.heap s.heap [] := va_S.rf
  have j8 : ∀ n : Nat, ∀ (y3 : Int32) (y4 : Int32) (I : Nat → Int32) (A : Nat → Nat → Int32) (H : Heap) (locs : List Loc) (ls : Array Slot), wp_NoteFile_putAll_63_8 post n y3 y4 I A → va_P D cls (wC cA a I A) H → va_S (AC a s.heap.size) s.heap H locs → lv_has ls 6 [(0, .ref (a 22)), (2, .ref (a 63)), (3, .int y3), (4, .int y4)] → W p l e (headSpec w_NoteFile_putAll_63 ({ frames := 1, cells := 0, slots := 0, locals := 21 })).room s m [.ref (a 22), .ref (a 63)].toArray below meth c H locs 0 0 (MQ below (va_Qv (fun (u : StW) => post u.1 u.2) (EndC D cA a) (AC a s.heap.size)) [.ref (a 22), .ref (a 63)].toArray s 0 0 (AC a s.heap.size)) (F0 m 8 ls []) := by
    intro n
    induction n with
    | zero =>
      intro y3 y4 I A H locs ls h hP hS hl
      exact False.elim h
    | succ n ih =>
      intro y3 y4 I A H locs ls h hP hS hl
      unfold wp_NoteFile_putAll_63_8 at h
      refine lv_iload hx hb d_NoteFile_putAll_8 (lv_at hl 3 rfl) ?_
      refine lv_iload_n hx hb d_NoteFile_putAll_10 rfl (lv_at hl 2 rfl) ?_
      refine lv_icmp_ge (tgt := 32) hx hb d_NoteFile_putAll_11 rfl (fun q => ?_) (fun q => ?_)
      · have h := h.1 q
        exact W.vret hx hb hr (fun t ht hW => ⟨⟨(I, A), rfl, h, endC_of ht hP⟩, hS.F ht⟩) hS.2.2 d_NoteFile_putAll_32
      · have h := h.2 q
        refine lv_aload_n hx hb d_NoteFile_putAll_14 rfl (lv_at hl 1 rfl) ?_
        refine lv_iload hx hb d_NoteFile_putAll_15 (lv_at hl 3 rfl) ?_
        obtain ⟨hin, h⟩ := h
        refine tC_HEAD hx hb hK hS hin d_NoteFile_putAll_17 ?_
        refine lv_topi (fun v18 ev18 => ?_)
        have h := h v18 ev18
        refine lv_istore (lv' := [(5, .int v18), (0, .ref (a 22)), (2, .ref (a 63)), (3, .int y3), (4, .int y4)]) hx hb d_NoteFile_putAll_18 hl (by decide) rfl (fun ls hl => ?_)
        refine lv_aload_n hx hb d_NoteFile_putAll_20 rfl (lv_at hl 1 rfl) ?_
        refine lv_iload hx hb d_NoteFile_putAll_21 (lv_at hl 0 rfl) ?_
        refine k_NoteFile_put v18 (rest := []) ⟨hx, hb, hml, hown, hw⟩ hK hD hA hS hP hl.1 (hw _ m_NoteFile_66) (Nat.le_of_ble_eq_true rfl) ⟨Nat.le_of_ble_eq_true rfl, Nat.le_of_ble_eq_true rfl⟩ ⟨Nat.zero_le _, Nat.zero_le _⟩ d_NoteFile_putAll_23 h (fun I23 A23 H locs h hP hS => ?_)
        obtain ⟨v26, ev26⟩ : ∃ z : Int32, z = y4 + 1 := ⟨_, rfl⟩
        have h := h v26 ev26
        refine lv_iinc (k := 4) (v := v26) (lv' := [(4, .int v26), (5, .int v18), (0, .ref (a 22)), (2, .ref (a 63)), (3, .int y3)]) hx hb d_NoteFile_putAll_26 hl rfl (by rw [ev26, ic_1]) (by decide) rfl (fun ls hl => ?_)
        refine lv_goto (tgt := 8) hx hb d_NoteFile_putAll_29 rfl ?_
        exact ih y3 v26 I23 A23 _ _ _ h hP hS (lv_sub hl [2, 3, 4, 0] rfl)
  have hl := lv_entry ([.ref (a 22), .ref (a 63)]) (n := 6) (Nat.le_of_ble_eq_true rfl)
  rw [lg_entry_eq]
  generalize (lg_sl ([.ref (a 22), .ref (a 63)]) ++ List.replicate (6 - (lg_sl ([.ref (a 22), .ref (a 63)])).length) Slot.unset).toArray = ls at hl ⊢
  have hl : lv_has ls 6 [(0, .ref (a 22)), (1, .ref (a 63))] := hl
  unfold wp_NoteFile_putAll_63 at h
  refine lv_aload_n hx hb d_NoteFile_putAll_0 rfl (lv_at hl 1 rfl) ?_
  refine lv_astore_n (lv' := [(2, .ref (a 63)), (0, .ref (a 22)), (1, .ref (a 63))]) hx hb d_NoteFile_putAll_1 rfl hl (by decide) rfl (fun ls hl => ?_)
  refine lv_aload_n hx hb d_NoteFile_putAll_2 rfl (lv_at hl 0 rfl) ?_
  refine tlC_HEAD hx hb hK hS d_NoteFile_putAll_3 ?_
  refine lv_istore_n (lv' := [(3, .int 18), (2, .ref (a 63)), (0, .ref (a 22)), (1, .ref (a 63))]) hx hb d_NoteFile_putAll_4 rfl hl (by decide) rfl (fun ls hl => ?_)
  refine lv_iconst (v := 0) hx hb d_NoteFile_putAll_5 ic_0 ?_
  refine lv_istore (lv' := [(4, .int 0), (3, .int 18), (2, .ref (a 63)), (0, .ref (a 22)), (1, .ref (a 63))]) hx hb d_NoteFile_putAll_6 hl (by decide) rfl (fun ls hl => ?_)
  obtain ⟨n8, h⟩ := h
  exact j8 n8 18 0 I A _ _ _ h hP hS (lv_sub hl [3, 2, 1, 0] rfl)
theorem k_NoteFile_putAll_63 {p : Program} {l : Launch} {e : Env} {R : Room} {s : State} {m : MethodId} {args : Array Value} {below : List Frame} {meth : Method} {c : Code} {H : Heap} {locs : List Loc} {cells slots : Nat} {Q : State → Prop} {cc : ByteArray} {pc nL idx : Nat} {own : String} {ls : Array Slot} {D : va_G} {cA a : Nat → Nat} {AA : Nat → Prop} {I : Nat → Int32} {A : Nat → Nat → Int32} {post : (Nat → Int32) → (Nat → Nat → Int32) → Prop} {rest : List Value} (S : CallFix p m c cc nL s args WALL own) (hK : KC D cA a AA s) (hD : ∀ I A, va_D AA (wC cA a I A)) (hA : ∀ q : Nat, s.heap.size ≤ q → AA q) (hS : va_S AA s.heap H locs) (hP : va_P D cls (wC cA a I A) H) (hl1 : ls.size = nL) (hlink : (Cond.methodLink own idx y_NoteFile_putAll).before args s = true) (hst : (rest.map fun v => v.category).sum ≤ 8) (hR : ({ frames := 1, cells := 0, slots := 0, locals := 21 } : Room).frames + 1 ≤ R.frames ∧ 8 + (6 + 11) + ({ frames := 1, cells := 0, slots := 0, locals := 21 } : Room).locals ≤ R.locals) (hcs : cells ≤ R.cells ∧ slots ≤ R.slots) (hdg : decode cc pc = .ok (.invokevirtual idx, 3)) (h : wp_NoteFile_putAll_63 I A post) (kk : ∀ (I1 : Nat → Int32) (A1 : Nat → Nat → Int32) (H1 : Heap) (locs1 : List Loc), post I1 A1 → va_P D cls (wC cA a I1 A1) H1 → va_S AA s.heap H1 locs1 → W p l e R s m args below meth c H1 locs1 cells slots Q (F0 m (pc + 3) ls rest)) : W p l e R s m args below meth c H locs cells slots Q (F0 m pc ls (.ref (a 63) :: .ref (a 22) :: rest)) :=
  va_callv (va_runV (As := [.ref (a 63)]) (rest := rest) S (c_NoteFile_putAll_63 l D cA a H.size I A post h) ⟨callB_of 1 S.2.2.2.2 g_NoteFile_putAll_63 rfl rfl rfl (S.2.2.2.2 _ mi_NoteFile) hlink ⟨by decide, by decide, by decide +kernel⟩ hR, S.2.2.2.2 _ mn_NoteFile_putAll, S.2.2.2.2 _ ms_NoteFile_putAll⟩ (preCV hK hD hA hS hP 22 rfl rfl) rfl rfl hl1 rfl (lv_room hst) hdg hcs) hS (fun q _ z => AC_le hD hA hS q z) (fun q z => AC_le hD hA hS q z) (fun u t H1 locs1 ht _ hp hB _ _ hS1 => kk u.1 u.2 H1 locs1 hp (of_endC ht hB) hS1)
def wp_NoteFile_sortIn_16 (post : (Nat → Int32) → (Nat → Nat → Int32) → Prop) : Nat → Int32 → Int32 → (Nat → Int32) → (Nat → Nat → Int32) → Prop
  | 0, _, _, _, _ => False
  | n + 1, y1, y2, I, A => ((y2 ≤ 0 → (vp_in y2 128 ∧ post (upd I 29 ((I 29) + 1)) (upd2 A 24 (y2.toNatClampNeg) y1))) ∧ (¬ y2 ≤ 0 → (vp_in (y2 - 1) 128 ∧ (((A 24 ((y2 - 1).toNatClampNeg)) ≤ y1 → (vp_in y2 128 ∧ post (upd I 29 ((I 29) + 1)) (upd2 A 24 (y2.toNatClampNeg) y1))) ∧ (¬ (A 24 ((y2 - 1).toNatClampNeg)) ≤ y1 → (vp_in (y2 - 1) 128 ∧ (vp_in y2 128 ∧ (∀ v46 : Int32, v46 = y2 + (-1) → wp_NoteFile_sortIn_16 post n y1 v46 I (upd2 A 24 (y2.toNatClampNeg) (A 24 ((y2 - 1).toNatClampNeg)))))))))))
def wp_NoteFile_sortIn (x1 : Int32) (I : Nat → Int32) (A : Nat → Nat → Int32) (post : (Nat → Int32) → (Nat → Nat → Int32) → Prop) : Prop := (((I 29) < 128 → (∀ v15 : Int32, v15 = (I 29) → (∃ n16, wp_NoteFile_sortIn_16 post n16 x1 v15 I A))) ∧ (¬ (I 29) < 128 → post I A))
theorem d_NoteFile_sortIn_0 : decode b_NoteFile_sortIn 0 = .ok (.aload_n 0, 1) := by decide +kernel
theorem d_NoteFile_sortIn_1 : decode b_NoteFile_sortIn 1 = .ok (.getfield 43, 3) := by decide +kernel
theorem d_NoteFile_sortIn_4 : decode b_NoteFile_sortIn 4 = .ok (.sipush 128, 3) := by decide +kernel
theorem d_NoteFile_sortIn_7 : decode b_NoteFile_sortIn 7 = .ok (.if_icmp .lt 4, 3) := by decide +kernel
theorem d_NoteFile_sortIn_10 : decode b_NoteFile_sortIn 10 = .ok (.return_, 1) := by decide +kernel
theorem d_NoteFile_sortIn_11 : decode b_NoteFile_sortIn 11 = .ok (.aload_n 0, 1) := by decide +kernel
theorem d_NoteFile_sortIn_12 : decode b_NoteFile_sortIn 12 = .ok (.getfield 43, 3) := by decide +kernel
theorem d_NoteFile_sortIn_15 : decode b_NoteFile_sortIn 15 = .ok (.istore_n 2, 1) := by decide +kernel
theorem d_NoteFile_sortIn_16 : decode b_NoteFile_sortIn 16 = .ok (.iload_n 2, 1) := by decide +kernel
theorem d_NoteFile_sortIn_17 : decode b_NoteFile_sortIn 17 = .ok (.ifCond .le 35, 3) := by decide +kernel
theorem d_NoteFile_sortIn_20 : decode b_NoteFile_sortIn 20 = .ok (.aload_n 0, 1) := by decide +kernel
theorem d_NoteFile_sortIn_21 : decode b_NoteFile_sortIn 21 = .ok (.getfield 15, 3) := by decide +kernel
theorem d_NoteFile_sortIn_24 : decode b_NoteFile_sortIn 24 = .ok (.iload_n 2, 1) := by decide +kernel
theorem d_NoteFile_sortIn_25 : decode b_NoteFile_sortIn 25 = .ok (.iconst 1, 1) := by decide +kernel
theorem d_NoteFile_sortIn_26 : decode b_NoteFile_sortIn 26 = .ok (.isub, 1) := by decide +kernel
theorem d_NoteFile_sortIn_27 : decode b_NoteFile_sortIn 27 = .ok (.iaload, 1) := by decide +kernel
theorem d_NoteFile_sortIn_28 : decode b_NoteFile_sortIn 28 = .ok (.iload_n 1, 1) := by decide +kernel
theorem d_NoteFile_sortIn_29 : decode b_NoteFile_sortIn 29 = .ok (.if_icmp .le 23, 3) := by decide +kernel
theorem d_NoteFile_sortIn_32 : decode b_NoteFile_sortIn 32 = .ok (.aload_n 0, 1) := by decide +kernel
theorem d_NoteFile_sortIn_33 : decode b_NoteFile_sortIn 33 = .ok (.getfield 15, 3) := by decide +kernel
theorem d_NoteFile_sortIn_36 : decode b_NoteFile_sortIn 36 = .ok (.iload_n 2, 1) := by decide +kernel
theorem d_NoteFile_sortIn_37 : decode b_NoteFile_sortIn 37 = .ok (.aload_n 0, 1) := by decide +kernel
theorem d_NoteFile_sortIn_38 : decode b_NoteFile_sortIn 38 = .ok (.getfield 15, 3) := by decide +kernel
theorem d_NoteFile_sortIn_41 : decode b_NoteFile_sortIn 41 = .ok (.iload_n 2, 1) := by decide +kernel
theorem d_NoteFile_sortIn_42 : decode b_NoteFile_sortIn 42 = .ok (.iconst 1, 1) := by decide +kernel
theorem d_NoteFile_sortIn_43 : decode b_NoteFile_sortIn 43 = .ok (.isub, 1) := by decide +kernel
theorem d_NoteFile_sortIn_44 : decode b_NoteFile_sortIn 44 = .ok (.iaload, 1) := by decide +kernel
theorem d_NoteFile_sortIn_45 : decode b_NoteFile_sortIn 45 = .ok (.iastore, 1) := by decide +kernel
theorem d_NoteFile_sortIn_46 : decode b_NoteFile_sortIn 46 = .ok (.iinc 2 (-1), 3) := by decide +kernel
theorem d_NoteFile_sortIn_49 : decode b_NoteFile_sortIn 49 = .ok (.goto (-33), 3) := by decide +kernel
theorem d_NoteFile_sortIn_52 : decode b_NoteFile_sortIn 52 = .ok (.aload_n 0, 1) := by decide +kernel
theorem d_NoteFile_sortIn_53 : decode b_NoteFile_sortIn 53 = .ok (.getfield 15, 3) := by decide +kernel
theorem d_NoteFile_sortIn_56 : decode b_NoteFile_sortIn 56 = .ok (.iload_n 2, 1) := by decide +kernel
theorem d_NoteFile_sortIn_57 : decode b_NoteFile_sortIn 57 = .ok (.iload_n 1, 1) := by decide +kernel
theorem d_NoteFile_sortIn_58 : decode b_NoteFile_sortIn 58 = .ok (.iastore, 1) := by decide +kernel
theorem d_NoteFile_sortIn_59 : decode b_NoteFile_sortIn 59 = .ok (.aload_n 0, 1) := by decide +kernel
theorem d_NoteFile_sortIn_60 : decode b_NoteFile_sortIn 60 = .ok (.dup, 1) := by decide +kernel
theorem d_NoteFile_sortIn_61 : decode b_NoteFile_sortIn 61 = .ok (.getfield 43, 3) := by decide +kernel
theorem d_NoteFile_sortIn_64 : decode b_NoteFile_sortIn 64 = .ok (.iconst 1, 1) := by decide +kernel
theorem d_NoteFile_sortIn_65 : decode b_NoteFile_sortIn 65 = .ok (.iadd, 1) := by decide +kernel
theorem d_NoteFile_sortIn_66 : decode b_NoteFile_sortIn 66 = .ok (.putfield 43, 3) := by decide +kernel
theorem d_NoteFile_sortIn_69 : decode b_NoteFile_sortIn 69 = .ok (.return_, 1) := by decide +kernel
def w_NoteFile_sortIn : List Cond := .code y_NoteFile_sortIn b_NoteFile_sortIn 3 none :: WALL
theorem g_NoteFile_sortIn : GoodIn WALL w_NoteFile_sortIn := good_of mc_NoteFile_sortIn
set_option maxHeartbeats 4000000 in
set_option maxRecDepth 100000 in
theorem c_NoteFile_sortIn (l : Launch) (D : va_G) (cA a : Nat → Nat) (sz : Nat) (x1 : Int32) (I : Nat → Int32) (A : Nat → Nat → Int32) (post : (Nat → Int32) → (Nat → Nat → Int32) → Prop) (h : wp_NoteFile_sortIn x1 I A post) : Met l y_NoteFile_sortIn w_NoteFile_sortIn ({ frames := 0, cells := 0, slots := 0, locals := 0 }) (va_Pc [.ref (a 22), .int x1] (PreC D cA a I A sz)) (va_Qv (fun (u : StW) => post u.1 u.2) (EndC D cA a) (AC a sz)) 0 0 (AC a sz) := by
  refine Met.ofW (cc := b_NoteFile_sortIn) (maxL := 3) (ret := none) (by decide) rfl ?_
  intro p e s m args below meth c s₁ B hml hv
  obtain ⟨rfl, hsz, hP, hK, hD0⟩ := hv
  have hx := B.exec
  have hb := B.bytes
  have hr := B.returns
  have hts := atoms_spec (ws := w_NoteFile_sortIn) B.pre
  have hw := wall_of hts
  have hown : s.vm.findClass R_NoteFile = some m.cls := findClass_of_methodNamed B.named
  have hlocks := B.notSynchronized
  subst hsz
  have hD := hDC (sz := s.heap.size) hD0
  have hA : ∀ q : Nat, s.heap.size ≤ q → AC a s.heap.size q := fun q h => Or.inr h
  have hS : va_S (AC a s.heap.size) s.heap s.heap [] := va_S.rf
  have j16 : ∀ n : Nat, ∀ (y1 : Int32) (y2 : Int32) (I : Nat → Int32) (A : Nat → Nat → Int32) (H : Heap) (locs : List Loc) (ls : Array Slot), wp_NoteFile_sortIn_16 post n y1 y2 I A → va_P D cls (wC cA a I A) H → va_S (AC a s.heap.size) s.heap H locs → lv_has ls 3 [(0, .ref (a 22)), (1, .int y1), (2, .int y2)] → W p l e (headSpec w_NoteFile_sortIn ({ frames := 0, cells := 0, slots := 0, locals := 0 })).room s m [.ref (a 22), .int x1].toArray below meth c H locs 0 0 (MQ below (va_Qv (fun (u : StW) => post u.1 u.2) (EndC D cA a) (AC a s.heap.size)) [.ref (a 22), .int x1].toArray s 0 0 (AC a s.heap.size)) (F0 m 16 ls []) := by
    intro n
    induction n with
    | zero =>
      intro y1 y2 I A H locs ls h hP hS hl
      exact False.elim h
    | succ n ih =>
      intro y1 y2 I A H locs ls h hP hS hl
      unfold wp_NoteFile_sortIn_16 at h
      refine lv_iload_n hx hb d_NoteFile_sortIn_16 rfl (lv_at hl 2 rfl) ?_
      refine lv_if_le (tgt := 52) hx hb d_NoteFile_sortIn_17 rfl (fun q => ?_) (fun q => ?_)
      · have h := h.1 q
        refine lv_aload_n hx hb d_NoteFile_sortIn_52 rfl (lv_at hl 0 rfl) ?_
        refine gC_NoteFile_events hx hb hw hown hK hP (hw _ m_NoteFile_15) d_NoteFile_sortIn_53 ?_
        refine lv_iload_n hx hb d_NoteFile_sortIn_56 rfl (lv_at hl 2 rfl) ?_
        refine lv_iload_n hx hb d_NoteFile_sortIn_57 rfl (lv_at hl 1 rfl) ?_
        obtain ⟨hin, h⟩ := h
        refine sC24 hx hb hK hD hS hP hin d_NoteFile_sortIn_58 (fun H locs hP hS => ?_)
        refine lv_aload_n hx hb d_NoteFile_sortIn_59 rfl (lv_at hl 0 rfl) ?_
        refine lv_dup hx hb d_NoteFile_sortIn_60 rfl ?_
        refine gC_NoteFile_eventCount hx hb hw hown hK hP (hw _ m_NoteFile_43) d_NoteFile_sortIn_61 ?_
        refine lv_iconst (v := 1) hx hb d_NoteFile_sortIn_64 ic_1 ?_
        refine lv_iadd hx hb d_NoteFile_sortIn_65 ?_
        refine pC_NoteFile_eventCount hx hb hw hown hK hD hS hP (hw _ m_NoteFile_43) d_NoteFile_sortIn_66 (fun H locs hP hS => ?_)
        exact W.vret hx hb hr (fun t ht hW => ⟨⟨((upd I 29 ((I 29) + 1)), (upd2 A 24 (y2.toNatClampNeg) y1)), rfl, h, endC_of ht hP⟩, hS.F ht⟩) hS.2.2 d_NoteFile_sortIn_69
      · have h := h.2 q
        refine lv_aload_n hx hb d_NoteFile_sortIn_20 rfl (lv_at hl 0 rfl) ?_
        refine gC_NoteFile_events hx hb hw hown hK hP (hw _ m_NoteFile_15) d_NoteFile_sortIn_21 ?_
        refine lv_iload_n hx hb d_NoteFile_sortIn_24 rfl (lv_at hl 2 rfl) ?_
        refine lv_iconst (v := 1) hx hb d_NoteFile_sortIn_25 ic_1 ?_
        refine lv_isub hx hb d_NoteFile_sortIn_26 ?_
        obtain ⟨hin, h⟩ := h
        refine lC24 hx hb hK hP hin d_NoteFile_sortIn_27 ?_
        refine lv_iload_n hx hb d_NoteFile_sortIn_28 rfl (lv_at hl 1 rfl) ?_
        refine lv_icmp_le (tgt := 52) hx hb d_NoteFile_sortIn_29 rfl (fun q => ?_) (fun q => ?_)
        · have h := h.1 q
          refine lv_aload_n hx hb d_NoteFile_sortIn_52 rfl (lv_at hl 0 rfl) ?_
          refine gC_NoteFile_events hx hb hw hown hK hP (hw _ m_NoteFile_15) d_NoteFile_sortIn_53 ?_
          refine lv_iload_n hx hb d_NoteFile_sortIn_56 rfl (lv_at hl 2 rfl) ?_
          refine lv_iload_n hx hb d_NoteFile_sortIn_57 rfl (lv_at hl 1 rfl) ?_
          obtain ⟨hin, h⟩ := h
          refine sC24 hx hb hK hD hS hP hin d_NoteFile_sortIn_58 (fun H locs hP hS => ?_)
          refine lv_aload_n hx hb d_NoteFile_sortIn_59 rfl (lv_at hl 0 rfl) ?_
          refine lv_dup hx hb d_NoteFile_sortIn_60 rfl ?_
          refine gC_NoteFile_eventCount hx hb hw hown hK hP (hw _ m_NoteFile_43) d_NoteFile_sortIn_61 ?_
          refine lv_iconst (v := 1) hx hb d_NoteFile_sortIn_64 ic_1 ?_
          refine lv_iadd hx hb d_NoteFile_sortIn_65 ?_
          refine pC_NoteFile_eventCount hx hb hw hown hK hD hS hP (hw _ m_NoteFile_43) d_NoteFile_sortIn_66 (fun H locs hP hS => ?_)
          exact W.vret hx hb hr (fun t ht hW => ⟨⟨((upd I 29 ((I 29) + 1)), (upd2 A 24 (y2.toNatClampNeg) y1)), rfl, h, endC_of ht hP⟩, hS.F ht⟩) hS.2.2 d_NoteFile_sortIn_69
        · have h := h.2 q
          refine lv_aload_n hx hb d_NoteFile_sortIn_32 rfl (lv_at hl 0 rfl) ?_
          refine gC_NoteFile_events hx hb hw hown hK hP (hw _ m_NoteFile_15) d_NoteFile_sortIn_33 ?_
          refine lv_iload_n hx hb d_NoteFile_sortIn_36 rfl (lv_at hl 2 rfl) ?_
          refine lv_aload_n hx hb d_NoteFile_sortIn_37 rfl (lv_at hl 0 rfl) ?_
          refine gC_NoteFile_events hx hb hw hown hK hP (hw _ m_NoteFile_15) d_NoteFile_sortIn_38 ?_
          refine lv_iload_n hx hb d_NoteFile_sortIn_41 rfl (lv_at hl 2 rfl) ?_
          refine lv_iconst (v := 1) hx hb d_NoteFile_sortIn_42 ic_1 ?_
          refine lv_isub hx hb d_NoteFile_sortIn_43 ?_
          obtain ⟨hin, h⟩ := h
          refine lC24 hx hb hK hP hin d_NoteFile_sortIn_44 ?_
          obtain ⟨hin, h⟩ := h
          refine sC24 hx hb hK hD hS hP hin d_NoteFile_sortIn_45 (fun H locs hP hS => ?_)
          obtain ⟨v46, ev46⟩ : ∃ z : Int32, z = y2 + (-1) := ⟨_, rfl⟩
          have h := h v46 ev46
          refine lv_iinc (k := 2) (v := v46) (lv' := [(2, .int v46), (0, .ref (a 22)), (1, .int y1)]) hx hb d_NoteFile_sortIn_46 hl rfl (by rw [ev46, ic_m1]) (by decide) rfl (fun ls hl => ?_)
          refine lv_goto (tgt := 16) hx hb d_NoteFile_sortIn_49 rfl ?_
          exact ih y1 v46 I (upd2 A 24 (y2.toNatClampNeg) (A 24 ((y2 - 1).toNatClampNeg))) _ _ _ h hP hS (lv_sub hl [1, 2, 0] rfl)
  have hl := lv_entry ([.ref (a 22), .int x1]) (n := 3) (Nat.le_of_ble_eq_true rfl)
  rw [lg_entry_eq]
  generalize (lg_sl ([.ref (a 22), .int x1]) ++ List.replicate (3 - (lg_sl ([.ref (a 22), .int x1])).length) Slot.unset).toArray = ls at hl ⊢
  have hl : lv_has ls 3 [(0, .ref (a 22)), (1, .int x1)] := hl
  unfold wp_NoteFile_sortIn at h
  refine lv_aload_n hx hb d_NoteFile_sortIn_0 rfl (lv_at hl 0 rfl) ?_
  refine gC_NoteFile_eventCount hx hb hw hown hK hP (hw _ m_NoteFile_43) d_NoteFile_sortIn_1 ?_
  refine lv_sipush (v := 128) hx hb d_NoteFile_sortIn_4 sp_128 ?_
  refine lv_icmp_lt (tgt := 11) hx hb d_NoteFile_sortIn_7 rfl (fun q => ?_) (fun q => ?_)
  · have h := h.1 q
    refine lv_aload_n hx hb d_NoteFile_sortIn_11 rfl (lv_at hl 0 rfl) ?_
    refine gC_NoteFile_eventCount hx hb hw hown hK hP (hw _ m_NoteFile_43) d_NoteFile_sortIn_12 ?_
    refine lv_topi (fun v15 ev15 => ?_)
    have h := h v15 ev15
    refine lv_istore_n (lv' := [(2, .int v15), (0, .ref (a 22)), (1, .int x1)]) hx hb d_NoteFile_sortIn_15 rfl hl (by decide) rfl (fun ls hl => ?_)
    obtain ⟨n16, h⟩ := h
    exact j16 n16 x1 v15 I A _ _ _ h hP hS (lv_sub hl [1, 2, 0] rfl)
  · have h := h.2 q
    exact W.vret hx hb hr (fun t ht hW => ⟨⟨(I, A), rfl, h, endC_of ht hP⟩, hS.F ht⟩) hS.2.2 d_NoteFile_sortIn_10
theorem k_NoteFile_sortIn {p : Program} {l : Launch} {e : Env} {R : Room} {s : State} {m : MethodId} {args : Array Value} {below : List Frame} {meth : Method} {c : Code} {H : Heap} {locs : List Loc} {cells slots : Nat} {Q : State → Prop} {cc : ByteArray} {pc nL idx : Nat} {own : String} {ls : Array Slot} {D : va_G} {cA a : Nat → Nat} {AA : Nat → Prop} {I : Nat → Int32} {A : Nat → Nat → Int32} {post : (Nat → Int32) → (Nat → Nat → Int32) → Prop} (x1 : Int32) {rest : List Value} (S : CallFix p m c cc nL s args WALL own) (hK : KC D cA a AA s) (hD : ∀ I A, va_D AA (wC cA a I A)) (hA : ∀ q : Nat, s.heap.size ≤ q → AA q) (hS : va_S AA s.heap H locs) (hP : va_P D cls (wC cA a I A) H) (hl1 : ls.size = nL) (hlink : (Cond.methodLink own idx y_NoteFile_sortIn).before args s = true) (hst : (rest.map fun v => v.category).sum ≤ 8) (hR : ({ frames := 0, cells := 0, slots := 0, locals := 0 } : Room).frames + 1 ≤ R.frames ∧ 8 + (3 + 11) + ({ frames := 0, cells := 0, slots := 0, locals := 0 } : Room).locals ≤ R.locals) (hcs : cells ≤ R.cells ∧ slots ≤ R.slots) (hdg : decode cc pc = .ok (.invokevirtual idx, 3)) (h : wp_NoteFile_sortIn x1 I A post) (kk : ∀ (I1 : Nat → Int32) (A1 : Nat → Nat → Int32) (H1 : Heap) (locs1 : List Loc), post I1 A1 → va_P D cls (wC cA a I1 A1) H1 → va_S AA s.heap H1 locs1 → W p l e R s m args below meth c H1 locs1 cells slots Q (F0 m (pc + 3) ls rest)) : W p l e R s m args below meth c H locs cells slots Q (F0 m pc ls (.int x1 :: .ref (a 22) :: rest)) :=
  va_callv (va_runV (As := [.int x1]) (rest := rest) S (c_NoteFile_sortIn l D cA a H.size x1 I A post h) ⟨callB_of 1 S.2.2.2.2 g_NoteFile_sortIn rfl rfl rfl (S.2.2.2.2 _ mi_NoteFile) hlink ⟨by decide, by decide, by decide +kernel⟩ hR, S.2.2.2.2 _ mn_NoteFile_sortIn, S.2.2.2.2 _ ms_NoteFile_sortIn⟩ (preCV hK hD hA hS hP 22 rfl rfl) rfl rfl hl1 rfl (lv_room hst) hdg hcs) hS (fun q _ z => AC_le hD hA hS q z) (fun q z => AC_le hD hA hS q z) (fun u t H1 locs1 ht _ hp hB _ _ hS1 => kk u.1 u.2 H1 locs1 hp (of_endC ht hB) hS1)
def wp_NoteFile_gatherEvents_7 (post : (Nat → Int32) → (Nat → Nat → Int32) → Prop) : Nat → Int32 → (Nat → Int32) → (Nat → Nat → Int32) → Prop
  | 0, _, _, _ => False
  | n + 1, y2, I, A => (((I 23) ≤ y2 → post I A) ∧ (¬ (I 23) ≤ y2 → (vp_in y2 64 ∧ (∀ v21 : Int32, v21 = (A 17 (y2.toNatClampNeg)) → (vp_in y2 64 ∧ (∀ v30 : Int32, v30 = v21 + (A 18 (y2.toNatClampNeg)) → (vp_in y2 64 ∧ (wp_NoteFile_sortIn (((v21 * 256) + 128) + (A 19 (y2.toNatClampNeg))) I A (fun I49 A49 => (vp_in y2 64 ∧ (wp_NoteFile_sortIn ((v30 * 256) + (A49 19 (y2.toNatClampNeg))) I49 A49 (fun I66 A66 => (∀ v69 : Int32, v69 = y2 + 1 → wp_NoteFile_gatherEvents_7 post n v69 I66 A66)))))))))))))
def wp_NoteFile_gatherEvents (I : Nat → Int32) (A : Nat → Nat → Int32) (post : (Nat → Int32) → (Nat → Nat → Int32) → Prop) : Prop := (∃ n7, wp_NoteFile_gatherEvents_7 post n7 0 (upd I 29 0) A)
theorem d_NoteFile_gatherEvents_0 : decode b_NoteFile_gatherEvents 0 = .ok (.aload_n 0, 1) := by decide +kernel
theorem d_NoteFile_gatherEvents_1 : decode b_NoteFile_gatherEvents 1 = .ok (.iconst 0, 1) := by decide +kernel
theorem d_NoteFile_gatherEvents_2 : decode b_NoteFile_gatherEvents 2 = .ok (.putfield 43, 3) := by decide +kernel
theorem d_NoteFile_gatherEvents_5 : decode b_NoteFile_gatherEvents 5 = .ok (.iconst 0, 1) := by decide +kernel
theorem d_NoteFile_gatherEvents_6 : decode b_NoteFile_gatherEvents 6 = .ok (.istore_n 2, 1) := by decide +kernel
theorem d_NoteFile_gatherEvents_7 : decode b_NoteFile_gatherEvents 7 = .ok (.iload_n 2, 1) := by decide +kernel
theorem d_NoteFile_gatherEvents_8 : decode b_NoteFile_gatherEvents 8 = .ok (.aload_n 1, 1) := by decide +kernel
theorem d_NoteFile_gatherEvents_9 : decode b_NoteFile_gatherEvents 9 = .ok (.getfield 46, 3) := by decide +kernel
theorem d_NoteFile_gatherEvents_12 : decode b_NoteFile_gatherEvents 12 = .ok (.if_icmp .ge 63, 3) := by decide +kernel
theorem d_NoteFile_gatherEvents_15 : decode b_NoteFile_gatherEvents 15 = .ok (.aload_n 1, 1) := by decide +kernel
theorem d_NoteFile_gatherEvents_16 : decode b_NoteFile_gatherEvents 16 = .ok (.getfield 51, 3) := by decide +kernel
theorem d_NoteFile_gatherEvents_19 : decode b_NoteFile_gatherEvents 19 = .ok (.iload_n 2, 1) := by decide +kernel
theorem d_NoteFile_gatherEvents_20 : decode b_NoteFile_gatherEvents 20 = .ok (.iaload, 1) := by decide +kernel
theorem d_NoteFile_gatherEvents_21 : decode b_NoteFile_gatherEvents 21 = .ok (.istore_n 3, 1) := by decide +kernel
theorem d_NoteFile_gatherEvents_22 : decode b_NoteFile_gatherEvents 22 = .ok (.iload_n 3, 1) := by decide +kernel
theorem d_NoteFile_gatherEvents_23 : decode b_NoteFile_gatherEvents 23 = .ok (.aload_n 1, 1) := by decide +kernel
theorem d_NoteFile_gatherEvents_24 : decode b_NoteFile_gatherEvents 24 = .ok (.getfield 54, 3) := by decide +kernel
theorem d_NoteFile_gatherEvents_27 : decode b_NoteFile_gatherEvents 27 = .ok (.iload_n 2, 1) := by decide +kernel
theorem d_NoteFile_gatherEvents_28 : decode b_NoteFile_gatherEvents 28 = .ok (.iaload, 1) := by decide +kernel
theorem d_NoteFile_gatherEvents_29 : decode b_NoteFile_gatherEvents 29 = .ok (.iadd, 1) := by decide +kernel
theorem d_NoteFile_gatherEvents_30 : decode b_NoteFile_gatherEvents 30 = .ok (.istore 4, 2) := by decide +kernel
theorem d_NoteFile_gatherEvents_32 : decode b_NoteFile_gatherEvents 32 = .ok (.aload_n 0, 1) := by decide +kernel
theorem d_NoteFile_gatherEvents_33 : decode b_NoteFile_gatherEvents 33 = .ok (.iload_n 3, 1) := by decide +kernel
theorem d_NoteFile_gatherEvents_34 : decode b_NoteFile_gatherEvents 34 = .ok (.sipush 256, 3) := by decide +kernel
theorem d_NoteFile_gatherEvents_37 : decode b_NoteFile_gatherEvents 37 = .ok (.imul, 1) := by decide +kernel
theorem d_NoteFile_gatherEvents_38 : decode b_NoteFile_gatherEvents 38 = .ok (.sipush 128, 3) := by decide +kernel
theorem d_NoteFile_gatherEvents_41 : decode b_NoteFile_gatherEvents 41 = .ok (.iadd, 1) := by decide +kernel
theorem d_NoteFile_gatherEvents_42 : decode b_NoteFile_gatherEvents 42 = .ok (.aload_n 1, 1) := by decide +kernel
theorem d_NoteFile_gatherEvents_43 : decode b_NoteFile_gatherEvents 43 = .ok (.getfield 57, 3) := by decide +kernel
theorem d_NoteFile_gatherEvents_46 : decode b_NoteFile_gatherEvents 46 = .ok (.iload_n 2, 1) := by decide +kernel
theorem d_NoteFile_gatherEvents_47 : decode b_NoteFile_gatherEvents 47 = .ok (.iaload, 1) := by decide +kernel
theorem d_NoteFile_gatherEvents_48 : decode b_NoteFile_gatherEvents 48 = .ok (.iadd, 1) := by decide +kernel
theorem d_NoteFile_gatherEvents_49 : decode b_NoteFile_gatherEvents 49 = .ok (.invokevirtual 60, 3) := by decide +kernel
theorem d_NoteFile_gatherEvents_52 : decode b_NoteFile_gatherEvents 52 = .ok (.aload_n 0, 1) := by decide +kernel
theorem d_NoteFile_gatherEvents_53 : decode b_NoteFile_gatherEvents 53 = .ok (.iload 4, 2) := by decide +kernel
theorem d_NoteFile_gatherEvents_55 : decode b_NoteFile_gatherEvents 55 = .ok (.sipush 256, 3) := by decide +kernel
theorem d_NoteFile_gatherEvents_58 : decode b_NoteFile_gatherEvents 58 = .ok (.imul, 1) := by decide +kernel
theorem d_NoteFile_gatherEvents_59 : decode b_NoteFile_gatherEvents 59 = .ok (.aload_n 1, 1) := by decide +kernel
theorem d_NoteFile_gatherEvents_60 : decode b_NoteFile_gatherEvents 60 = .ok (.getfield 57, 3) := by decide +kernel
theorem d_NoteFile_gatherEvents_63 : decode b_NoteFile_gatherEvents 63 = .ok (.iload_n 2, 1) := by decide +kernel
theorem d_NoteFile_gatherEvents_64 : decode b_NoteFile_gatherEvents 64 = .ok (.iaload, 1) := by decide +kernel
theorem d_NoteFile_gatherEvents_65 : decode b_NoteFile_gatherEvents 65 = .ok (.iadd, 1) := by decide +kernel
theorem d_NoteFile_gatherEvents_66 : decode b_NoteFile_gatherEvents 66 = .ok (.invokevirtual 60, 3) := by decide +kernel
theorem d_NoteFile_gatherEvents_69 : decode b_NoteFile_gatherEvents 69 = .ok (.iinc 2 1, 3) := by decide +kernel
theorem d_NoteFile_gatherEvents_72 : decode b_NoteFile_gatherEvents 72 = .ok (.goto (-65), 3) := by decide +kernel
theorem d_NoteFile_gatherEvents_75 : decode b_NoteFile_gatherEvents 75 = .ok (.return_, 1) := by decide +kernel
def w_NoteFile_gatherEvents : List Cond := .code y_NoteFile_gatherEvents b_NoteFile_gatherEvents 5 none :: WALL
theorem g_NoteFile_gatherEvents : GoodIn WALL w_NoteFile_gatherEvents := good_of mc_NoteFile_gatherEvents
set_option maxHeartbeats 4000000 in
set_option maxRecDepth 100000 in
theorem c_NoteFile_gatherEvents (l : Launch) (D : va_G) (cA a : Nat → Nat) (sz : Nat) (I : Nat → Int32) (A : Nat → Nat → Int32) (post : (Nat → Int32) → (Nat → Nat → Int32) → Prop) (h : wp_NoteFile_gatherEvents I A post) : Met l y_NoteFile_gatherEvents w_NoteFile_gatherEvents ({ frames := 1, cells := 0, slots := 0, locals := 22 }) (va_Pc [.ref (a 22), .ref (a 16)] (PreC D cA a I A sz)) (va_Qv (fun (u : StW) => post u.1 u.2) (EndC D cA a) (AC a sz)) 0 0 (AC a sz) := by
  refine Met.ofW (cc := b_NoteFile_gatherEvents) (maxL := 5) (ret := none) (by decide) rfl ?_
  intro p e s m args below meth c s₁ B hml hv
  obtain ⟨rfl, hsz, hP, hK, hD0⟩ := hv
  have hx := B.exec
  have hb := B.bytes
  have hr := B.returns
  have hts := atoms_spec (ws := w_NoteFile_gatherEvents) B.pre
  have hw := wall_of hts
  have hown : s.vm.findClass R_NoteFile = some m.cls := findClass_of_methodNamed B.named
  have hlocks := B.notSynchronized
  subst hsz
  have hD := hDC (sz := s.heap.size) hD0
  have hA : ∀ q : Nat, s.heap.size ≤ q → AC a s.heap.size q := fun q h => Or.inr h
  have hS : va_S (AC a s.heap.size) s.heap s.heap [] := va_S.rf
  have j7 : ∀ n : Nat, ∀ (y2 : Int32) (I : Nat → Int32) (A : Nat → Nat → Int32) (H : Heap) (locs : List Loc) (ls : Array Slot), wp_NoteFile_gatherEvents_7 post n y2 I A → va_P D cls (wC cA a I A) H → va_S (AC a s.heap.size) s.heap H locs → lv_has ls 5 [(0, .ref (a 22)), (1, .ref (a 16)), (2, .int y2)] → W p l e (headSpec w_NoteFile_gatherEvents ({ frames := 1, cells := 0, slots := 0, locals := 22 })).room s m [.ref (a 22), .ref (a 16)].toArray below meth c H locs 0 0 (MQ below (va_Qv (fun (u : StW) => post u.1 u.2) (EndC D cA a) (AC a s.heap.size)) [.ref (a 22), .ref (a 16)].toArray s 0 0 (AC a s.heap.size)) (F0 m 7 ls []) := by
    intro n
    induction n with
    | zero =>
      intro y2 I A H locs ls h hP hS hl
      exact False.elim h
    | succ n ih =>
      intro y2 I A H locs ls h hP hS hl
      unfold wp_NoteFile_gatherEvents_7 at h
      refine lv_iload_n hx hb d_NoteFile_gatherEvents_7 rfl (lv_at hl 2 rfl) ?_
      refine lv_aload_n hx hb d_NoteFile_gatherEvents_8 rfl (lv_at hl 1 rfl) ?_
      refine gC_Playing_count hx hb hw hown hK hP (hw _ m_NoteFile_46) d_NoteFile_gatherEvents_9 ?_
      refine lv_icmp_ge (tgt := 75) hx hb d_NoteFile_gatherEvents_12 rfl (fun q => ?_) (fun q => ?_)
      · have h := h.1 q
        exact W.vret hx hb hr (fun t ht hW => ⟨⟨(I, A), rfl, h, endC_of ht hP⟩, hS.F ht⟩) hS.2.2 d_NoteFile_gatherEvents_75
      · have h := h.2 q
        refine lv_aload_n hx hb d_NoteFile_gatherEvents_15 rfl (lv_at hl 1 rfl) ?_
        refine gC_Playing_onset hx hb hw hown hK hP (hw _ m_NoteFile_51) d_NoteFile_gatherEvents_16 ?_
        refine lv_iload_n hx hb d_NoteFile_gatherEvents_19 rfl (lv_at hl 2 rfl) ?_
        obtain ⟨hin, h⟩ := h
        refine lC17 hx hb hK hP hin d_NoteFile_gatherEvents_20 ?_
        refine lv_topi (fun v21 ev21 => ?_)
        have h := h v21 ev21
        refine lv_istore_n (lv' := [(3, .int v21), (0, .ref (a 22)), (1, .ref (a 16)), (2, .int y2)]) hx hb d_NoteFile_gatherEvents_21 rfl hl (by decide) rfl (fun ls hl => ?_)
        refine lv_iload_n hx hb d_NoteFile_gatherEvents_22 rfl (lv_at hl 0 rfl) ?_
        refine lv_aload_n hx hb d_NoteFile_gatherEvents_23 rfl (lv_at hl 2 rfl) ?_
        refine gC_Playing_duration hx hb hw hown hK hP (hw _ m_NoteFile_54) d_NoteFile_gatherEvents_24 ?_
        refine lv_iload_n hx hb d_NoteFile_gatherEvents_27 rfl (lv_at hl 3 rfl) ?_
        obtain ⟨hin, h⟩ := h
        refine lC18 hx hb hK hP hin d_NoteFile_gatherEvents_28 ?_
        refine lv_iadd hx hb d_NoteFile_gatherEvents_29 ?_
        refine lv_topi (fun v30 ev30 => ?_)
        have h := h v30 ev30
        refine lv_istore (lv' := [(4, .int v30), (3, .int v21), (0, .ref (a 22)), (1, .ref (a 16)), (2, .int y2)]) hx hb d_NoteFile_gatherEvents_30 hl (by decide) rfl (fun ls hl => ?_)
        refine lv_aload_n hx hb d_NoteFile_gatherEvents_32 rfl (lv_at hl 2 rfl) ?_
        refine lv_iload_n hx hb d_NoteFile_gatherEvents_33 rfl (lv_at hl 1 rfl) ?_
        refine lv_sipush (v := 256) hx hb d_NoteFile_gatherEvents_34 sp_256 ?_
        refine lv_imul hx hb d_NoteFile_gatherEvents_37 ?_
        refine lv_sipush (v := 128) hx hb d_NoteFile_gatherEvents_38 sp_128 ?_
        refine lv_iadd hx hb d_NoteFile_gatherEvents_41 ?_
        refine lv_aload_n hx hb d_NoteFile_gatherEvents_42 rfl (lv_at hl 3 rfl) ?_
        refine gC_Playing_pitch hx hb hw hown hK hP (hw _ m_NoteFile_57) d_NoteFile_gatherEvents_43 ?_
        refine lv_iload_n hx hb d_NoteFile_gatherEvents_46 rfl (lv_at hl 4 rfl) ?_
        obtain ⟨hin, h⟩ := h
        refine lC19 hx hb hK hP hin d_NoteFile_gatherEvents_47 ?_
        refine lv_iadd hx hb d_NoteFile_gatherEvents_48 ?_
        refine k_NoteFile_sortIn (((v21 * 256) + 128) + (A 19 (y2.toNatClampNeg))) (rest := []) ⟨hx, hb, hml, hown, hw⟩ hK hD hA hS hP hl.1 (hw _ m_NoteFile_60) (Nat.le_of_ble_eq_true rfl) ⟨Nat.le_of_ble_eq_true rfl, Nat.le_of_ble_eq_true rfl⟩ ⟨Nat.zero_le _, Nat.zero_le _⟩ d_NoteFile_gatherEvents_49 h (fun I49 A49 H locs h hP hS => ?_)
        refine lv_aload_n hx hb d_NoteFile_gatherEvents_52 rfl (lv_at hl 2 rfl) ?_
        refine lv_iload hx hb d_NoteFile_gatherEvents_53 (lv_at hl 0 rfl) ?_
        refine lv_sipush (v := 256) hx hb d_NoteFile_gatherEvents_55 sp_256 ?_
        refine lv_imul hx hb d_NoteFile_gatherEvents_58 ?_
        refine lv_aload_n hx hb d_NoteFile_gatherEvents_59 rfl (lv_at hl 3 rfl) ?_
        refine gC_Playing_pitch hx hb hw hown hK hP (hw _ m_NoteFile_57) d_NoteFile_gatherEvents_60 ?_
        refine lv_iload_n hx hb d_NoteFile_gatherEvents_63 rfl (lv_at hl 4 rfl) ?_
        obtain ⟨hin, h⟩ := h
        refine lC19 hx hb hK hP hin d_NoteFile_gatherEvents_64 ?_
        refine lv_iadd hx hb d_NoteFile_gatherEvents_65 ?_
        refine k_NoteFile_sortIn ((v30 * 256) + (A49 19 (y2.toNatClampNeg))) (rest := []) ⟨hx, hb, hml, hown, hw⟩ hK hD hA hS hP hl.1 (hw _ m_NoteFile_60) (Nat.le_of_ble_eq_true rfl) ⟨Nat.le_of_ble_eq_true rfl, Nat.le_of_ble_eq_true rfl⟩ ⟨Nat.zero_le _, Nat.zero_le _⟩ d_NoteFile_gatherEvents_66 h (fun I66 A66 H locs h hP hS => ?_)
        obtain ⟨v69, ev69⟩ : ∃ z : Int32, z = y2 + 1 := ⟨_, rfl⟩
        have h := h v69 ev69
        refine lv_iinc (k := 4) (v := v69) (lv' := [(2, .int v69), (4, .int v30), (3, .int v21), (0, .ref (a 22)), (1, .ref (a 16))]) hx hb d_NoteFile_gatherEvents_69 hl rfl (by rw [ev69, ic_1]) (by decide) rfl (fun ls hl => ?_)
        refine lv_goto (tgt := 7) hx hb d_NoteFile_gatherEvents_72 rfl ?_
        exact ih v69 I66 A66 _ _ _ h hP hS (lv_sub hl [3, 4, 0] rfl)
  have hl := lv_entry ([.ref (a 22), .ref (a 16)]) (n := 5) (Nat.le_of_ble_eq_true rfl)
  rw [lg_entry_eq]
  generalize (lg_sl ([.ref (a 22), .ref (a 16)]) ++ List.replicate (5 - (lg_sl ([.ref (a 22), .ref (a 16)])).length) Slot.unset).toArray = ls at hl ⊢
  have hl : lv_has ls 5 [(0, .ref (a 22)), (1, .ref (a 16))] := hl
  unfold wp_NoteFile_gatherEvents at h
  refine lv_aload_n hx hb d_NoteFile_gatherEvents_0 rfl (lv_at hl 0 rfl) ?_
  refine lv_iconst (v := 0) hx hb d_NoteFile_gatherEvents_1 ic_0 ?_
  refine pC_NoteFile_eventCount hx hb hw hown hK hD hS hP (hw _ m_NoteFile_43) d_NoteFile_gatherEvents_2 (fun H locs hP hS => ?_)
  refine lv_iconst (v := 0) hx hb d_NoteFile_gatherEvents_5 ic_0 ?_
  refine lv_istore_n (lv' := [(2, .int 0), (0, .ref (a 22)), (1, .ref (a 16))]) hx hb d_NoteFile_gatherEvents_6 rfl hl (by decide) rfl (fun ls hl => ?_)
  obtain ⟨n7, h⟩ := h
  exact j7 n7 0 (upd I 29 0) A _ _ _ h hP hS (lv_sub hl [1, 2, 0] rfl)
theorem k_NoteFile_gatherEvents {p : Program} {l : Launch} {e : Env} {R : Room} {s : State} {m : MethodId} {args : Array Value} {below : List Frame} {meth : Method} {c : Code} {H : Heap} {locs : List Loc} {cells slots : Nat} {Q : State → Prop} {cc : ByteArray} {pc nL idx : Nat} {own : String} {ls : Array Slot} {D : va_G} {cA a : Nat → Nat} {AA : Nat → Prop} {I : Nat → Int32} {A : Nat → Nat → Int32} {post : (Nat → Int32) → (Nat → Nat → Int32) → Prop} {rest : List Value} (S : CallFix p m c cc nL s args WALL own) (hK : KC D cA a AA s) (hD : ∀ I A, va_D AA (wC cA a I A)) (hA : ∀ q : Nat, s.heap.size ≤ q → AA q) (hS : va_S AA s.heap H locs) (hP : va_P D cls (wC cA a I A) H) (hl1 : ls.size = nL) (hlink : (Cond.methodLink own idx y_NoteFile_gatherEvents).before args s = true) (hst : (rest.map fun v => v.category).sum ≤ 8) (hR : ({ frames := 1, cells := 0, slots := 0, locals := 22 } : Room).frames + 1 ≤ R.frames ∧ 8 + (5 + 11) + ({ frames := 1, cells := 0, slots := 0, locals := 22 } : Room).locals ≤ R.locals) (hcs : cells ≤ R.cells ∧ slots ≤ R.slots) (hdg : decode cc pc = .ok (.invokevirtual idx, 3)) (h : wp_NoteFile_gatherEvents I A post) (kk : ∀ (I1 : Nat → Int32) (A1 : Nat → Nat → Int32) (H1 : Heap) (locs1 : List Loc), post I1 A1 → va_P D cls (wC cA a I1 A1) H1 → va_S AA s.heap H1 locs1 → W p l e R s m args below meth c H1 locs1 cells slots Q (F0 m (pc + 3) ls rest)) : W p l e R s m args below meth c H locs cells slots Q (F0 m pc ls (.ref (a 16) :: .ref (a 22) :: rest)) :=
  va_callv (va_runV (As := [.ref (a 16)]) (rest := rest) S (c_NoteFile_gatherEvents l D cA a H.size I A post h) ⟨callB_of 1 S.2.2.2.2 g_NoteFile_gatherEvents rfl rfl rfl (S.2.2.2.2 _ mi_NoteFile) hlink ⟨by decide, by decide, by decide +kernel⟩ hR, S.2.2.2.2 _ mn_NoteFile_gatherEvents, S.2.2.2.2 _ ms_NoteFile_gatherEvents⟩ (preCV hK hD hA hS hP 22 rfl rfl) rfl rfl hl1 rfl (lv_room hst) hdg hcs) hS (fun q _ z => AC_le hD hA hS q z) (fun q z => AC_le hD hA hS q z) (fun u t H1 locs1 ht _ hp hB _ _ hS1 => kk u.1 u.2 H1 locs1 hp (of_endC ht hB) hS1)
def wp_NoteFile_putTicks_24 (post : (Nat → Int32) → (Nat → Nat → Int32) → Prop) (y1 : Int32) (I : Nat → Int32) (A : Nat → Nat → Int32) : Prop := ((y1 < 128 → (wp_NoteFile_put (y1 - y1 / 128 * 128) I A (fun I54 A54 => post I54 A54))) ∧ (¬ y1 < 128 → (wp_NoteFile_put ((128 : Int32) + ((y1 / 128) - (y1 / 128) / 128 * 128)) I A (fun I45 A45 => (wp_NoteFile_put (y1 - y1 / 128 * 128) I45 A45 (fun I54 A54 => post I54 A54))))))
def wp_NoteFile_putTicks (x1 : Int32) (I : Nat → Int32) (A : Nat → Nat → Int32) (post : (Nat → Int32) → (Nat → Nat → Int32) → Prop) : Prop := ((x1 < 16384 → wp_NoteFile_putTicks_24 post x1 I A) ∧ (¬ x1 < 16384 → (wp_NoteFile_put ((128 : Int32) + ((x1 / 16384) - (x1 / 16384) / 128 * 128)) I A (fun I21 A21 => wp_NoteFile_putTicks_24 post x1 I21 A21))))
theorem d_NoteFile_putTicks_0 : decode b_NoteFile_putTicks 0 = .ok (.iload_n 1, 1) := by decide +kernel
theorem d_NoteFile_putTicks_1 : decode b_NoteFile_putTicks 1 = .ok (.sipush 16384, 3) := by decide +kernel
theorem d_NoteFile_putTicks_4 : decode b_NoteFile_putTicks 4 = .ok (.if_icmp .lt 20, 3) := by decide +kernel
theorem d_NoteFile_putTicks_7 : decode b_NoteFile_putTicks 7 = .ok (.aload_n 0, 1) := by decide +kernel
theorem d_NoteFile_putTicks_8 : decode b_NoteFile_putTicks 8 = .ok (.sipush 128, 3) := by decide +kernel
theorem d_NoteFile_putTicks_11 : decode b_NoteFile_putTicks 11 = .ok (.iload_n 1, 1) := by decide +kernel
theorem d_NoteFile_putTicks_12 : decode b_NoteFile_putTicks 12 = .ok (.sipush 16384, 3) := by decide +kernel
theorem d_NoteFile_putTicks_15 : decode b_NoteFile_putTicks 15 = .ok (.idiv, 1) := by decide +kernel
theorem d_NoteFile_putTicks_16 : decode b_NoteFile_putTicks 16 = .ok (.sipush 128, 3) := by decide +kernel
theorem d_NoteFile_putTicks_19 : decode b_NoteFile_putTicks 19 = .ok (.irem, 1) := by decide +kernel
theorem d_NoteFile_putTicks_20 : decode b_NoteFile_putTicks 20 = .ok (.iadd, 1) := by decide +kernel
theorem d_NoteFile_putTicks_21 : decode b_NoteFile_putTicks 21 = .ok (.invokevirtual 66, 3) := by decide +kernel
theorem d_NoteFile_putTicks_24 : decode b_NoteFile_putTicks 24 = .ok (.iload_n 1, 1) := by decide +kernel
theorem d_NoteFile_putTicks_25 : decode b_NoteFile_putTicks 25 = .ok (.sipush 128, 3) := by decide +kernel
theorem d_NoteFile_putTicks_28 : decode b_NoteFile_putTicks 28 = .ok (.if_icmp .lt 20, 3) := by decide +kernel
theorem d_NoteFile_putTicks_31 : decode b_NoteFile_putTicks 31 = .ok (.aload_n 0, 1) := by decide +kernel
theorem d_NoteFile_putTicks_32 : decode b_NoteFile_putTicks 32 = .ok (.sipush 128, 3) := by decide +kernel
theorem d_NoteFile_putTicks_35 : decode b_NoteFile_putTicks 35 = .ok (.iload_n 1, 1) := by decide +kernel
theorem d_NoteFile_putTicks_36 : decode b_NoteFile_putTicks 36 = .ok (.sipush 128, 3) := by decide +kernel
theorem d_NoteFile_putTicks_39 : decode b_NoteFile_putTicks 39 = .ok (.idiv, 1) := by decide +kernel
theorem d_NoteFile_putTicks_40 : decode b_NoteFile_putTicks 40 = .ok (.sipush 128, 3) := by decide +kernel
theorem d_NoteFile_putTicks_43 : decode b_NoteFile_putTicks 43 = .ok (.irem, 1) := by decide +kernel
theorem d_NoteFile_putTicks_44 : decode b_NoteFile_putTicks 44 = .ok (.iadd, 1) := by decide +kernel
theorem d_NoteFile_putTicks_45 : decode b_NoteFile_putTicks 45 = .ok (.invokevirtual 66, 3) := by decide +kernel
theorem d_NoteFile_putTicks_48 : decode b_NoteFile_putTicks 48 = .ok (.aload_n 0, 1) := by decide +kernel
theorem d_NoteFile_putTicks_49 : decode b_NoteFile_putTicks 49 = .ok (.iload_n 1, 1) := by decide +kernel
theorem d_NoteFile_putTicks_50 : decode b_NoteFile_putTicks 50 = .ok (.sipush 128, 3) := by decide +kernel
theorem d_NoteFile_putTicks_53 : decode b_NoteFile_putTicks 53 = .ok (.irem, 1) := by decide +kernel
theorem d_NoteFile_putTicks_54 : decode b_NoteFile_putTicks 54 = .ok (.invokevirtual 66, 3) := by decide +kernel
theorem d_NoteFile_putTicks_57 : decode b_NoteFile_putTicks 57 = .ok (.return_, 1) := by decide +kernel
def w_NoteFile_putTicks : List Cond := .code y_NoteFile_putTicks b_NoteFile_putTicks 2 none :: WALL
theorem g_NoteFile_putTicks : GoodIn WALL w_NoteFile_putTicks := good_of mc_NoteFile_putTicks
set_option maxHeartbeats 4000000 in
set_option maxRecDepth 100000 in
theorem c_NoteFile_putTicks (l : Launch) (D : va_G) (cA a : Nat → Nat) (sz : Nat) (x1 : Int32) (I : Nat → Int32) (A : Nat → Nat → Int32) (post : (Nat → Int32) → (Nat → Nat → Int32) → Prop) (h : wp_NoteFile_putTicks x1 I A post) : Met l y_NoteFile_putTicks w_NoteFile_putTicks ({ frames := 1, cells := 0, slots := 0, locals := 21 }) (va_Pc [.ref (a 22), .int x1] (PreC D cA a I A sz)) (va_Qv (fun (u : StW) => post u.1 u.2) (EndC D cA a) (AC a sz)) 0 0 (AC a sz) := by
  refine Met.ofW (cc := b_NoteFile_putTicks) (maxL := 2) (ret := none) (by decide) rfl ?_
  intro p e s m args below meth c s₁ B hml hv
  obtain ⟨rfl, hsz, hP, hK, hD0⟩ := hv
  have hx := B.exec
  have hb := B.bytes
  have hr := B.returns
  have hts := atoms_spec (ws := w_NoteFile_putTicks) B.pre
  have hw := wall_of hts
  have hown : s.vm.findClass R_NoteFile = some m.cls := findClass_of_methodNamed B.named
  have hlocks := B.notSynchronized
  subst hsz
  have hD := hDC (sz := s.heap.size) hD0
  have hA : ∀ q : Nat, s.heap.size ≤ q → AC a s.heap.size q := fun q h => Or.inr h
  have hS : va_S (AC a s.heap.size) s.heap s.heap [] := va_S.rf
  have j24 : ∀ (y1 : Int32) (I : Nat → Int32) (A : Nat → Nat → Int32) (H : Heap) (locs : List Loc) (ls : Array Slot), wp_NoteFile_putTicks_24 post y1 I A → va_P D cls (wC cA a I A) H → va_S (AC a s.heap.size) s.heap H locs → lv_has ls 2 [(0, .ref (a 22)), (1, .int y1)] → W p l e (headSpec w_NoteFile_putTicks ({ frames := 1, cells := 0, slots := 0, locals := 21 })).room s m [.ref (a 22), .int x1].toArray below meth c H locs 0 0 (MQ below (va_Qv (fun (u : StW) => post u.1 u.2) (EndC D cA a) (AC a s.heap.size)) [.ref (a 22), .int x1].toArray s 0 0 (AC a s.heap.size)) (F0 m 24 ls []) := by
    intro y1 I A H locs ls h hP hS hl
    unfold wp_NoteFile_putTicks_24 at h
    refine lv_iload_n hx hb d_NoteFile_putTicks_24 rfl (lv_at hl 1 rfl) ?_
    refine lv_sipush (v := 128) hx hb d_NoteFile_putTicks_25 sp_128 ?_
    refine lv_icmp_lt (tgt := 48) hx hb d_NoteFile_putTicks_28 rfl (fun q => ?_) (fun q => ?_)
    · have h := h.1 q
      refine lv_aload_n hx hb d_NoteFile_putTicks_48 rfl (lv_at hl 0 rfl) ?_
      refine lv_iload_n hx hb d_NoteFile_putTicks_49 rfl (lv_at hl 1 rfl) ?_
      refine lv_sipush (v := 128) hx hb d_NoteFile_putTicks_50 sp_128 ?_
      refine lv_irem hx hb d_NoteFile_putTicks_53 (by decide) ?_
      refine k_NoteFile_put (y1 - y1 / 128 * 128) (rest := []) ⟨hx, hb, hml, hown, hw⟩ hK hD hA hS hP hl.1 (hw _ m_NoteFile_66) (Nat.le_of_ble_eq_true rfl) ⟨Nat.le_of_ble_eq_true rfl, Nat.le_of_ble_eq_true rfl⟩ ⟨Nat.zero_le _, Nat.zero_le _⟩ d_NoteFile_putTicks_54 h (fun I54 A54 H locs h hP hS => ?_)
      exact W.vret hx hb hr (fun t ht hW => ⟨⟨(I54, A54), rfl, h, endC_of ht hP⟩, hS.F ht⟩) hS.2.2 d_NoteFile_putTicks_57
    · have h := h.2 q
      refine lv_aload_n hx hb d_NoteFile_putTicks_31 rfl (lv_at hl 0 rfl) ?_
      refine lv_sipush (v := 128) hx hb d_NoteFile_putTicks_32 sp_128 ?_
      refine lv_iload_n hx hb d_NoteFile_putTicks_35 rfl (lv_at hl 1 rfl) ?_
      refine lv_sipush (v := 128) hx hb d_NoteFile_putTicks_36 sp_128 ?_
      refine lv_idiv hx hb d_NoteFile_putTicks_39 (by decide) ?_
      refine lv_sipush (v := 128) hx hb d_NoteFile_putTicks_40 sp_128 ?_
      refine lv_irem hx hb d_NoteFile_putTicks_43 (by decide) ?_
      refine lv_iadd hx hb d_NoteFile_putTicks_44 ?_
      refine k_NoteFile_put ((128 : Int32) + ((y1 / 128) - (y1 / 128) / 128 * 128)) (rest := []) ⟨hx, hb, hml, hown, hw⟩ hK hD hA hS hP hl.1 (hw _ m_NoteFile_66) (Nat.le_of_ble_eq_true rfl) ⟨Nat.le_of_ble_eq_true rfl, Nat.le_of_ble_eq_true rfl⟩ ⟨Nat.zero_le _, Nat.zero_le _⟩ d_NoteFile_putTicks_45 h (fun I45 A45 H locs h hP hS => ?_)
      refine lv_aload_n hx hb d_NoteFile_putTicks_48 rfl (lv_at hl 0 rfl) ?_
      refine lv_iload_n hx hb d_NoteFile_putTicks_49 rfl (lv_at hl 1 rfl) ?_
      refine lv_sipush (v := 128) hx hb d_NoteFile_putTicks_50 sp_128 ?_
      refine lv_irem hx hb d_NoteFile_putTicks_53 (by decide) ?_
      refine k_NoteFile_put (y1 - y1 / 128 * 128) (rest := []) ⟨hx, hb, hml, hown, hw⟩ hK hD hA hS hP hl.1 (hw _ m_NoteFile_66) (Nat.le_of_ble_eq_true rfl) ⟨Nat.le_of_ble_eq_true rfl, Nat.le_of_ble_eq_true rfl⟩ ⟨Nat.zero_le _, Nat.zero_le _⟩ d_NoteFile_putTicks_54 h (fun I54 A54 H locs h hP hS => ?_)
      exact W.vret hx hb hr (fun t ht hW => ⟨⟨(I54, A54), rfl, h, endC_of ht hP⟩, hS.F ht⟩) hS.2.2 d_NoteFile_putTicks_57
  have hl := lv_entry ([.ref (a 22), .int x1]) (n := 2) (Nat.le_of_ble_eq_true rfl)
  rw [lg_entry_eq]
  generalize (lg_sl ([.ref (a 22), .int x1]) ++ List.replicate (2 - (lg_sl ([.ref (a 22), .int x1])).length) Slot.unset).toArray = ls at hl ⊢
  have hl : lv_has ls 2 [(0, .ref (a 22)), (1, .int x1)] := hl
  unfold wp_NoteFile_putTicks at h
  refine lv_iload_n hx hb d_NoteFile_putTicks_0 rfl (lv_at hl 1 rfl) ?_
  refine lv_sipush (v := 16384) hx hb d_NoteFile_putTicks_1 sp_16384 ?_
  refine lv_icmp_lt (tgt := 24) hx hb d_NoteFile_putTicks_4 rfl (fun q => ?_) (fun q => ?_)
  · have h := h.1 q
    exact j24 x1 I A _ _ _ h hP hS (lv_sub hl [0, 1] rfl)
  · have h := h.2 q
    refine lv_aload_n hx hb d_NoteFile_putTicks_7 rfl (lv_at hl 0 rfl) ?_
    refine lv_sipush (v := 128) hx hb d_NoteFile_putTicks_8 sp_128 ?_
    refine lv_iload_n hx hb d_NoteFile_putTicks_11 rfl (lv_at hl 1 rfl) ?_
    refine lv_sipush (v := 16384) hx hb d_NoteFile_putTicks_12 sp_16384 ?_
    refine lv_idiv hx hb d_NoteFile_putTicks_15 (by decide) ?_
    refine lv_sipush (v := 128) hx hb d_NoteFile_putTicks_16 sp_128 ?_
    refine lv_irem hx hb d_NoteFile_putTicks_19 (by decide) ?_
    refine lv_iadd hx hb d_NoteFile_putTicks_20 ?_
    refine k_NoteFile_put ((128 : Int32) + ((x1 / 16384) - (x1 / 16384) / 128 * 128)) (rest := []) ⟨hx, hb, hml, hown, hw⟩ hK hD hA hS hP hl.1 (hw _ m_NoteFile_66) (Nat.le_of_ble_eq_true rfl) ⟨Nat.le_of_ble_eq_true rfl, Nat.le_of_ble_eq_true rfl⟩ ⟨Nat.zero_le _, Nat.zero_le _⟩ d_NoteFile_putTicks_21 h (fun I21 A21 H locs h hP hS => ?_)
    exact j24 x1 I21 A21 _ _ _ h hP hS (lv_sub hl [0, 1] rfl)
theorem k_NoteFile_putTicks {p : Program} {l : Launch} {e : Env} {R : Room} {s : State} {m : MethodId} {args : Array Value} {below : List Frame} {meth : Method} {c : Code} {H : Heap} {locs : List Loc} {cells slots : Nat} {Q : State → Prop} {cc : ByteArray} {pc nL idx : Nat} {own : String} {ls : Array Slot} {D : va_G} {cA a : Nat → Nat} {AA : Nat → Prop} {I : Nat → Int32} {A : Nat → Nat → Int32} {post : (Nat → Int32) → (Nat → Nat → Int32) → Prop} (x1 : Int32) {rest : List Value} (S : CallFix p m c cc nL s args WALL own) (hK : KC D cA a AA s) (hD : ∀ I A, va_D AA (wC cA a I A)) (hA : ∀ q : Nat, s.heap.size ≤ q → AA q) (hS : va_S AA s.heap H locs) (hP : va_P D cls (wC cA a I A) H) (hl1 : ls.size = nL) (hlink : (Cond.methodLink own idx y_NoteFile_putTicks).before args s = true) (hst : (rest.map fun v => v.category).sum ≤ 8) (hR : ({ frames := 1, cells := 0, slots := 0, locals := 21 } : Room).frames + 1 ≤ R.frames ∧ 8 + (2 + 11) + ({ frames := 1, cells := 0, slots := 0, locals := 21 } : Room).locals ≤ R.locals) (hcs : cells ≤ R.cells ∧ slots ≤ R.slots) (hdg : decode cc pc = .ok (.invokevirtual idx, 3)) (h : wp_NoteFile_putTicks x1 I A post) (kk : ∀ (I1 : Nat → Int32) (A1 : Nat → Nat → Int32) (H1 : Heap) (locs1 : List Loc), post I1 A1 → va_P D cls (wC cA a I1 A1) H1 → va_S AA s.heap H1 locs1 → W p l e R s m args below meth c H1 locs1 cells slots Q (F0 m (pc + 3) ls rest)) : W p l e R s m args below meth c H locs cells slots Q (F0 m pc ls (.int x1 :: .ref (a 22) :: rest)) :=
  va_callv (va_runV (As := [.int x1]) (rest := rest) S (c_NoteFile_putTicks l D cA a H.size x1 I A post h) ⟨callB_of 1 S.2.2.2.2 g_NoteFile_putTicks rfl rfl rfl (S.2.2.2.2 _ mi_NoteFile) hlink ⟨by decide, by decide, by decide +kernel⟩ hR, S.2.2.2.2 _ mn_NoteFile_putTicks, S.2.2.2.2 _ ms_NoteFile_putTicks⟩ (preCV hK hD hA hS hP 22 rfl rfl) rfl rfl hl1 rfl (lv_room hst) hdg hcs) hS (fun q _ z => AC_le hD hA hS q z) (fun q z => AC_le hD hA hS q z) (fun u t H1 locs1 ht _ hp hB _ _ hS1 => kk u.1 u.2 H1 locs1 hp (of_endC ht hB) hS1)
def wp_NoteFile_putEvents_60 (k4 : Int32 → Int32 → (Nat → Int32) → (Nat → Nat → Int32) → Prop) (post : (Nat → Int32) → (Nat → Nat → Int32) → Prop) (y2 : Int32) (y3 : Int32) (y4 : Int32) (s0 : Int32) (I : Nat → Int32) (A : Nat → Nat → Int32) : Prop := (wp_NoteFile_put s0 I A (fun I60 A60 => (wp_NoteFile_put (y4 - y4 / 128 * 128) I60 A60 (fun I70 A70 => (wp_NoteFile_put 64 I70 A70 (fun I76 A76 => (∀ v81 : Int32, v81 = y2 + 1 → k4 y3 v81 I76 A76)))))))
def wp_NoteFile_putEvents_4 (post : (Nat → Int32) → (Nat → Nat → Int32) → Prop) : Nat → Int32 → Int32 → (Nat → Int32) → (Nat → Nat → Int32) → Prop
  | 0, _, _, _, _ => False
  | n + 1, y1, y2, I, A => (((I 29) ≤ y2 → post I A) ∧ (¬ (I 29) ≤ y2 → (vp_in y2 128 ∧ (∀ v22 : Int32, v22 = (A 24 (y2.toNatClampNeg)) / 256 → (vp_in y2 128 ∧ (∀ v33 : Int32, v33 = (A 24 (y2.toNatClampNeg)) - (A 24 (y2.toNatClampNeg)) / 256 * 256 → (wp_NoteFile_putTicks (v22 - y1) I A (fun I39 A39 => ((v33 < 128 → wp_NoteFile_putEvents_60 (fun y1 y2 I A => wp_NoteFile_putEvents_4 post n y1 y2 I A) post y2 v22 v33 128 I39 A39) ∧ (¬ v33 < 128 → wp_NoteFile_putEvents_60 (fun y1 y2 I A => wp_NoteFile_putEvents_4 post n y1 y2 I A) post y2 v22 v33 144 I39 A39))))))))))
def wp_NoteFile_putEvents (I : Nat → Int32) (A : Nat → Nat → Int32) (post : (Nat → Int32) → (Nat → Nat → Int32) → Prop) : Prop := (∃ n4, wp_NoteFile_putEvents_4 post n4 0 0 I A)
theorem d_NoteFile_putEvents_0 : decode b_NoteFile_putEvents 0 = .ok (.iconst 0, 1) := by decide +kernel
theorem d_NoteFile_putEvents_1 : decode b_NoteFile_putEvents 1 = .ok (.istore_n 1, 1) := by decide +kernel
theorem d_NoteFile_putEvents_2 : decode b_NoteFile_putEvents 2 = .ok (.iconst 0, 1) := by decide +kernel
theorem d_NoteFile_putEvents_3 : decode b_NoteFile_putEvents 3 = .ok (.istore_n 2, 1) := by decide +kernel
theorem d_NoteFile_putEvents_4 : decode b_NoteFile_putEvents 4 = .ok (.iload_n 2, 1) := by decide +kernel
theorem d_NoteFile_putEvents_5 : decode b_NoteFile_putEvents 5 = .ok (.aload_n 0, 1) := by decide +kernel
theorem d_NoteFile_putEvents_6 : decode b_NoteFile_putEvents 6 = .ok (.getfield 43, 3) := by decide +kernel
theorem d_NoteFile_putEvents_9 : decode b_NoteFile_putEvents 9 = .ok (.if_icmp .ge 78, 3) := by decide +kernel
theorem d_NoteFile_putEvents_12 : decode b_NoteFile_putEvents 12 = .ok (.aload_n 0, 1) := by decide +kernel
theorem d_NoteFile_putEvents_13 : decode b_NoteFile_putEvents 13 = .ok (.getfield 15, 3) := by decide +kernel
theorem d_NoteFile_putEvents_16 : decode b_NoteFile_putEvents 16 = .ok (.iload_n 2, 1) := by decide +kernel
theorem d_NoteFile_putEvents_17 : decode b_NoteFile_putEvents 17 = .ok (.iaload, 1) := by decide +kernel
theorem d_NoteFile_putEvents_18 : decode b_NoteFile_putEvents 18 = .ok (.sipush 256, 3) := by decide +kernel
theorem d_NoteFile_putEvents_21 : decode b_NoteFile_putEvents 21 = .ok (.idiv, 1) := by decide +kernel
theorem d_NoteFile_putEvents_22 : decode b_NoteFile_putEvents 22 = .ok (.istore_n 3, 1) := by decide +kernel
theorem d_NoteFile_putEvents_23 : decode b_NoteFile_putEvents 23 = .ok (.aload_n 0, 1) := by decide +kernel
theorem d_NoteFile_putEvents_24 : decode b_NoteFile_putEvents 24 = .ok (.getfield 15, 3) := by decide +kernel
theorem d_NoteFile_putEvents_27 : decode b_NoteFile_putEvents 27 = .ok (.iload_n 2, 1) := by decide +kernel
theorem d_NoteFile_putEvents_28 : decode b_NoteFile_putEvents 28 = .ok (.iaload, 1) := by decide +kernel
theorem d_NoteFile_putEvents_29 : decode b_NoteFile_putEvents 29 = .ok (.sipush 256, 3) := by decide +kernel
theorem d_NoteFile_putEvents_32 : decode b_NoteFile_putEvents 32 = .ok (.irem, 1) := by decide +kernel
theorem d_NoteFile_putEvents_33 : decode b_NoteFile_putEvents 33 = .ok (.istore 4, 2) := by decide +kernel
theorem d_NoteFile_putEvents_35 : decode b_NoteFile_putEvents 35 = .ok (.aload_n 0, 1) := by decide +kernel
theorem d_NoteFile_putEvents_36 : decode b_NoteFile_putEvents 36 = .ok (.iload_n 3, 1) := by decide +kernel
theorem d_NoteFile_putEvents_37 : decode b_NoteFile_putEvents 37 = .ok (.iload_n 1, 1) := by decide +kernel
theorem d_NoteFile_putEvents_38 : decode b_NoteFile_putEvents 38 = .ok (.isub, 1) := by decide +kernel
theorem d_NoteFile_putEvents_39 : decode b_NoteFile_putEvents 39 = .ok (.invokevirtual 63, 3) := by decide +kernel
theorem d_NoteFile_putEvents_42 : decode b_NoteFile_putEvents 42 = .ok (.aload_n 0, 1) := by decide +kernel
theorem d_NoteFile_putEvents_43 : decode b_NoteFile_putEvents 43 = .ok (.iload 4, 2) := by decide +kernel
theorem d_NoteFile_putEvents_45 : decode b_NoteFile_putEvents 45 = .ok (.sipush 128, 3) := by decide +kernel
theorem d_NoteFile_putEvents_48 : decode b_NoteFile_putEvents 48 = .ok (.if_icmp .lt 9, 3) := by decide +kernel
theorem d_NoteFile_putEvents_51 : decode b_NoteFile_putEvents 51 = .ok (.sipush 144, 3) := by decide +kernel
theorem d_NoteFile_putEvents_54 : decode b_NoteFile_putEvents 54 = .ok (.goto 6, 3) := by decide +kernel
theorem d_NoteFile_putEvents_57 : decode b_NoteFile_putEvents 57 = .ok (.sipush 128, 3) := by decide +kernel
theorem d_NoteFile_putEvents_60 : decode b_NoteFile_putEvents 60 = .ok (.invokevirtual 66, 3) := by decide +kernel
theorem d_NoteFile_putEvents_63 : decode b_NoteFile_putEvents 63 = .ok (.aload_n 0, 1) := by decide +kernel
theorem d_NoteFile_putEvents_64 : decode b_NoteFile_putEvents 64 = .ok (.iload 4, 2) := by decide +kernel
theorem d_NoteFile_putEvents_66 : decode b_NoteFile_putEvents 66 = .ok (.sipush 128, 3) := by decide +kernel
theorem d_NoteFile_putEvents_69 : decode b_NoteFile_putEvents 69 = .ok (.irem, 1) := by decide +kernel
theorem d_NoteFile_putEvents_70 : decode b_NoteFile_putEvents 70 = .ok (.invokevirtual 66, 3) := by decide +kernel
theorem d_NoteFile_putEvents_73 : decode b_NoteFile_putEvents 73 = .ok (.aload_n 0, 1) := by decide +kernel
theorem d_NoteFile_putEvents_74 : decode b_NoteFile_putEvents 74 = .ok (.bipush 64, 2) := by decide +kernel
theorem d_NoteFile_putEvents_76 : decode b_NoteFile_putEvents 76 = .ok (.invokevirtual 66, 3) := by decide +kernel
theorem d_NoteFile_putEvents_79 : decode b_NoteFile_putEvents 79 = .ok (.iload_n 3, 1) := by decide +kernel
theorem d_NoteFile_putEvents_80 : decode b_NoteFile_putEvents 80 = .ok (.istore_n 1, 1) := by decide +kernel
theorem d_NoteFile_putEvents_81 : decode b_NoteFile_putEvents 81 = .ok (.iinc 2 1, 3) := by decide +kernel
theorem d_NoteFile_putEvents_84 : decode b_NoteFile_putEvents 84 = .ok (.goto (-80), 3) := by decide +kernel
theorem d_NoteFile_putEvents_87 : decode b_NoteFile_putEvents 87 = .ok (.return_, 1) := by decide +kernel
def w_NoteFile_putEvents : List Cond := .code y_NoteFile_putEvents b_NoteFile_putEvents 5 none :: WALL
theorem g_NoteFile_putEvents : GoodIn WALL w_NoteFile_putEvents := good_of mc_NoteFile_putEvents
set_option maxHeartbeats 4000000 in
set_option maxRecDepth 100000 in
theorem c_NoteFile_putEvents (l : Launch) (D : va_G) (cA a : Nat → Nat) (sz : Nat) (I : Nat → Int32) (A : Nat → Nat → Int32) (post : (Nat → Int32) → (Nat → Nat → Int32) → Prop) (h : wp_NoteFile_putEvents I A post) : Met l y_NoteFile_putEvents w_NoteFile_putEvents ({ frames := 2, cells := 0, slots := 0, locals := 42 }) (va_Pc [.ref (a 22)] (PreC D cA a I A sz)) (va_Qv (fun (u : StW) => post u.1 u.2) (EndC D cA a) (AC a sz)) 0 0 (AC a sz) := by
  refine Met.ofW (cc := b_NoteFile_putEvents) (maxL := 5) (ret := none) (by decide) rfl ?_
  intro p e s m args below meth c s₁ B hml hv
  obtain ⟨rfl, hsz, hP, hK, hD0⟩ := hv
  have hx := B.exec
  have hb := B.bytes
  have hr := B.returns
  have hts := atoms_spec (ws := w_NoteFile_putEvents) B.pre
  have hw := wall_of hts
  have hown : s.vm.findClass R_NoteFile = some m.cls := findClass_of_methodNamed B.named
  have hlocks := B.notSynchronized
  subst hsz
  have hD := hDC (sz := s.heap.size) hD0
  have hA : ∀ q : Nat, s.heap.size ≤ q → AC a s.heap.size q := fun q h => Or.inr h
  have hS : va_S (AC a s.heap.size) s.heap s.heap [] := va_S.rf
  have j60 : ∀ (k4 : Int32 → Int32 → (Nat → Int32) → (Nat → Nat → Int32) → Prop) (hk4 : ∀ (y1 : Int32) (y2 : Int32) (I : Nat → Int32) (A : Nat → Nat → Int32) (H : Heap) (locs : List Loc) (ls : Array Slot), k4 y1 y2 I A → va_P D cls (wC cA a I A) H → va_S (AC a s.heap.size) s.heap H locs → lv_has ls 5 [(0, .ref (a 22)), (1, .int y1), (2, .int y2)] → W p l e (headSpec w_NoteFile_putEvents ({ frames := 2, cells := 0, slots := 0, locals := 42 })).room s m [.ref (a 22)].toArray below meth c H locs 0 0 (MQ below (va_Qv (fun (u : StW) => post u.1 u.2) (EndC D cA a) (AC a s.heap.size)) [.ref (a 22)].toArray s 0 0 (AC a s.heap.size)) (F0 m 4 ls [])), ∀ (y2 : Int32) (y3 : Int32) (y4 : Int32) (s0 : Int32) (I : Nat → Int32) (A : Nat → Nat → Int32) (H : Heap) (locs : List Loc) (ls : Array Slot), wp_NoteFile_putEvents_60 k4 post y2 y3 y4 s0 I A → va_P D cls (wC cA a I A) H → va_S (AC a s.heap.size) s.heap H locs → lv_has ls 5 [(0, .ref (a 22)), (2, .int y2), (3, .int y3), (4, .int y4)] → W p l e (headSpec w_NoteFile_putEvents ({ frames := 2, cells := 0, slots := 0, locals := 42 })).room s m [.ref (a 22)].toArray below meth c H locs 0 0 (MQ below (va_Qv (fun (u : StW) => post u.1 u.2) (EndC D cA a) (AC a s.heap.size)) [.ref (a 22)].toArray s 0 0 (AC a s.heap.size)) (F0 m 60 ls [.int s0, .ref (a 22)]) := by
    intro k4 hk4
    intro y2 y3 y4 s0 I A H locs ls h hP hS hl
    unfold wp_NoteFile_putEvents_60 at h
    refine k_NoteFile_put s0 (rest := []) ⟨hx, hb, hml, hown, hw⟩ hK hD hA hS hP hl.1 (hw _ m_NoteFile_66) (Nat.le_of_ble_eq_true rfl) ⟨Nat.le_of_ble_eq_true rfl, Nat.le_of_ble_eq_true rfl⟩ ⟨Nat.zero_le _, Nat.zero_le _⟩ d_NoteFile_putEvents_60 h (fun I60 A60 H locs h hP hS => ?_)
    refine lv_aload_n hx hb d_NoteFile_putEvents_63 rfl (lv_at hl 0 rfl) ?_
    refine lv_iload hx hb d_NoteFile_putEvents_64 (lv_at hl 3 rfl) ?_
    refine lv_sipush (v := 128) hx hb d_NoteFile_putEvents_66 sp_128 ?_
    refine lv_irem hx hb d_NoteFile_putEvents_69 (by decide) ?_
    refine k_NoteFile_put (y4 - y4 / 128 * 128) (rest := []) ⟨hx, hb, hml, hown, hw⟩ hK hD hA hS hP hl.1 (hw _ m_NoteFile_66) (Nat.le_of_ble_eq_true rfl) ⟨Nat.le_of_ble_eq_true rfl, Nat.le_of_ble_eq_true rfl⟩ ⟨Nat.zero_le _, Nat.zero_le _⟩ d_NoteFile_putEvents_70 h (fun I70 A70 H locs h hP hS => ?_)
    refine lv_aload_n hx hb d_NoteFile_putEvents_73 rfl (lv_at hl 0 rfl) ?_
    refine lv_bipush (v := 64) hx hb d_NoteFile_putEvents_74 bp_64 ?_
    refine k_NoteFile_put 64 (rest := []) ⟨hx, hb, hml, hown, hw⟩ hK hD hA hS hP hl.1 (hw _ m_NoteFile_66) (Nat.le_of_ble_eq_true rfl) ⟨Nat.le_of_ble_eq_true rfl, Nat.le_of_ble_eq_true rfl⟩ ⟨Nat.zero_le _, Nat.zero_le _⟩ d_NoteFile_putEvents_76 h (fun I76 A76 H locs h hP hS => ?_)
    refine lv_iload_n hx hb d_NoteFile_putEvents_79 rfl (lv_at hl 2 rfl) ?_
    refine lv_istore_n (lv' := [(1, .int y3), (0, .ref (a 22)), (2, .int y2), (3, .int y3), (4, .int y4)]) hx hb d_NoteFile_putEvents_80 rfl hl (by decide) rfl (fun ls hl => ?_)
    obtain ⟨v81, ev81⟩ : ∃ z : Int32, z = y2 + 1 := ⟨_, rfl⟩
    have h := h v81 ev81
    refine lv_iinc (k := 2) (v := v81) (lv' := [(2, .int v81), (1, .int y3), (0, .ref (a 22)), (3, .int y3), (4, .int y4)]) hx hb d_NoteFile_putEvents_81 hl rfl (by rw [ev81, ic_1]) (by decide) rfl (fun ls hl => ?_)
    refine lv_goto (tgt := 4) hx hb d_NoteFile_putEvents_84 rfl ?_
    exact hk4 y3 v81 I76 A76 _ _ _ h hP hS (lv_sub hl [2, 1, 0] rfl)
  have j4 : ∀ n : Nat, ∀ (y1 : Int32) (y2 : Int32) (I : Nat → Int32) (A : Nat → Nat → Int32) (H : Heap) (locs : List Loc) (ls : Array Slot), wp_NoteFile_putEvents_4 post n y1 y2 I A → va_P D cls (wC cA a I A) H → va_S (AC a s.heap.size) s.heap H locs → lv_has ls 5 [(0, .ref (a 22)), (1, .int y1), (2, .int y2)] → W p l e (headSpec w_NoteFile_putEvents ({ frames := 2, cells := 0, slots := 0, locals := 42 })).room s m [.ref (a 22)].toArray below meth c H locs 0 0 (MQ below (va_Qv (fun (u : StW) => post u.1 u.2) (EndC D cA a) (AC a s.heap.size)) [.ref (a 22)].toArray s 0 0 (AC a s.heap.size)) (F0 m 4 ls []) := by
    intro n
    induction n with
    | zero =>
      intro y1 y2 I A H locs ls h hP hS hl
      exact False.elim h
    | succ n ih =>
      intro y1 y2 I A H locs ls h hP hS hl
      unfold wp_NoteFile_putEvents_4 at h
      refine lv_iload_n hx hb d_NoteFile_putEvents_4 rfl (lv_at hl 2 rfl) ?_
      refine lv_aload_n hx hb d_NoteFile_putEvents_5 rfl (lv_at hl 0 rfl) ?_
      refine gC_NoteFile_eventCount hx hb hw hown hK hP (hw _ m_NoteFile_43) d_NoteFile_putEvents_6 ?_
      refine lv_icmp_ge (tgt := 87) hx hb d_NoteFile_putEvents_9 rfl (fun q => ?_) (fun q => ?_)
      · have h := h.1 q
        exact W.vret hx hb hr (fun t ht hW => ⟨⟨(I, A), rfl, h, endC_of ht hP⟩, hS.F ht⟩) hS.2.2 d_NoteFile_putEvents_87
      · have h := h.2 q
        refine lv_aload_n hx hb d_NoteFile_putEvents_12 rfl (lv_at hl 0 rfl) ?_
        refine gC_NoteFile_events hx hb hw hown hK hP (hw _ m_NoteFile_15) d_NoteFile_putEvents_13 ?_
        refine lv_iload_n hx hb d_NoteFile_putEvents_16 rfl (lv_at hl 2 rfl) ?_
        obtain ⟨hin, h⟩ := h
        refine lC24 hx hb hK hP hin d_NoteFile_putEvents_17 ?_
        refine lv_sipush (v := 256) hx hb d_NoteFile_putEvents_18 sp_256 ?_
        refine lv_idiv hx hb d_NoteFile_putEvents_21 (by decide) ?_
        refine lv_topi (fun v22 ev22 => ?_)
        have h := h v22 ev22
        refine lv_istore_n (lv' := [(3, .int v22), (0, .ref (a 22)), (1, .int y1), (2, .int y2)]) hx hb d_NoteFile_putEvents_22 rfl hl (by decide) rfl (fun ls hl => ?_)
        refine lv_aload_n hx hb d_NoteFile_putEvents_23 rfl (lv_at hl 1 rfl) ?_
        refine gC_NoteFile_events hx hb hw hown hK hP (hw _ m_NoteFile_15) d_NoteFile_putEvents_24 ?_
        refine lv_iload_n hx hb d_NoteFile_putEvents_27 rfl (lv_at hl 3 rfl) ?_
        obtain ⟨hin, h⟩ := h
        refine lC24 hx hb hK hP hin d_NoteFile_putEvents_28 ?_
        refine lv_sipush (v := 256) hx hb d_NoteFile_putEvents_29 sp_256 ?_
        refine lv_irem hx hb d_NoteFile_putEvents_32 (by decide) ?_
        refine lv_topi (fun v33 ev33 => ?_)
        have h := h v33 ev33
        refine lv_istore (lv' := [(4, .int v33), (3, .int v22), (0, .ref (a 22)), (1, .int y1), (2, .int y2)]) hx hb d_NoteFile_putEvents_33 hl (by decide) rfl (fun ls hl => ?_)
        refine lv_aload_n hx hb d_NoteFile_putEvents_35 rfl (lv_at hl 2 rfl) ?_
        refine lv_iload_n hx hb d_NoteFile_putEvents_36 rfl (lv_at hl 1 rfl) ?_
        refine lv_iload_n hx hb d_NoteFile_putEvents_37 rfl (lv_at hl 3 rfl) ?_
        refine lv_isub hx hb d_NoteFile_putEvents_38 ?_
        refine k_NoteFile_putTicks (v22 - y1) (rest := []) ⟨hx, hb, hml, hown, hw⟩ hK hD hA hS hP hl.1 (hw _ m_NoteFile_63) (Nat.le_of_ble_eq_true rfl) ⟨Nat.le_of_ble_eq_true rfl, Nat.le_of_ble_eq_true rfl⟩ ⟨Nat.zero_le _, Nat.zero_le _⟩ d_NoteFile_putEvents_39 h (fun I39 A39 H locs h hP hS => ?_)
        refine lv_aload_n hx hb d_NoteFile_putEvents_42 rfl (lv_at hl 2 rfl) ?_
        refine lv_iload hx hb d_NoteFile_putEvents_43 (lv_at hl 0 rfl) ?_
        refine lv_sipush (v := 128) hx hb d_NoteFile_putEvents_45 sp_128 ?_
        refine lv_icmp_lt (tgt := 57) hx hb d_NoteFile_putEvents_48 rfl (fun q => ?_) (fun q => ?_)
        · have h := h.1 q
          refine lv_sipush (v := 128) hx hb d_NoteFile_putEvents_57 sp_128 ?_
          exact (j60 _ ih) y2 v22 v33 128 I39 A39 _ _ _ h hP hS (lv_sub hl [2, 4, 1, 0] rfl)
        · have h := h.2 q
          refine lv_sipush (v := 144) hx hb d_NoteFile_putEvents_51 sp_144 ?_
          refine lv_goto (tgt := 60) hx hb d_NoteFile_putEvents_54 rfl ?_
          exact (j60 _ ih) y2 v22 v33 144 I39 A39 _ _ _ h hP hS (lv_sub hl [2, 4, 1, 0] rfl)
  have hl := lv_entry ([.ref (a 22)]) (n := 5) (Nat.le_of_ble_eq_true rfl)
  rw [lg_entry_eq]
  generalize (lg_sl ([.ref (a 22)]) ++ List.replicate (5 - (lg_sl ([.ref (a 22)])).length) Slot.unset).toArray = ls at hl ⊢
  have hl : lv_has ls 5 [(0, .ref (a 22))] := hl
  unfold wp_NoteFile_putEvents at h
  refine lv_iconst (v := 0) hx hb d_NoteFile_putEvents_0 ic_0 ?_
  refine lv_istore_n (lv' := [(1, .int 0), (0, .ref (a 22))]) hx hb d_NoteFile_putEvents_1 rfl hl (by decide) rfl (fun ls hl => ?_)
  refine lv_iconst (v := 0) hx hb d_NoteFile_putEvents_2 ic_0 ?_
  refine lv_istore_n (lv' := [(2, .int 0), (1, .int 0), (0, .ref (a 22))]) hx hb d_NoteFile_putEvents_3 rfl hl (by decide) rfl (fun ls hl => ?_)
  obtain ⟨n4, h⟩ := h
  exact j4 n4 0 0 I A _ _ _ h hP hS (lv_sub hl [2, 1, 0] rfl)
theorem k_NoteFile_putEvents {p : Program} {l : Launch} {e : Env} {R : Room} {s : State} {m : MethodId} {args : Array Value} {below : List Frame} {meth : Method} {c : Code} {H : Heap} {locs : List Loc} {cells slots : Nat} {Q : State → Prop} {cc : ByteArray} {pc nL idx : Nat} {own : String} {ls : Array Slot} {D : va_G} {cA a : Nat → Nat} {AA : Nat → Prop} {I : Nat → Int32} {A : Nat → Nat → Int32} {post : (Nat → Int32) → (Nat → Nat → Int32) → Prop} {rest : List Value} (S : CallFix p m c cc nL s args WALL own) (hK : KC D cA a AA s) (hD : ∀ I A, va_D AA (wC cA a I A)) (hA : ∀ q : Nat, s.heap.size ≤ q → AA q) (hS : va_S AA s.heap H locs) (hP : va_P D cls (wC cA a I A) H) (hl1 : ls.size = nL) (hlink : (Cond.methodLink own idx y_NoteFile_putEvents).before args s = true) (hst : (rest.map fun v => v.category).sum ≤ 8) (hR : ({ frames := 2, cells := 0, slots := 0, locals := 42 } : Room).frames + 1 ≤ R.frames ∧ 8 + (5 + 11) + ({ frames := 2, cells := 0, slots := 0, locals := 42 } : Room).locals ≤ R.locals) (hcs : cells ≤ R.cells ∧ slots ≤ R.slots) (hdg : decode cc pc = .ok (.invokevirtual idx, 3)) (h : wp_NoteFile_putEvents I A post) (kk : ∀ (I1 : Nat → Int32) (A1 : Nat → Nat → Int32) (H1 : Heap) (locs1 : List Loc), post I1 A1 → va_P D cls (wC cA a I1 A1) H1 → va_S AA s.heap H1 locs1 → W p l e R s m args below meth c H1 locs1 cells slots Q (F0 m (pc + 3) ls rest)) : W p l e R s m args below meth c H locs cells slots Q (F0 m pc ls (.ref (a 22) :: rest)) :=
  va_callv (va_runV (As := []) (rest := rest) S (c_NoteFile_putEvents l D cA a H.size I A post h) ⟨callB_of 0 S.2.2.2.2 g_NoteFile_putEvents rfl rfl rfl (S.2.2.2.2 _ mi_NoteFile) hlink ⟨by decide, by decide, by decide +kernel⟩ hR, S.2.2.2.2 _ mn_NoteFile_putEvents, S.2.2.2.2 _ ms_NoteFile_putEvents⟩ (preCV hK hD hA hS hP 22 rfl rfl) rfl rfl hl1 rfl (lv_room hst) hdg hcs) hS (fun q _ z => AC_le hD hA hS q z) (fun q z => AC_le hD hA hS q z) (fun u t H1 locs1 ht _ hp hB _ _ hS1 => kk u.1 u.2 H1 locs1 hp (of_endC ht hB) hS1)
def wp_NoteFile_putAll_64_8 (post : (Nat → Int32) → (Nat → Nat → Int32) → Prop) : Nat → Int32 → Int32 → (Nat → Int32) → (Nat → Nat → Int32) → Prop
  | 0, _, _, _, _ => False
  | n + 1, y3, y4, I, A => ((y3 ≤ y4 → post I A) ∧ (¬ y3 ≤ y4 → (vp_in y4 4 ∧ (∀ v18 : Int32, v18 = tb_TAIL y4.toNatClampNeg → (wp_NoteFile_put v18 I A (fun I23 A23 => (∀ v26 : Int32, v26 = y4 + 1 → wp_NoteFile_putAll_64_8 post n y3 v26 I23 A23)))))))
def wp_NoteFile_putAll_64 (I : Nat → Int32) (A : Nat → Nat → Int32) (post : (Nat → Int32) → (Nat → Nat → Int32) → Prop) : Prop := (∃ n8, wp_NoteFile_putAll_64_8 post n8 4 0 I A)
def w_NoteFile_putAll_64 : List Cond := .code y_NoteFile_putAll b_NoteFile_putAll 6 none :: WALL
theorem g_NoteFile_putAll_64 : GoodIn WALL w_NoteFile_putAll_64 := good_of mc_NoteFile_putAll
set_option maxHeartbeats 4000000 in
set_option maxRecDepth 100000 in
theorem c_NoteFile_putAll_64 (l : Launch) (D : va_G) (cA a : Nat → Nat) (sz : Nat) (I : Nat → Int32) (A : Nat → Nat → Int32) (post : (Nat → Int32) → (Nat → Nat → Int32) → Prop) (h : wp_NoteFile_putAll_64 I A post) : Met l y_NoteFile_putAll w_NoteFile_putAll_64 ({ frames := 1, cells := 0, slots := 0, locals := 21 }) (va_Pc [.ref (a 22), .ref (a 64)] (PreC D cA a I A sz)) (va_Qv (fun (u : StW) => post u.1 u.2) (EndC D cA a) (AC a sz)) 0 0 (AC a sz) := by
  refine Met.ofW (cc := b_NoteFile_putAll) (maxL := 6) (ret := none) (by decide) rfl ?_
  intro p e s m args below meth c s₁ B hml hv
  obtain ⟨rfl, hsz, hP, hK, hD0⟩ := hv
  have hx := B.exec
  have hb := B.bytes
  have hr := B.returns
  have hts := atoms_spec (ws := w_NoteFile_putAll_64) B.pre
  have hw := wall_of hts
  have hown : s.vm.findClass R_NoteFile = some m.cls := findClass_of_methodNamed B.named
  have hlocks := B.notSynchronized
  subst hsz
  have hD := hDC (sz := s.heap.size) hD0
  have hA : ∀ q : Nat, s.heap.size ≤ q → AC a s.heap.size q := fun q h => Or.inr h
  have hS : va_S (AC a s.heap.size) s.heap s.heap [] := va_S.rf
  have j8 : ∀ n : Nat, ∀ (y3 : Int32) (y4 : Int32) (I : Nat → Int32) (A : Nat → Nat → Int32) (H : Heap) (locs : List Loc) (ls : Array Slot), wp_NoteFile_putAll_64_8 post n y3 y4 I A → va_P D cls (wC cA a I A) H → va_S (AC a s.heap.size) s.heap H locs → lv_has ls 6 [(0, .ref (a 22)), (2, .ref (a 64)), (3, .int y3), (4, .int y4)] → W p l e (headSpec w_NoteFile_putAll_64 ({ frames := 1, cells := 0, slots := 0, locals := 21 })).room s m [.ref (a 22), .ref (a 64)].toArray below meth c H locs 0 0 (MQ below (va_Qv (fun (u : StW) => post u.1 u.2) (EndC D cA a) (AC a s.heap.size)) [.ref (a 22), .ref (a 64)].toArray s 0 0 (AC a s.heap.size)) (F0 m 8 ls []) := by
    intro n
    induction n with
    | zero =>
      intro y3 y4 I A H locs ls h hP hS hl
      exact False.elim h
    | succ n ih =>
      intro y3 y4 I A H locs ls h hP hS hl
      unfold wp_NoteFile_putAll_64_8 at h
      refine lv_iload hx hb d_NoteFile_putAll_8 (lv_at hl 3 rfl) ?_
      refine lv_iload_n hx hb d_NoteFile_putAll_10 rfl (lv_at hl 2 rfl) ?_
      refine lv_icmp_ge (tgt := 32) hx hb d_NoteFile_putAll_11 rfl (fun q => ?_) (fun q => ?_)
      · have h := h.1 q
        exact W.vret hx hb hr (fun t ht hW => ⟨⟨(I, A), rfl, h, endC_of ht hP⟩, hS.F ht⟩) hS.2.2 d_NoteFile_putAll_32
      · have h := h.2 q
        refine lv_aload_n hx hb d_NoteFile_putAll_14 rfl (lv_at hl 1 rfl) ?_
        refine lv_iload hx hb d_NoteFile_putAll_15 (lv_at hl 3 rfl) ?_
        obtain ⟨hin, h⟩ := h
        refine tC_TAIL hx hb hK hS hin d_NoteFile_putAll_17 ?_
        refine lv_topi (fun v18 ev18 => ?_)
        have h := h v18 ev18
        refine lv_istore (lv' := [(5, .int v18), (0, .ref (a 22)), (2, .ref (a 64)), (3, .int y3), (4, .int y4)]) hx hb d_NoteFile_putAll_18 hl (by decide) rfl (fun ls hl => ?_)
        refine lv_aload_n hx hb d_NoteFile_putAll_20 rfl (lv_at hl 1 rfl) ?_
        refine lv_iload hx hb d_NoteFile_putAll_21 (lv_at hl 0 rfl) ?_
        refine k_NoteFile_put v18 (rest := []) ⟨hx, hb, hml, hown, hw⟩ hK hD hA hS hP hl.1 (hw _ m_NoteFile_66) (Nat.le_of_ble_eq_true rfl) ⟨Nat.le_of_ble_eq_true rfl, Nat.le_of_ble_eq_true rfl⟩ ⟨Nat.zero_le _, Nat.zero_le _⟩ d_NoteFile_putAll_23 h (fun I23 A23 H locs h hP hS => ?_)
        obtain ⟨v26, ev26⟩ : ∃ z : Int32, z = y4 + 1 := ⟨_, rfl⟩
        have h := h v26 ev26
        refine lv_iinc (k := 4) (v := v26) (lv' := [(4, .int v26), (5, .int v18), (0, .ref (a 22)), (2, .ref (a 64)), (3, .int y3)]) hx hb d_NoteFile_putAll_26 hl rfl (by rw [ev26, ic_1]) (by decide) rfl (fun ls hl => ?_)
        refine lv_goto (tgt := 8) hx hb d_NoteFile_putAll_29 rfl ?_
        exact ih y3 v26 I23 A23 _ _ _ h hP hS (lv_sub hl [2, 3, 4, 0] rfl)
  have hl := lv_entry ([.ref (a 22), .ref (a 64)]) (n := 6) (Nat.le_of_ble_eq_true rfl)
  rw [lg_entry_eq]
  generalize (lg_sl ([.ref (a 22), .ref (a 64)]) ++ List.replicate (6 - (lg_sl ([.ref (a 22), .ref (a 64)])).length) Slot.unset).toArray = ls at hl ⊢
  have hl : lv_has ls 6 [(0, .ref (a 22)), (1, .ref (a 64))] := hl
  unfold wp_NoteFile_putAll_64 at h
  refine lv_aload_n hx hb d_NoteFile_putAll_0 rfl (lv_at hl 1 rfl) ?_
  refine lv_astore_n (lv' := [(2, .ref (a 64)), (0, .ref (a 22)), (1, .ref (a 64))]) hx hb d_NoteFile_putAll_1 rfl hl (by decide) rfl (fun ls hl => ?_)
  refine lv_aload_n hx hb d_NoteFile_putAll_2 rfl (lv_at hl 0 rfl) ?_
  refine tlC_TAIL hx hb hK hS d_NoteFile_putAll_3 ?_
  refine lv_istore_n (lv' := [(3, .int 4), (2, .ref (a 64)), (0, .ref (a 22)), (1, .ref (a 64))]) hx hb d_NoteFile_putAll_4 rfl hl (by decide) rfl (fun ls hl => ?_)
  refine lv_iconst (v := 0) hx hb d_NoteFile_putAll_5 ic_0 ?_
  refine lv_istore (lv' := [(4, .int 0), (3, .int 4), (2, .ref (a 64)), (0, .ref (a 22)), (1, .ref (a 64))]) hx hb d_NoteFile_putAll_6 hl (by decide) rfl (fun ls hl => ?_)
  obtain ⟨n8, h⟩ := h
  exact j8 n8 4 0 I A _ _ _ h hP hS (lv_sub hl [3, 2, 1, 0] rfl)
theorem k_NoteFile_putAll_64 {p : Program} {l : Launch} {e : Env} {R : Room} {s : State} {m : MethodId} {args : Array Value} {below : List Frame} {meth : Method} {c : Code} {H : Heap} {locs : List Loc} {cells slots : Nat} {Q : State → Prop} {cc : ByteArray} {pc nL idx : Nat} {own : String} {ls : Array Slot} {D : va_G} {cA a : Nat → Nat} {AA : Nat → Prop} {I : Nat → Int32} {A : Nat → Nat → Int32} {post : (Nat → Int32) → (Nat → Nat → Int32) → Prop} {rest : List Value} (S : CallFix p m c cc nL s args WALL own) (hK : KC D cA a AA s) (hD : ∀ I A, va_D AA (wC cA a I A)) (hA : ∀ q : Nat, s.heap.size ≤ q → AA q) (hS : va_S AA s.heap H locs) (hP : va_P D cls (wC cA a I A) H) (hl1 : ls.size = nL) (hlink : (Cond.methodLink own idx y_NoteFile_putAll).before args s = true) (hst : (rest.map fun v => v.category).sum ≤ 8) (hR : ({ frames := 1, cells := 0, slots := 0, locals := 21 } : Room).frames + 1 ≤ R.frames ∧ 8 + (6 + 11) + ({ frames := 1, cells := 0, slots := 0, locals := 21 } : Room).locals ≤ R.locals) (hcs : cells ≤ R.cells ∧ slots ≤ R.slots) (hdg : decode cc pc = .ok (.invokevirtual idx, 3)) (h : wp_NoteFile_putAll_64 I A post) (kk : ∀ (I1 : Nat → Int32) (A1 : Nat → Nat → Int32) (H1 : Heap) (locs1 : List Loc), post I1 A1 → va_P D cls (wC cA a I1 A1) H1 → va_S AA s.heap H1 locs1 → W p l e R s m args below meth c H1 locs1 cells slots Q (F0 m (pc + 3) ls rest)) : W p l e R s m args below meth c H locs cells slots Q (F0 m pc ls (.ref (a 64) :: .ref (a 22) :: rest)) :=
  va_callv (va_runV (As := [.ref (a 64)]) (rest := rest) S (c_NoteFile_putAll_64 l D cA a H.size I A post h) ⟨callB_of 1 S.2.2.2.2 g_NoteFile_putAll_64 rfl rfl rfl (S.2.2.2.2 _ mi_NoteFile) hlink ⟨by decide, by decide, by decide +kernel⟩ hR, S.2.2.2.2 _ mn_NoteFile_putAll, S.2.2.2.2 _ ms_NoteFile_putAll⟩ (preCV hK hD hA hS hP 22 rfl rfl) rfl rfl hl1 rfl (lv_room hst) hdg hcs) hS (fun q _ z => AC_le hD hA hS q z) (fun q z => AC_le hD hA hS q z) (fun u t H1 locs1 ht _ hp hB _ _ hS1 => kk u.1 u.2 H1 locs1 hp (of_endC ht hB) hS1)
def wp_NoteFile_putCount_2 (post : (Nat → Int32) → (Nat → Nat → Int32) → Prop) : Nat → Int32 → Int32 → (Nat → Int32) → (Nat → Nat → Int32) → Prop
  | 0, _, _, _, _ => False
  | n + 1, y1, y2, I, A => ((4 ≤ y2 → post I A) ∧ (¬ 4 ≤ y2 → (vp_in ((18 : Int32) + y2) 794 ∧ (∀ v31 : Int32, v31 = y2 + 1 → wp_NoteFile_putCount_2 post n y1 v31 I (upd2 A 23 (((18 : Int32) + y2).toNatClampNeg) ((y1 >>> (((24 : Int32) - ((8 : Int32) * y2)) &&& 31)) &&& 255))))))
def wp_NoteFile_putCount (x1 : Int32) (I : Nat → Int32) (A : Nat → Nat → Int32) (post : (Nat → Int32) → (Nat → Nat → Int32) → Prop) : Prop := (∃ n2, wp_NoteFile_putCount_2 post n2 x1 0 I A)
theorem d_NoteFile_putCount_0 : decode b_NoteFile_putCount 0 = .ok (.iconst 0, 1) := by decide +kernel
theorem d_NoteFile_putCount_1 : decode b_NoteFile_putCount 1 = .ok (.istore_n 2, 1) := by decide +kernel
theorem d_NoteFile_putCount_2 : decode b_NoteFile_putCount 2 = .ok (.iload_n 2, 1) := by decide +kernel
theorem d_NoteFile_putCount_3 : decode b_NoteFile_putCount 3 = .ok (.iconst 4, 1) := by decide +kernel
theorem d_NoteFile_putCount_4 : decode b_NoteFile_putCount 4 = .ok (.if_icmp .ge 33, 3) := by decide +kernel
theorem d_NoteFile_putCount_7 : decode b_NoteFile_putCount 7 = .ok (.aload_n 0, 1) := by decide +kernel
theorem d_NoteFile_putCount_8 : decode b_NoteFile_putCount 8 = .ok (.getfield 11, 3) := by decide +kernel
theorem d_NoteFile_putCount_11 : decode b_NoteFile_putCount 11 = .ok (.getstatic 22, 3) := by decide +kernel
theorem d_NoteFile_putCount_14 : decode b_NoteFile_putCount 14 = .ok (.arraylength, 1) := by decide +kernel
theorem d_NoteFile_putCount_15 : decode b_NoteFile_putCount 15 = .ok (.iload_n 2, 1) := by decide +kernel
theorem d_NoteFile_putCount_16 : decode b_NoteFile_putCount 16 = .ok (.iadd, 1) := by decide +kernel
theorem d_NoteFile_putCount_17 : decode b_NoteFile_putCount 17 = .ok (.iload_n 1, 1) := by decide +kernel
theorem d_NoteFile_putCount_18 : decode b_NoteFile_putCount 18 = .ok (.bipush 24, 2) := by decide +kernel
theorem d_NoteFile_putCount_20 : decode b_NoteFile_putCount 20 = .ok (.bipush 8, 2) := by decide +kernel
theorem d_NoteFile_putCount_22 : decode b_NoteFile_putCount 22 = .ok (.iload_n 2, 1) := by decide +kernel
theorem d_NoteFile_putCount_23 : decode b_NoteFile_putCount 23 = .ok (.imul, 1) := by decide +kernel
theorem d_NoteFile_putCount_24 : decode b_NoteFile_putCount 24 = .ok (.isub, 1) := by decide +kernel
theorem d_NoteFile_putCount_25 : decode b_NoteFile_putCount 25 = .ok (.ishr, 1) := by decide +kernel
theorem d_NoteFile_putCount_26 : decode b_NoteFile_putCount 26 = .ok (.sipush 255, 3) := by decide +kernel
theorem d_NoteFile_putCount_29 : decode b_NoteFile_putCount 29 = .ok (.iand, 1) := by decide +kernel
theorem d_NoteFile_putCount_30 : decode b_NoteFile_putCount 30 = .ok (.iastore, 1) := by decide +kernel
theorem d_NoteFile_putCount_31 : decode b_NoteFile_putCount 31 = .ok (.iinc 2 1, 3) := by decide +kernel
theorem d_NoteFile_putCount_34 : decode b_NoteFile_putCount 34 = .ok (.goto (-32), 3) := by decide +kernel
theorem d_NoteFile_putCount_37 : decode b_NoteFile_putCount 37 = .ok (.return_, 1) := by decide +kernel
def w_NoteFile_putCount : List Cond := .code y_NoteFile_putCount b_NoteFile_putCount 3 none :: WALL
theorem g_NoteFile_putCount : GoodIn WALL w_NoteFile_putCount := good_of mc_NoteFile_putCount
set_option maxHeartbeats 4000000 in
set_option maxRecDepth 100000 in
theorem c_NoteFile_putCount (l : Launch) (D : va_G) (cA a : Nat → Nat) (sz : Nat) (x1 : Int32) (I : Nat → Int32) (A : Nat → Nat → Int32) (post : (Nat → Int32) → (Nat → Nat → Int32) → Prop) (h : wp_NoteFile_putCount x1 I A post) : Met l y_NoteFile_putCount w_NoteFile_putCount ({ frames := 0, cells := 0, slots := 0, locals := 0 }) (va_Pc [.ref (a 22), .int x1] (PreC D cA a I A sz)) (va_Qv (fun (u : StW) => post u.1 u.2) (EndC D cA a) (AC a sz)) 0 0 (AC a sz) := by
  refine Met.ofW (cc := b_NoteFile_putCount) (maxL := 3) (ret := none) (by decide) rfl ?_
  intro p e s m args below meth c s₁ B hml hv
  obtain ⟨rfl, hsz, hP, hK, hD0⟩ := hv
  have hx := B.exec
  have hb := B.bytes
  have hr := B.returns
  have hts := atoms_spec (ws := w_NoteFile_putCount) B.pre
  have hw := wall_of hts
  have hown : s.vm.findClass R_NoteFile = some m.cls := findClass_of_methodNamed B.named
  have hlocks := B.notSynchronized
  subst hsz
  have hD := hDC (sz := s.heap.size) hD0
  have hA : ∀ q : Nat, s.heap.size ≤ q → AC a s.heap.size q := fun q h => Or.inr h
  have hS : va_S (AC a s.heap.size) s.heap s.heap [] := va_S.rf
  have j2 : ∀ n : Nat, ∀ (y1 : Int32) (y2 : Int32) (I : Nat → Int32) (A : Nat → Nat → Int32) (H : Heap) (locs : List Loc) (ls : Array Slot), wp_NoteFile_putCount_2 post n y1 y2 I A → va_P D cls (wC cA a I A) H → va_S (AC a s.heap.size) s.heap H locs → lv_has ls 3 [(0, .ref (a 22)), (1, .int y1), (2, .int y2)] → W p l e (headSpec w_NoteFile_putCount ({ frames := 0, cells := 0, slots := 0, locals := 0 })).room s m [.ref (a 22), .int x1].toArray below meth c H locs 0 0 (MQ below (va_Qv (fun (u : StW) => post u.1 u.2) (EndC D cA a) (AC a s.heap.size)) [.ref (a 22), .int x1].toArray s 0 0 (AC a s.heap.size)) (F0 m 2 ls []) := by
    intro n
    induction n with
    | zero =>
      intro y1 y2 I A H locs ls h hP hS hl
      exact False.elim h
    | succ n ih =>
      intro y1 y2 I A H locs ls h hP hS hl
      unfold wp_NoteFile_putCount_2 at h
      refine lv_iload_n hx hb d_NoteFile_putCount_2 rfl (lv_at hl 2 rfl) ?_
      refine lv_iconst (v := 4) hx hb d_NoteFile_putCount_3 ic_4 ?_
      refine lv_icmp_ge (tgt := 37) hx hb d_NoteFile_putCount_4 rfl (fun q => ?_) (fun q => ?_)
      · have h := h.1 q
        exact W.vret hx hb hr (fun t ht hW => ⟨⟨(I, A), rfl, h, endC_of ht hP⟩, hS.F ht⟩) hS.2.2 d_NoteFile_putCount_37
      · have h := h.2 q
        refine lv_aload_n hx hb d_NoteFile_putCount_7 rfl (lv_at hl 0 rfl) ?_
        refine gC_NoteFile_bytes hx hb hw hown hK hP (hw _ m_NoteFile_11) d_NoteFile_putCount_8 ?_
        refine zC_HEAD hx hb hown hK hS (hw _ m_NoteFile_22) d_NoteFile_putCount_11 ?_
        refine tlC_HEAD hx hb hK hS d_NoteFile_putCount_14 ?_
        refine lv_iload_n hx hb d_NoteFile_putCount_15 rfl (lv_at hl 2 rfl) ?_
        refine lv_iadd hx hb d_NoteFile_putCount_16 ?_
        refine lv_iload_n hx hb d_NoteFile_putCount_17 rfl (lv_at hl 1 rfl) ?_
        refine lv_bipush (v := 24) hx hb d_NoteFile_putCount_18 bp_24 ?_
        refine lv_bipush (v := 8) hx hb d_NoteFile_putCount_20 bp_8 ?_
        refine lv_iload_n hx hb d_NoteFile_putCount_22 rfl (lv_at hl 2 rfl) ?_
        refine lv_imul hx hb d_NoteFile_putCount_23 ?_
        refine lv_isub hx hb d_NoteFile_putCount_24 ?_
        refine lv_ishr hx hb d_NoteFile_putCount_25 ?_
        refine lv_sipush (v := 255) hx hb d_NoteFile_putCount_26 sp_255 ?_
        refine lv_iand hx hb d_NoteFile_putCount_29 ?_
        obtain ⟨hin, h⟩ := h
        refine sC23 hx hb hK hD hS hP hin d_NoteFile_putCount_30 (fun H locs hP hS => ?_)
        obtain ⟨v31, ev31⟩ : ∃ z : Int32, z = y2 + 1 := ⟨_, rfl⟩
        have h := h v31 ev31
        refine lv_iinc (k := 2) (v := v31) (lv' := [(2, .int v31), (0, .ref (a 22)), (1, .int y1)]) hx hb d_NoteFile_putCount_31 hl rfl (by rw [ev31, ic_1]) (by decide) rfl (fun ls hl => ?_)
        refine lv_goto (tgt := 2) hx hb d_NoteFile_putCount_34 rfl ?_
        exact ih y1 v31 I (upd2 A 23 (((18 : Int32) + y2).toNatClampNeg) ((y1 >>> (((24 : Int32) - ((8 : Int32) * y2)) &&& 31)) &&& 255)) _ _ _ h hP hS (lv_sub hl [1, 2, 0] rfl)
  have hl := lv_entry ([.ref (a 22), .int x1]) (n := 3) (Nat.le_of_ble_eq_true rfl)
  rw [lg_entry_eq]
  generalize (lg_sl ([.ref (a 22), .int x1]) ++ List.replicate (3 - (lg_sl ([.ref (a 22), .int x1])).length) Slot.unset).toArray = ls at hl ⊢
  have hl : lv_has ls 3 [(0, .ref (a 22)), (1, .int x1)] := hl
  unfold wp_NoteFile_putCount at h
  refine lv_iconst (v := 0) hx hb d_NoteFile_putCount_0 ic_0 ?_
  refine lv_istore_n (lv' := [(2, .int 0), (0, .ref (a 22)), (1, .int x1)]) hx hb d_NoteFile_putCount_1 rfl hl (by decide) rfl (fun ls hl => ?_)
  obtain ⟨n2, h⟩ := h
  exact j2 n2 x1 0 I A _ _ _ h hP hS (lv_sub hl [1, 2, 0] rfl)
theorem k_NoteFile_putCount {p : Program} {l : Launch} {e : Env} {R : Room} {s : State} {m : MethodId} {args : Array Value} {below : List Frame} {meth : Method} {c : Code} {H : Heap} {locs : List Loc} {cells slots : Nat} {Q : State → Prop} {cc : ByteArray} {pc nL idx : Nat} {own : String} {ls : Array Slot} {D : va_G} {cA a : Nat → Nat} {AA : Nat → Prop} {I : Nat → Int32} {A : Nat → Nat → Int32} {post : (Nat → Int32) → (Nat → Nat → Int32) → Prop} (x1 : Int32) {rest : List Value} (S : CallFix p m c cc nL s args WALL own) (hK : KC D cA a AA s) (hD : ∀ I A, va_D AA (wC cA a I A)) (hA : ∀ q : Nat, s.heap.size ≤ q → AA q) (hS : va_S AA s.heap H locs) (hP : va_P D cls (wC cA a I A) H) (hl1 : ls.size = nL) (hlink : (Cond.methodLink own idx y_NoteFile_putCount).before args s = true) (hst : (rest.map fun v => v.category).sum ≤ 8) (hR : ({ frames := 0, cells := 0, slots := 0, locals := 0 } : Room).frames + 1 ≤ R.frames ∧ 8 + (3 + 11) + ({ frames := 0, cells := 0, slots := 0, locals := 0 } : Room).locals ≤ R.locals) (hcs : cells ≤ R.cells ∧ slots ≤ R.slots) (hdg : decode cc pc = .ok (.invokevirtual idx, 3)) (h : wp_NoteFile_putCount x1 I A post) (kk : ∀ (I1 : Nat → Int32) (A1 : Nat → Nat → Int32) (H1 : Heap) (locs1 : List Loc), post I1 A1 → va_P D cls (wC cA a I1 A1) H1 → va_S AA s.heap H1 locs1 → W p l e R s m args below meth c H1 locs1 cells slots Q (F0 m (pc + 3) ls rest)) : W p l e R s m args below meth c H locs cells slots Q (F0 m pc ls (.int x1 :: .ref (a 22) :: rest)) :=
  va_callv (va_runV (As := [.int x1]) (rest := rest) S (c_NoteFile_putCount l D cA a H.size x1 I A post h) ⟨callB_of 1 S.2.2.2.2 g_NoteFile_putCount rfl rfl rfl (S.2.2.2.2 _ mi_NoteFile) hlink ⟨by decide, by decide, by decide +kernel⟩ hR, S.2.2.2.2 _ mn_NoteFile_putCount, S.2.2.2.2 _ ms_NoteFile_putCount⟩ (preCV hK hD hA hS hP 22 rfl rfl) rfl rfl hl1 rfl (lv_room hst) hdg hcs) hS (fun q _ z => AC_le hD hA hS q z) (fun q z => AC_le hD hA hS q z) (fun u t H1 locs1 ht _ hp hB _ _ hS1 => kk u.1 u.2 H1 locs1 hp (of_endC ht hB) hS1)

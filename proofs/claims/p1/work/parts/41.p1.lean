/-! p1: one call on fresh objects -/
def Tru : Prel := fun _ _ _ _ => True
theorem p1_metre : T_metre Tru I0C A0 I0R A0 := by
  intro x y post hp
  have hq : ∀ r I A J B, post r r I A J B := fun r I A J B => hp r I A J B trivial
  unfold wp_TuneSetter_metre wp_TuneSetter_metre_29 wp_TuneSetterModel_metre wp_TuneSetterModel_metre_32 vz
  clear hp
  by_cases h1 : x < 1
  · grind
  · by_cases h2 : 12 < x
    · grind
    · by_cases h3 : y = 2
      · subst h3; grind
      · by_cases h4 : y = 4
        · subst h4; grind
        · by_cases h5 : y = 8
          · subst h5; grind
          · grind
theorem p1_unit : T_unit Tru I0C A0 I0R A0 := by
  intro x post hp
  have hq : ∀ r I A J B, post r r I A J B := fun r I A J B => hp r I A J B trivial
  unfold wp_TuneSetter_unit wp_TuneSetterModel_unit wp_TuneSetterModel_unit_17
  grind
theorem p1_key : T_key Tru I0C A0 I0R A0 := by
  intro x post hp
  have hq : ∀ r I A J B, post r r I A J B := fun r I A J B => hp r I A J B trivial
  unfold wp_TuneSetter_key wp_TuneSetterModel_key wp_TuneSetterModel_key_16
  grind
theorem p1_type : T_type Tru I0C A0 I0R A0 := by
  intro x post hp
  have hq : ∀ r I A J B, post r r I A J B := fun r I A J B => hp r I A J B trivial
  have hc : vch ((x.toUInt32 % 65536).toInt32) := pk_vc x
  generalize (x.toUInt32 % 65536).toInt32 = z at hc ⊢
  have e1 : I0C 30 = 0 := by decide
  have e2 : I0R 4 = 0 := by decide
  have i1 : vp_in 0 120 := by unfold vp_in; decide
  have i2 : vp_in 0 121 := by unfold vp_in; decide
  unfold wp_TuneSetter_type wp_TuneSetterModel_type
  rw [e1, e2]
  grind
theorem p1_clear : T_clear Tru I0C A0 I0R A0 := by
  intro post hp
  intro v hv w hw
  rw [show v = w from by rw [hv, hw]; decide]
  exact hp w _ _ _ _ trivial
theorem p1_place : T_place Tru I0C A0 I0R A0 := by
  intro post hp
  show post (I0C 35) (I0R 7) _ _ _ _
  rw [show I0C 35 = I0R 7 from by decide]
  exact hp _ _ _ _ _ trivial
theorem f34 : I0C 34 = 0 := by decide
theorem f6 : I0R 6 = 0 := by decide
theorem p1_bars : T_bars Tru I0C A0 I0R A0 := by
  intro post hp
  exact ⟨fun _ => ⟨fun _ => hp _ _ _ _ _ trivial, fun q => absurd f6 q⟩, fun q => absurd f34 q⟩
theorem p1_notes : T_notes Tru I0C A0 I0R A0 := by
  intro post hp
  exact ⟨fun _ => ⟨fun _ => hp _ _ _ _ _ trivial, fun q => absurd f6 q⟩, fun q => absurd f34 q⟩
theorem p1_note : T_note Tru I0C A0 I0R A0 := by
  intro x y post hp
  refine ⟨fun _ => ⟨fun _ => hp _ _ _ _ _ trivial, fun q => absurd f6 q⟩, fun h1 => ⟨fun _ => ⟨fun h2 => absurd h2 h1, fun _ => ⟨fun _ => hp _ _ _ _ _ trivial, fun q => absurd f6 q⟩⟩, fun q => absurd f34 q⟩⟩
theorem p1_width : T_width Tru I0C A0 I0R A0 := by
  intro x post hp
  refine ⟨fun _ => ⟨fun _ => hp _ _ _ _ _ trivial, fun q => absurd f6 q⟩, fun h1 => ⟨fun _ => ⟨fun h2 => absurd h2 h1, fun _ => ⟨fun _ => hp _ _ _ _ _ trivial, fun q => absurd f6 q⟩⟩, fun q => absurd f34 q⟩⟩
theorem p1_write : T_write Tru I0C A0 I0R A0 := by
  intro post hp
  exact ⟨fun _ => ⟨fun _ => hp _ _ _ _ _ trivial, fun q => absurd f6 q⟩, fun q => absurd f34 q⟩
theorem p1_byteAt : T_byteAt Tru I0C A0 I0R A0 := by
  intro x post hp
  have hq : ∀ r I A J B, post r r I A J B := fun r I A J B => hp r I A J B trivial
  have e1 : I0C 28 = 0 := by decide
  have e2 : I0R 26 = 0 := by decide
  unfold wp_TuneSetter_byteAt wp_TuneSetterModel_byteAt
  rw [e1, e2]
  grind
theorem p1_broken (x : Int32) (post : Int32 → (Nat → Int32) → (Nat → Nat → Int32) → Prop) (h : ∀ I A, post 0 I A) : wp_TuneSetterModel_broken x I0R A0 post := by
  refine ⟨fun _ => ⟨1, ?_⟩, fun q => absurd f6 q⟩
  unfold wp_TuneSetterModel_broken_27
  exact ⟨fun _ => ⟨fun _ => h _ _, fun q => absurd rfl q⟩, fun q => absurd (show I0R 5 ≤ 0 by decide) q⟩
theorem p1_breaking : T_breaking Tru I0C A0 I0R A0 := by
  intro x post hp
  refine ⟨fun _ => ⟨fun _ => ?_, fun q => absurd rfl q⟩, fun q => absurd f34 q⟩
  exact p1_broken x _ (fun I A => ⟨fun _ => hp _ _ _ _ _ trivial, fun q => absurd rfl q⟩)
theorem p1_lines : T_lines Tru I0C A0 I0R A0 := by
  intro x post hp
  refine ⟨fun _ => ⟨fun _ => ?_, fun q => absurd rfl q⟩, fun q => absurd f34 q⟩
  exact p1_broken x _ (fun I A => ⟨fun _ => hp _ _ _ _ _ trivial, fun q => absurd rfl q⟩)
theorem vi_lit {n : Nat} {i : Int32} (h : decide (i < 0 ∨ n ≤ i.toNatClampNeg) = false) : vp_in i n := by
  unfold vp_in
  exact of_decide_eq_false h
theorem step_end_start {I : Nat → Int32} {A : Nat → Nat → Int32} {post : (Nat → Int32) → (Nat → Nat → Int32) → Prop} (h3 : I 3 = 0) (h14 : I 14 = 0) (hp : post (upd (upd I 3 (-2)) 4 (I 15)) A) : wp_Reader_step 0 0 I A post := by
  have e : tb_MAY (0 : Int32).toNatClampNeg &&& 32768 = 0 := by decide
  have v : vp_in 0 21 := vi_lit (by decide)
  have n1 : ¬ (0 : Int32) = 16 := by decide
  have n2 : ¬ (0 : Int32) = 17 := by decide
  have n3 : ¬ (0 : Int32) = 14 := by decide
  have n4 : ¬ (0 : Int32) = 15 := by decide
  have n5 : ¬ (0 : Int32) = 11 := by decide
  have n6 : ¬ (0 : Int32) = 12 := by decide
  have n7 : ¬ (0 : Int32) = 13 := by decide
  have n8 : ¬ (0 : Int32) < 0 := by decide
  have n9 : ¬ (21 : Int32) ≤ 0 := by decide
  have n10 : ¬ (-2 : Int32) = 0 := by decide
  have u3 : (upd (upd I 3 (-2)) 4 (I 15)) 3 = -2 := rfl
  unfold wp_Reader_step wp_Reader_lengthEnds wp_Reader_octavesEnd wp_Reader_lengthEnds_69 wp_Reader_step_12 wp_Reader_octavesEnd wp_Reader_step_31 wp_Reader_follow wp_Reader_may wp_Reader_may_30 wp_Reader_fail wp_Reader_step_61 wp_Reader_step_85
  simp only [h3, h14, e, v, n1, n2, n3, n4, n5, n6, n7, n8, n9, n10, u3, hp, false_implies, true_implies, not_false_eq_true, not_true_eq_false, implies_true, and_true, true_and, and_self]
  simp (decide := true) [hp, u3]
theorem next_end_first {J : Nat → Int32} {B : Nat → Nat → Int32} {p : Int32} {post : Int32 → (Nat → Int32) → (Nat → Nat → Int32) → Prop} (h9 : J 9 = 0) (hp : post (-2) J B) : wp_TuneSetterModel_next (-1) p J B post := by
  unfold wp_TuneSetterModel_next wp_TuneSetterModel_next_22 wp_TuneSetterModel_next_48 wp_TuneSetterModel_next_65 wp_TuneSetterModel_next_92 wp_TuneSetterModel_next_109 wp_TuneSetterModel_next_127 wp_TuneSetterModel_next_158 wp_TuneSetterModel_go wp_TuneSetterModel_beginBar wp_TuneSetterModel_beginsItem wp_TuneSetterModel_beginsNote wp_TuneSetterModel_letterOf wp_TuneSetterModel_letterOf_19
  rw [h9]
  simp (decide := true) [hp]
set_option maxHeartbeats 4000000 in
theorem p1_read : T_read Tru I0C A0 I0R A0 := by
  intro post hp
  unfold wp_TuneSetter_read wp_Reader_prepare wp_PitchFinder_startTune wp_ItemLength_restart wp_Tune_empty
  refine ⟨vi_lit (by decide), vi_lit (by decide), vi_lit (by decide), ?_⟩
  generalize hA1 : upd2 _ 9 _ _ = A1
  generalize hI1 : upd _ 22 _ = I1
  have e3 : I1 3 = 0 := by rw [← hI1]; decide
  have e14 : I1 14 = 0 := by rw [← hI1]; decide
  have e30 : I1 30 = 0 := by rw [← hI1]; decide
  rw [e30]
  refine ⟨2, ?_⟩
  unfold wp_Reader_scan_2
  refine ⟨fun q => absurd q (by decide), fun _ => ⟨fun _ => ?_, fun q => absurd e3 q⟩⟩
  refine ⟨fun q => absurd q (by decide), fun _ => ⟨fun _ => ?_, fun q => absurd (by decide) q⟩⟩
  refine ⟨fun q => absurd q (by decide), fun _ => ⟨fun _ => ?_, fun q => absurd (by decide) q⟩⟩
  refine step_end_start e3 e14 ?_
  intro v hv
  rw [show v = 1 from by rw [hv]; decide]
  unfold wp_Reader_scan_2
  refine ⟨fun _ => ?_, fun q => absurd (by decide) q⟩
  refine ⟨fun q => absurd q (show ¬ (-2 : Int32) = 0 by decide), fun _ => ?_⟩
  show wp_TuneSetterModel_read _ _ _
  refine ⟨vi_lit (by decide), 2, ?_⟩
  generalize hB1 : upd2 _ 5 _ _ = B1
  generalize hJ1 : upd _ 13 _ = J1
  have f4 : J1 4 = 0 := by rw [← hJ1]; decide
  have f9 : J1 9 = 0 := by rw [← hJ1]; decide
  unfold wp_TuneSetterModel_read_41
  rw [f4]
  refine ⟨fun q => absurd q (by decide), fun _ => ⟨fun _ => ⟨fun _ => ?_, fun q => absurd (by decide) q⟩, fun q => absurd rfl q⟩⟩
  refine next_end_first f9 ?_
  intro v hv
  rw [show v = 1 from by rw [hv]; decide]
  unfold wp_TuneSetterModel_read_41
  have f4' : upd J1 7 0 4 = 0 := f4
  rw [f4']
  refine ⟨fun _ => ⟨fun q => absurd q (by decide), fun _ => ?_⟩, fun q => absurd (by decide) q⟩
  refine ⟨fun q => absurd q (by decide), fun _ => ?_⟩
  exact hp _ _ _ _ _ trivial
def Rel1 : Nat → Prel
  | 0 => fun I A J B => I = I0C ∧ A = A0 ∧ J = I0R ∧ B = A0
  | _ + 1 => Tru
theorem pure_one {L : Nat} {xs : Nat → Int32} (hL : L ≤ 3) : ∃ n, wp_law_18 L xs n 0 I0C A0 I0R A0 := by
  refine law_all Rel1 (by omega) ⟨rfl, rfl, rfl, rfl⟩ (fun k hk I A J B h => ?_)
  rcases (show k = 0 by omega) with rfl
  obtain ⟨rfl, rfl, rfl, rfl⟩ := h
  exact ⟨p1_metre, p1_unit, p1_key, p1_type, p1_clear, p1_read, p1_place, p1_bars, p1_notes, p1_note, p1_width, p1_write, p1_byteAt, p1_breaking, p1_lines, trivial⟩

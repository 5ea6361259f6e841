/-! the reference's step, by its state -/
section NX
variable {c x : Int32} {J : Nat → Int32} {B : Nat → Nat → Int32} {post : Int32 → (Nat → Int32) → (Nat → Nat → Int32) → Prop}
theorem n22_go (h11 : ¬ J 9 = 11) (hq : wp_TuneSetterModel_go c x J B post) : wp_TuneSetterModel_next_22 post c x 0 J B := by
  have n158 : wp_TuneSetterModel_next_158 post c x 0 0 0 J B := ⟨fun _ => ⟨fun _ => ⟨fun _ => hq, fun z => absurd rfl z⟩, fun z => absurd rfl z⟩, fun z => absurd rfl z⟩
  have n127 : wp_TuneSetterModel_next_127 post c x 0 0 0 J B := ⟨fun _ => n158, fun z => absurd rfl z⟩
  have n109 : wp_TuneSetterModel_next_109 post c x 0 0 J B := ⟨fun _ => n127, fun z => absurd rfl z⟩
  have n92 : wp_TuneSetterModel_next_92 post c x 0 0 J B := ⟨fun _ => n109, fun z => absurd rfl z⟩
  have n65 : wp_TuneSetterModel_next_65 post c x 0 0 J B := ⟨fun z => absurd z h11, fun _ => n92⟩
  have n48 : wp_TuneSetterModel_next_48 post c x 0 0 J B := ⟨fun _ => n65, fun z => absurd rfl z⟩
  exact ⟨fun z => absurd z h11, fun _ => ⟨fun _ => n48, fun z => absurd rfl z⟩⟩
theorem next_go (h9 : ¬ J 9 = 9) (h11 : ¬ J 9 = 11) (hq : wp_TuneSetterModel_go c x J B post) : wp_TuneSetterModel_next c x J B post :=
  ⟨fun z => absurd z h9, fun _ => n22_go h11 hq⟩
theorem go_0 (h : J 9 = 0) (hq : (c = 32 → post 0 J B) ∧ (¬ c = 32 → ((c = 124 → (wp_TuneSetterModel_beginLine c x J B post)) ∧ (¬ c = 124 → ((c = 58 → (wp_TuneSetterModel_beginLine c x J B post)) ∧ (¬ c = 58 → (wp_TuneSetterModel_beginBar c x J B post))))))) : wp_TuneSetterModel_go c x J B post :=
  ⟨fun _ => hq, fun z => absurd (h.symm.trans z) (by decide), fun z => absurd (h.symm.trans z) (by decide), fun z => absurd (h.symm.trans z) (by decide), fun z => absurd (h.symm.trans z) (by decide), fun z => absurd (h.symm.trans z) (by decide), fun z => absurd (h.symm.trans z) (by decide), fun z => absurd (h.symm.trans z) (by decide), fun z => absurd (h.symm.trans z) (by decide), fun z => absurd (h.symm.trans z) (by decide), fun z => absurd (h.symm.trans z) (by decide), fun z0 z1 z2 z3 z4 z5 z6 z7 z8 z9 z10 => absurd h z0⟩
theorem nx_0 (h : J 9 = 0) (hq : (c = 32 → post 0 J B) ∧ (¬ c = 32 → ((c = 124 → (wp_TuneSetterModel_beginLine c x J B post)) ∧ (¬ c = 124 → ((c = 58 → (wp_TuneSetterModel_beginLine c x J B post)) ∧ (¬ c = 58 → (wp_TuneSetterModel_beginBar c x J B post))))))) : wp_TuneSetterModel_next c x J B post :=
  next_go (by rw [h]; decide) (by rw [h]; decide) (go_0 h hq)
theorem go_1 (h : J 9 = 1) (hq : wp_TuneSetterModel_goOnLine c x J B post) : wp_TuneSetterModel_go c x J B post :=
  ⟨fun z => absurd (h.symm.trans z) (by decide), fun _ => hq, fun z => absurd (h.symm.trans z) (by decide), fun z => absurd (h.symm.trans z) (by decide), fun z => absurd (h.symm.trans z) (by decide), fun z => absurd (h.symm.trans z) (by decide), fun z => absurd (h.symm.trans z) (by decide), fun z => absurd (h.symm.trans z) (by decide), fun z => absurd (h.symm.trans z) (by decide), fun z => absurd (h.symm.trans z) (by decide), fun z => absurd (h.symm.trans z) (by decide), fun z0 z1 z2 z3 z4 z5 z6 z7 z8 z9 z10 => absurd h z1⟩
theorem nx_1 (h : J 9 = 1) (hq : wp_TuneSetterModel_goOnLine c x J B post) : wp_TuneSetterModel_next c x J B post :=
  next_go (by rw [h]; decide) (by rw [h]; decide) (go_1 h hq)
theorem go_2 (h : J 9 = 2) (hq : wp_TuneSetterModel_goOnLine c x J B post) : wp_TuneSetterModel_go c x J B post :=
  ⟨fun z => absurd (h.symm.trans z) (by decide), fun z => absurd (h.symm.trans z) (by decide), fun _ => hq, fun z => absurd (h.symm.trans z) (by decide), fun z => absurd (h.symm.trans z) (by decide), fun z => absurd (h.symm.trans z) (by decide), fun z => absurd (h.symm.trans z) (by decide), fun z => absurd (h.symm.trans z) (by decide), fun z => absurd (h.symm.trans z) (by decide), fun z => absurd (h.symm.trans z) (by decide), fun z => absurd (h.symm.trans z) (by decide), fun z0 z1 z2 z3 z4 z5 z6 z7 z8 z9 z10 => absurd h z2⟩
theorem nx_2 (h : J 9 = 2) (hq : wp_TuneSetterModel_goOnLine c x J B post) : wp_TuneSetterModel_next c x J B post :=
  next_go (by rw [h]; decide) (by rw [h]; decide) (go_2 h hq)
theorem go_3 (h : J 9 = 3) (hq : wp_TuneSetterModel_behind c x J B post) : wp_TuneSetterModel_go c x J B post :=
  ⟨fun z => absurd (h.symm.trans z) (by decide), fun z => absurd (h.symm.trans z) (by decide), fun z => absurd (h.symm.trans z) (by decide), fun _ => hq, fun z => absurd (h.symm.trans z) (by decide), fun z => absurd (h.symm.trans z) (by decide), fun z => absurd (h.symm.trans z) (by decide), fun z => absurd (h.symm.trans z) (by decide), fun z => absurd (h.symm.trans z) (by decide), fun z => absurd (h.symm.trans z) (by decide), fun z => absurd (h.symm.trans z) (by decide), fun z0 z1 z2 z3 z4 z5 z6 z7 z8 z9 z10 => absurd h z3⟩
theorem nx_3 (h : J 9 = 3) (hq : wp_TuneSetterModel_behind c x J B post) : wp_TuneSetterModel_next c x J B post :=
  next_go (by rw [h]; decide) (by rw [h]; decide) (go_3 h hq)
theorem go_4 (h : J 9 = 4) (hq : (c = 49 → wp_TuneSetterModel_go_128 post c J B) ∧ (¬ c = 49 → ((c = 50 → wp_TuneSetterModel_go_128 post c J B) ∧ (¬ c = 50 → (wp_TuneSetterModel_openItem J B (fun J1 B1 => (wp_TuneSetterModel_openChord c J1 B1 post))))))) : wp_TuneSetterModel_go c x J B post :=
  ⟨fun z => absurd (h.symm.trans z) (by decide), fun z => absurd (h.symm.trans z) (by decide), fun z => absurd (h.symm.trans z) (by decide), fun z => absurd (h.symm.trans z) (by decide), fun _ => hq, fun z => absurd (h.symm.trans z) (by decide), fun z => absurd (h.symm.trans z) (by decide), fun z => absurd (h.symm.trans z) (by decide), fun z => absurd (h.symm.trans z) (by decide), fun z => absurd (h.symm.trans z) (by decide), fun z => absurd (h.symm.trans z) (by decide), fun z0 z1 z2 z3 z4 z5 z6 z7 z8 z9 z10 => absurd h z4⟩
theorem nx_4 (h : J 9 = 4) (hq : (c = 49 → wp_TuneSetterModel_go_128 post c J B) ∧ (¬ c = 49 → ((c = 50 → wp_TuneSetterModel_go_128 post c J B) ∧ (¬ c = 50 → (wp_TuneSetterModel_openItem J B (fun J1 B1 => (wp_TuneSetterModel_openChord c J1 B1 post))))))) : wp_TuneSetterModel_next c x J B post :=
  next_go (by rw [h]; decide) (by rw [h]; decide) (go_4 h hq)
theorem go_5 (h : J 9 = 5) (hq : (c = 32 → post 0 J B) ∧ (¬ c = 32 → (wp_TuneSetterModel_beginItem c J B post))) : wp_TuneSetterModel_go c x J B post :=
  ⟨fun z => absurd (h.symm.trans z) (by decide), fun z => absurd (h.symm.trans z) (by decide), fun z => absurd (h.symm.trans z) (by decide), fun z => absurd (h.symm.trans z) (by decide), fun z => absurd (h.symm.trans z) (by decide), fun _ => hq, fun z => absurd (h.symm.trans z) (by decide), fun z => absurd (h.symm.trans z) (by decide), fun z => absurd (h.symm.trans z) (by decide), fun z => absurd (h.symm.trans z) (by decide), fun z => absurd (h.symm.trans z) (by decide), fun z0 z1 z2 z3 z4 z5 z6 z7 z8 z9 z10 => absurd h z5⟩
theorem nx_5 (h : J 9 = 5) (hq : (c = 32 → post 0 J B) ∧ (¬ c = 32 → (wp_TuneSetterModel_beginItem c J B post))) : wp_TuneSetterModel_next c x J B post :=
  next_go (by rw [h]; decide) (by rw [h]; decide) (go_5 h hq)
theorem go_6 (h : J 9 = 6) (hq : (c = 51 → post 0 (upd J 9 7) B) ∧ (¬ c = 51 → post (-2) (upd J 9 7) B)) : wp_TuneSetterModel_go c x J B post :=
  ⟨fun z => absurd (h.symm.trans z) (by decide), fun z => absurd (h.symm.trans z) (by decide), fun z => absurd (h.symm.trans z) (by decide), fun z => absurd (h.symm.trans z) (by decide), fun z => absurd (h.symm.trans z) (by decide), fun z => absurd (h.symm.trans z) (by decide), fun _ => hq, fun z => absurd (h.symm.trans z) (by decide), fun z => absurd (h.symm.trans z) (by decide), fun z => absurd (h.symm.trans z) (by decide), fun z => absurd (h.symm.trans z) (by decide), fun z0 z1 z2 z3 z4 z5 z6 z7 z8 z9 z10 => absurd h z6⟩
theorem nx_6 (h : J 9 = 6) (hq : (c = 51 → post 0 (upd J 9 7) B) ∧ (¬ c = 51 → post (-2) (upd J 9 7) B)) : wp_TuneSetterModel_next c x J B post :=
  next_go (by rw [h]; decide) (by rw [h]; decide) (go_6 h hq)
theorem go_7 (h : J 9 = 7) (hq : (c = 40 → post (-2) J B) ∧ (¬ c = 40 → (wp_TuneSetterModel_core c J B post))) : wp_TuneSetterModel_go c x J B post :=
  ⟨fun z => absurd (h.symm.trans z) (by decide), fun z => absurd (h.symm.trans z) (by decide), fun z => absurd (h.symm.trans z) (by decide), fun z => absurd (h.symm.trans z) (by decide), fun z => absurd (h.symm.trans z) (by decide), fun z => absurd (h.symm.trans z) (by decide), fun z => absurd (h.symm.trans z) (by decide), fun _ => hq, fun z => absurd (h.symm.trans z) (by decide), fun z => absurd (h.symm.trans z) (by decide), fun z => absurd (h.symm.trans z) (by decide), fun z0 z1 z2 z3 z4 z5 z6 z7 z8 z9 z10 => absurd h z7⟩
theorem nx_7 (h : J 9 = 7) (hq : (c = 40 → post (-2) J B) ∧ (¬ c = 40 → (wp_TuneSetterModel_core c J B post))) : wp_TuneSetterModel_next c x J B post :=
  next_go (by rw [h]; decide) (by rw [h]; decide) (go_7 h hq)
theorem go_8 (h : J 9 = 8) (hq : wp_TuneSetterModel_goOnSign c J B post) : wp_TuneSetterModel_go c x J B post :=
  ⟨fun z => absurd (h.symm.trans z) (by decide), fun z => absurd (h.symm.trans z) (by decide), fun z => absurd (h.symm.trans z) (by decide), fun z => absurd (h.symm.trans z) (by decide), fun z => absurd (h.symm.trans z) (by decide), fun z => absurd (h.symm.trans z) (by decide), fun z => absurd (h.symm.trans z) (by decide), fun z => absurd (h.symm.trans z) (by decide), fun _ => hq, fun z => absurd (h.symm.trans z) (by decide), fun z => absurd (h.symm.trans z) (by decide), fun z0 z1 z2 z3 z4 z5 z6 z7 z8 z9 z10 => absurd h z8⟩
theorem nx_8 (h : J 9 = 8) (hq : wp_TuneSetterModel_goOnSign c J B post) : wp_TuneSetterModel_next c x J B post :=
  next_go (by rw [h]; decide) (by rw [h]; decide) (go_8 h hq)
theorem go_9 (h : J 9 = 9) (hq : (c = 44 → wp_TuneSetterModel_go_234 post c (-1) (J 17) J B) ∧ (¬ c = 44 → wp_TuneSetterModel_go_234 post c 1 (J 17) J B)) : wp_TuneSetterModel_go c x J B post :=
  ⟨fun z => absurd (h.symm.trans z) (by decide), fun z => absurd (h.symm.trans z) (by decide), fun z => absurd (h.symm.trans z) (by decide), fun z => absurd (h.symm.trans z) (by decide), fun z => absurd (h.symm.trans z) (by decide), fun z => absurd (h.symm.trans z) (by decide), fun z => absurd (h.symm.trans z) (by decide), fun z => absurd (h.symm.trans z) (by decide), fun z => absurd (h.symm.trans z) (by decide), fun _ => hq, fun z => absurd (h.symm.trans z) (by decide), fun z0 z1 z2 z3 z4 z5 z6 z7 z8 z9 z10 => absurd h z9⟩
theorem go_10 (h : J 9 = 10) (hq : wp_TuneSetterModel_inChord c J B post) : wp_TuneSetterModel_go c x J B post :=
  ⟨fun z => absurd (h.symm.trans z) (by decide), fun z => absurd (h.symm.trans z) (by decide), fun z => absurd (h.symm.trans z) (by decide), fun z => absurd (h.symm.trans z) (by decide), fun z => absurd (h.symm.trans z) (by decide), fun z => absurd (h.symm.trans z) (by decide), fun z => absurd (h.symm.trans z) (by decide), fun z => absurd (h.symm.trans z) (by decide), fun z => absurd (h.symm.trans z) (by decide), fun z => absurd (h.symm.trans z) (by decide), fun _ => hq, fun z0 z1 z2 z3 z4 z5 z6 z7 z8 z9 z10 => absurd h z10⟩
theorem nx_10 (h : J 9 = 10) (hq : wp_TuneSetterModel_inChord c J B post) : wp_TuneSetterModel_next c x J B post :=
  next_go (by rw [h]; decide) (by rw [h]; decide) (go_10 h hq)
theorem go_12 (h : J 9 = 12) (hq : wp_TuneSetterModel_inside c x J B post) : wp_TuneSetterModel_go c x J B post :=
  ⟨fun z => absurd (h.symm.trans z) (by decide), fun z => absurd (h.symm.trans z) (by decide), fun z => absurd (h.symm.trans z) (by decide), fun z => absurd (h.symm.trans z) (by decide), fun z => absurd (h.symm.trans z) (by decide), fun z => absurd (h.symm.trans z) (by decide), fun z => absurd (h.symm.trans z) (by decide), fun z => absurd (h.symm.trans z) (by decide), fun z => absurd (h.symm.trans z) (by decide), fun z => absurd (h.symm.trans z) (by decide), fun z => absurd (h.symm.trans z) (by decide), fun z0 z1 z2 z3 z4 z5 z6 z7 z8 z9 z10 => hq⟩
theorem nx_12 (h : J 9 = 12) (hq : wp_TuneSetterModel_inside c x J B post) : wp_TuneSetterModel_next c x J B post :=
  next_go (by rw [h]; decide) (by rw [h]; decide) (go_12 h hq)
theorem nx_9 (h : J 9 = 9) (hg : goL c (J 18)) (hq : (c = 44 → wp_TuneSetterModel_go_234 post c (-1) (J 17) J B) ∧ (¬ c = 44 → wp_TuneSetterModel_go_234 post c 1 (J 17) J B)) : wp_TuneSetterModel_next c x J B post := by
  refine ⟨fun _ => ?_, fun z => absurd h z⟩
  rw [goesOnLetter_iff, b2_t hg]
  exact ⟨fun z => absurd z (by decide), fun _ => n22_go (by rw [h]; decide) (go_9 h hq)⟩
/-- behind an item's end -/
def ENDS (c x : Int32) (post : Int32 → (Nat → Int32) → (Nat → Nat → Int32) → Prop) (J : Nat → Int32) (B : Nat → Nat → Int32) : Prop := ((c = 45 → (((J 12) = 0 → (vp_in ((J 8) - 1) 48 ∧ post 0 (upd J 9 12) (upd2 B 7 (((J 8) - 1).toNatClampNeg) 1))) ∧ (¬ (J 12) = 0 → (wp_TuneSetterModel_inside c x (upd J 9 12) B post)))) ∧ (¬ c = 45 → (wp_TuneSetterModel_inside c x (upd J 9 12) B post)))
theorem n158_i {y3 y4 : Int32} (hq : wp_TuneSetterModel_itemDone J B (fun J1 B1 => ENDS c x post J1 B1)) : wp_TuneSetterModel_next_158 post c x y3 y4 1 J B :=
  ⟨fun z => absurd z (by decide), fun _ => hq⟩
theorem n158_n {y3 : Int32} (hq : wp_TuneSetterModel_count c (upd J 9 11) B (fun J1 B1 => post 0 J1 B1)) : wp_TuneSetterModel_next_158 post c x y3 1 0 J B :=
  ⟨fun _ => ⟨fun z => absurd z (by decide), fun _ => hq⟩, fun z => absurd rfl z⟩
/-- a number goes on -/
theorem nx_11g (h : J 9 = 11) (hg : goN c (J 21) (J 20) (J 23)) (hq : wp_TuneSetterModel_count c (upd J 9 11) B (fun J1 B1 => post 0 J1 B1)) : wp_TuneSetterModel_next c x J B post := by
  have n127 : wp_TuneSetterModel_next_127 post c x 0 1 0 J B := ⟨fun _ => n158_n hq, fun z => absurd rfl z⟩
  have n109 : wp_TuneSetterModel_next_109 post c x 0 1 J B := ⟨fun _ => n127, fun z => absurd rfl z⟩
  have n92 : wp_TuneSetterModel_next_92 post c x 0 1 J B := by
    refine ⟨fun z => absurd z (by decide), fun _ => ?_⟩
    rw [goesOnNumber_iff, b2_t hg]
    exact ⟨fun z => absurd z (by decide), fun _ => n109⟩
  have n65 : wp_TuneSetterModel_next_65 post c x 0 1 J B := by
    refine ⟨fun _ => ?_, fun z => absurd h z⟩
    rw [misDigit_iff]
    refine ⟨fun _ => n92, fun _ => ?_⟩
    rw [goesOnNumber_iff, b2_t hg]
    exact ⟨fun z => absurd z (by decide), fun _ => n92⟩
  have n48 : wp_TuneSetterModel_next_48 post c x 0 1 J B := ⟨fun _ => n65, fun z => absurd rfl z⟩
  exact ⟨fun z => absurd (h.symm.trans z) (by decide), fun _ => ⟨fun _ => n48, fun z => absurd h z⟩⟩
/-- a digit too many -/
theorem nx_11b (h : J 9 = 11) (hd : dig c) (hg : ¬ goN c (J 21) (J 20) (J 23)) (hq : post (-2) J B) : wp_TuneSetterModel_next c x J B post := by
  have n65 : wp_TuneSetterModel_next_65 post c x 0 1 J B := by
    refine ⟨fun _ => ?_, fun z => absurd h z⟩
    rw [misDigit_iff, b2_t hd]
    refine ⟨fun z => absurd z (by decide), fun _ => ?_⟩
    rw [goesOnNumber_iff, b2_f hg]
    exact ⟨fun _ => hq, fun z => absurd rfl z⟩
  have n48 : wp_TuneSetterModel_next_48 post c x 0 1 J B := ⟨fun _ => n65, fun z => absurd rfl z⟩
  exact ⟨fun z => absurd (h.symm.trans z) (by decide), fun _ => ⟨fun _ => n48, fun z => absurd h z⟩⟩
/-- a number ends -/
theorem nx_11e (h : J 9 = 11) (hd : ¬ dig c) (hg : ¬ goN c (J 21) (J 20) (J 23)) (hq : wp_TuneSetterModel_hasLength J B (fun r J1 B1 => (r = 0 → post (-3) J1 B1) ∧ (¬ r = 0 → wp_TuneSetterModel_next_127 post c x 0 1 1 J1 B1))) : wp_TuneSetterModel_next c x J B post := by
  have n92 : wp_TuneSetterModel_next_92 post c x 0 1 J B := by
    refine ⟨fun z => absurd z (by decide), fun _ => ?_⟩
    rw [goesOnNumber_iff, b2_f hg]
    exact ⟨fun _ => ⟨fun z => absurd z (by decide), fun _ => hq⟩, fun z => absurd rfl z⟩
  have n65 : wp_TuneSetterModel_next_65 post c x 0 1 J B := by
    refine ⟨fun _ => ?_, fun z => absurd h z⟩
    rw [misDigit_iff, b2_f hd]
    exact ⟨fun _ => n92, fun z => absurd rfl z⟩
  have n48 : wp_TuneSetterModel_next_48 post c x 0 1 J B := ⟨fun _ => n65, fun z => absurd rfl z⟩
  exact ⟨fun z => absurd (h.symm.trans z) (by decide), fun _ => ⟨fun _ => n48, fun z => absurd h z⟩⟩
theorem n127_n {y5 : Int32} {y4 : Int32} (hq : wp_TuneSetterModel_next_158 post c x 0 y4 y5 J B) : wp_TuneSetterModel_next_127 post c x 0 y4 y5 J B := ⟨fun _ => hq, fun z => absurd rfl z⟩
/-- the pitch -/
theorem n127_bad {y4 y5 : Int32} (ht : ∀ post2 : Int32 → (Nat → Int32) → (Nat → Nat → Int32) → Prop, (∀ r : Int32, (r < 0 ∨ (¬ r < 0 ∧ ¬ r ≤ 127)) → post2 r J B) → wp_TuneSetterModel_toneOf J B post2) (hq : post (-4) J B) : wp_TuneSetterModel_next_127 post c x 1 y4 y5 J B := by
  refine ⟨fun z => absurd z (by decide), fun _ => ht _ (fun r hr => ?_)⟩
  rcases hr with h | ⟨h1, h2⟩
  · exact ⟨fun _ => hq, fun z => absurd h z⟩
  · exact ⟨fun _ => hq, fun _ => ⟨fun z => absurd z h2, fun _ => hq⟩⟩
theorem n127_ok {y4 y5 : Int32} {t : Nat} {B2 : Nat → Nat → Int32} (ht8 : t < 128) (ht : ∀ post2 : Int32 → (Nat → Int32) → (Nat → Nat → Int32) → Prop, post2 (nI t) J B → wp_TuneSetterModel_toneOf J B post2) (hd : ∀ post3 : (Nat → Int32) → (Nat → Nat → Int32) → Prop, post3 J B2 → wp_TuneSetterModel_noteDone (nI t) J B post3) (hq : wp_TuneSetterModel_next_158 post c x 1 y4 y5 J B2) : wp_TuneSetterModel_next_127 post c x 1 y4 y5 J B := by
  refine ⟨fun z => absurd z (by decide), fun _ => ht _ ⟨fun z => absurd z (nI_nneg (by omega)), fun _ => ⟨fun _ => hd _ hq, fun z => absurd ?_ z⟩⟩⟩
  rw [show (127 : Int32) = nI 127 from by decide]
  exact (nI_leI (by omega) (by omega)).mpr (by omega)
/-- a letter ends: in a chord; or not, and a number begins, or the item ends -/
theorem nx_9c (h : J 9 = 9) (hg : ¬ goL c (J 18)) (h11 : J 11 = 1) (hq : wp_TuneSetterModel_next_127 post c x 1 0 0 J B) : wp_TuneSetterModel_next c x J B post := by
  have h9 : ¬ J 9 = 11 := by rw [h]; decide
  have hc : ¬ J 11 = 0 := by rw [h11]; decide
  have n109 : wp_TuneSetterModel_next_109 post c x 1 0 J B := ⟨fun _ => hq, fun z => absurd rfl z⟩
  have n92 : wp_TuneSetterModel_next_92 post c x 1 0 J B := ⟨fun _ => n109, fun z => absurd rfl z⟩
  have n65 : wp_TuneSetterModel_next_65 post c x 1 0 J B := ⟨fun z => absurd z h9, fun _ => n92⟩
  have n48 : wp_TuneSetterModel_next_48 post c x 1 0 J B := ⟨fun z => absurd z (by decide), fun _ => ⟨fun z => absurd z hc, fun _ => n65⟩⟩
  refine ⟨fun _ => ?_, fun z => absurd h z⟩
  rw [goesOnLetter_iff, b2_f hg]
  exact ⟨fun _ => ⟨fun z => absurd z h9, fun _ => ⟨fun z => absurd z (by decide), fun _ => ⟨fun z => absurd z hc, fun _ => n48⟩⟩⟩, fun z => absurd rfl z⟩
abbrev oN (J : Nat → Int32) : Nat → Int32 := upd (upd (upd (upd (upd (upd J 19 0) 20 0) 21 0) 22 0) 23 0) 9 11
theorem nx_9x (h : J 9 = 9) (hg : ¬ goL c (J 18)) (h11 : J 11 = 0) (hq : wp_TuneSetterModel_next_65 post c x 1 1 (oN J) B) : wp_TuneSetterModel_next c x J B post := by
  have h9 : ¬ J 9 = 11 := by rw [h]; decide
  have n48 : wp_TuneSetterModel_next_48 post c x 1 1 J B := ⟨fun z => absurd z (by decide), fun _ => ⟨fun _ => hq, fun z => absurd h11 z⟩⟩
  refine ⟨fun _ => ?_, fun z => absurd h z⟩
  rw [goesOnLetter_iff, b2_f hg]
  exact ⟨fun _ => ⟨fun z => absurd z h9, fun _ => ⟨fun z => absurd z (by decide), fun _ => ⟨fun _ => n48, fun z => absurd h11 z⟩⟩⟩, fun z => absurd rfl z⟩
theorem nx_9g (h : J 9 = 9) (hg : ¬ goL c (J 18)) (h11 : J 11 = 0) (hd : c = 47 ∨ dig c) (hq : wp_TuneSetterModel_next_127 post c x 1 1 0 (oN J) B) : wp_TuneSetterModel_next c x J B post := by
  have hn : goN c (oN J 21) (oN J 20) (oN J 23) := by
    rcases hd with e | e
    · exact Or.inl ⟨e, rfl⟩
    · exact Or.inr ⟨e, Or.inl ⟨rfl, (by decide : (0 : Int32) < 3)⟩⟩
  have n109 : wp_TuneSetterModel_next_109 post c x 1 1 (oN J) B := ⟨fun _ => hq, fun z => absurd rfl z⟩
  have n92 : wp_TuneSetterModel_next_92 post c x 1 1 (oN J) B := by
    refine ⟨fun z => absurd z (by decide), fun _ => ?_⟩
    rw [goesOnNumber_iff, b2_t hn]
    exact ⟨fun z => absurd z (by decide), fun _ => n109⟩
  refine nx_9x h hg h11 ⟨fun _ => ?_, fun z => absurd rfl z⟩
  rw [misDigit_iff]
  refine ⟨fun _ => n92, fun _ => ?_⟩
  rw [goesOnNumber_iff, b2_t hn]
  exact ⟨fun z => absurd z (by decide), fun _ => n92⟩
theorem nx_9e (h : J 9 = 9) (hg : ¬ goL c (J 18)) (h11 : J 11 = 0) (hd : ¬ dig c) (h47 : ¬ c = 47) (hq : wp_TuneSetterModel_hasLength (oN J) B (fun r J1 B1 => (r = 0 → post (-3) J1 B1) ∧ (¬ r = 0 → wp_TuneSetterModel_next_127 post c x 1 1 1 J1 B1))) : wp_TuneSetterModel_next c x J B post := by
  have hn : ¬ goN c (oN J 21) (oN J 20) (oN J 23) := by
    rintro (⟨e, -⟩ | ⟨e, -⟩)
    · exact h47 e
    · exact hd e
  refine nx_9x h hg h11 ⟨fun _ => ?_, fun z => absurd rfl z⟩
  rw [misDigit_iff, b2_f hd]
  refine ⟨fun _ => ⟨fun z => absurd z (by decide), fun _ => ?_⟩, fun z => absurd rfl z⟩
  rw [goesOnNumber_iff, b2_f hn]
  exact ⟨fun _ => ⟨fun z => absurd z (by decide), fun _ => hq⟩, fun z => absurd rfl z⟩
end NX
/-! steps by mode: lines, bars, what stands between items -/
/-- the character, on both sides: 0 and -1 at the end -/
def Cr (c cr : Int32) : Prop := (c = cr ∧ ¬ c = 0 ∧ ¬ c = -1) ∨ (c = 0 ∧ cr = -1)
section CR
variable {c cr : Int32}
theorem Cr_of (h : Cr c cr) (h0 : ¬ c = 0) : cr = c := by
  rcases h with ⟨e, -⟩ | ⟨e, -⟩
  · exact e.symm
  · exact absurd e h0
theorem Cr_k {k : Int32} (h : Cr c cr) (k0 : ¬ k = 0) (k1 : ¬ k = -1) : cr = k ↔ c = k := by
  rcases h with ⟨e, -⟩ | ⟨e1, e2⟩
  · rw [e]
  · rw [e1, e2]; exact ⟨fun z => absurd z.symm k1, fun z => absurd z.symm k0⟩
theorem Cr_bn (h : Cr c cr) : bnE cr ↔ bnE c := by
  rcases h with ⟨e, -⟩ | ⟨e1, e2⟩
  · rw [e]
  · rw [e1, e2]; decide
theorem Cr_bi (h : Cr c cr) : biE cr ↔ biE c := by
  rcases h with ⟨e, -⟩ | ⟨e1, e2⟩
  · rw [e]
  · rw [e1, e2]; decide
theorem Cr_dg (h : Cr c cr) : dig cr ↔ dig c := by
  rcases h with ⟨e, -⟩ | ⟨e1, e2⟩
  · rw [e]
  · rw [e1, e2]; decide
theorem Cr_lt (h : Cr c cr) : ltr cr ↔ ltr c := by
  rcases h with ⟨e, -⟩ | ⟨e1, e2⟩
  · rw [e]
  · rw [e1, e2]; decide
theorem bi0 (h : biE c) : ¬ c = 0 := fun z => by rw [z] at h; revert h; decide
theorem bn0 (h : bnE c) : ¬ c = 0 := bi0 (biE_n h)
theorem dg0 (h : dig c) : ¬ c = 0 := fun z => by rw [z] at h; revert h; decide
theorem bv_m (h : biE c) : ¬ bv c = -1 := by
  rcases bv_opI h with e | e | e | e | e | e <;> rw [e] <;> decide
end CR
/-- states in which no note, no item can end -/
abbrev plainS (st : Int32) : Prop := ¬ (11 ≤ st ∧ st ≤ 17) ∧ 0 ≤ st ∧ st ≤ 20 ∧ (tb_MAY st.toNatClampNeg &&& 16384) = 0
theorem plain_of {st ch c : Int32} (h : ¬ (11 ≤ st ∧ st ≤ 17)) : ¬ lenE st ch c ∧ ¬ octE st c := by
  have ho : ¬ octE st c := by
    rintro (⟨e, -⟩ | ⟨e, -⟩ | ⟨e, -⟩) <;> exact h (by rw [e]; decide)
  refine ⟨?_, ho⟩
  rintro (⟨e | e, -⟩ | ⟨e | e | e, -⟩)
  · exact h (by rw [e]; decide)
  · exact h (by rw [e]; decide)
  · exact h (by rw [e]; decide)
  · exact h (by rw [e]; decide)
  · exact ho e.1
theorem plain_nd {st ch : Int32} (h : plainS st) : ¬ mv st ch 16384 := by
  refine fun z => (mv_o ?_).mp z h.2.2.2
  rintro (e | e | e) <;> exact h.1 (by rw [e]; decide)
def EnvQ (p : Nat) (c cr f : Int32) (I J : Nat → Int32) (B : Nat → Nat → Int32) : Prop := I 15 = nI p ∧ J 7 = nI p ∧ Look p f J B ∧ Cr c cr
section MD
variable {p b b0 n n0 tl : Nat} {c cr f : Int32} {K : KT} {I : Nat → Int32} {A : Nat → Nat → Int32} {J : Nat → Int32} {B : Nat → Nat → Int32} {q : Sc} {sg it fn : Nat → Nat} {R : (Nat → Int32) → (Nat → Nat → Int32) → Prop}
theorem good_bad {e : Int32} (hg : Good p c f K) (hF : Fix I A J B) (hv : EnvQ p c cr f I J B) (he : e < 0) : K (upd (upd I 3 e) 4 (I 15)) A e J B :=
  hg.1 _ _ _ _ _ (fixF hF) he rfl (by show I 15 = J 7; rw [hv.1, hv.2.1])
theorem plain_bad {st : Int32} (h14 : I 14 = st) (hst : plainS st) (h3 : I 3 = 0) (hf : folF st (I 22) (I 20) (I 17) (I 19) (I 11) (I 0) 0 c f = -1) (hq : failed (-2) (I 15) R I A) : wp_Reader_step c f I A R := by
  have hp := plain_of (ch := I 22) (c := c) hst.1
  subst h14
  exact step_plain h3 hp.1 hp.2 (s31_bad (rs := 0) h3 hst.2.1 hst.2.2.1 (fun z => absurd z (plain_nd hst)) hf hq)
theorem plain_go {st v : Int32} (h14 : I 14 = st) (hst : plainS st) (h3 : I 3 = 0) (hf : folF st (I 22) (I 20) (I 17) (I 19) (I 11) (I 0) 0 c f = v) (hn : ¬ v = -1) (hq : wp_Reader_step_61 R c v I A) : wp_Reader_step c f I A R := by
  have hp := plain_of (ch := I 22) (c := c) hst.1
  subst h14
  exact step_plain h3 hp.1 hp.2 (s31_go (rs := 0) h3 hst.2.1 hst.2.2.1 (fun z => absurd z (plain_nd hst)) hf hn hq)
/-- what opens nothing -/
theorem s61_no {v : Int32} (h3 : I 3 = 0) (hv : ¬ (v = 1 ∨ v = 2 ∨ v = 4 ∨ v = 6 ∨ v = 8 ∨ v = 9 ∨ v = 10 ∨ v = 11 ∨ v = 14)) (hq : takes c v R I A) : wp_Reader_step_61 R c v I A := by
  refine s61_plain h3 ?_ ?_ ?_ ?_ hq
  · rintro (e | e)
    · exact hv (Or.inl e)
    · exact hv (Or.inr (Or.inl e))
  · rintro ⟨-, e | ⟨-, e | e | e | e | e | e⟩⟩
    · exact hv (by rw [e]; decide)
    · exact hv (by rw [e]; decide)
    · exact hv (by rw [e]; decide)
    · exact hv (by rw [e]; decide)
    · exact hv (by rw [e]; decide)
    · exact hv (by rw [e]; decide)
    · exact hv (by rw [e]; decide)
  · rintro ⟨-, e | e | e | e | e | e⟩
    · exact hv (by rw [e]; decide)
    · exact hv (by rw [e]; decide)
    · exact hv (by rw [e]; decide)
    · exact hv (by rw [e]; decide)
    · exact hv (by rw [e]; decide)
    · exact hv (by rw [e]; decide)
  · rintro ⟨-, e | e | e, -⟩
    · exact hv (by rw [e]; decide)
    · exact hv (by rw [e]; decide)
    · exact hv (by rw [e]; decide)
/-- in an item: what opens no line, and no note of a chord -/
theorem s61_in {v : Int32} (h3 : I 3 = 0) (h20 : I 20 = 1) (h21 : I 21 = 1) (hv : ¬ (v = 1 ∨ v = 2)) (hC : ¬ opC (I 22) (I 14) v) (hq : takes c v R I A) : wp_Reader_step_61 R c v I A :=
  s61_plain h3 hv (fun z => absurd z.1 (by rw [h20]; decide)) (fun z => absurd z.1 (by rw [h21]; decide)) hC hq
theorem full_nneg (h : Fix I A J B) : ¬ I 12 < 0 := by
  obtain ⟨⟨⟨a1, a2⟩, r2, r3, r4, r5, r6, r7⟩, -, -, -, f1, -⟩ := h
  rw [f1, r5]
  have : J 0 = 1 ∨ J 0 = 2 ∨ J 0 = 3 ∨ J 0 = 4 ∨ J 0 = 5 ∨ J 0 = 6 ∨ J 0 = 7 ∨ J 0 = 8 ∨ J 0 = 9 ∨ J 0 = 10 ∨ J 0 = 11 ∨ J 0 = 12 := by grind
  rcases this with e | e | e | e | e | e | e | e | e | e | e | e <;> rw [e] <;> rcases r2 with e2 | e2 | e2 <;> rw [e2] <;> decide
theorem insF_i {t : Int32} (e1 : ¬ c = 32) (e2 : ¬ (c = 124 ∨ c = 58)) (h : biE c ∧ ¬ (c = 40 ∧ ¬ t = 0)) : insF t c = bv c := by
  unfold insF; rw [if_neg e1, if_neg (fun z => e2 (Or.inl z)), if_neg (fun z => e2 (Or.inr z)), if_pos h]
theorem insF_x {t : Int32} (e1 : ¬ c = 32) (e2 : ¬ (c = 124 ∨ c = 58)) (h : ¬ (biE c ∧ ¬ (c = 40 ∧ ¬ t = 0))) : insF t c = -1 := by
  unfold insF; rw [if_neg e1, if_neg (fun z => e2 (Or.inl z)), if_neg (fun z => e2 (Or.inr z)), if_neg h]
/-- a line begins -/
theorem line_sim (hR : ∀ I1 A1, wp_TuneSetterModel_beginLine c (nI p) J B (K I1 A1) → R I1 A1) (hB : Base b n p q sg it fn I A J B) (h21 : I 21 = 0) (h22 : I 22 = 0) (h17 : I 17 = 0) (h6 : I 6 = 99) (hd : done q n) (hL : ¬ I 12 < Lb b B) (hs : I 15 = nI p) (hc : c = 124 ∨ c = 58) (hg : Good p c f K) : wp_Reader_step_61 R c (if c = 124 then 1 else 2) I A := by
  have hD := hB.2.2.2
  have h3 := hB.2.1.2.2.2.2.2
  have hc0 : ¬ c = 0 := by rcases hc with e | e <;> rw [e] <;> decide
  refine s61_line (L := Lb b B) h3 (by split; exact Or.inl rfl; exact Or.inr rfl) (Lb_lbt hB) (fun z => ?_) (fun _ _ => ?_)
  · exfalso
    rcases z with z | z
    · exact hL z
    · exact z (by rw [h17]; decide)
  · by_cases e : c = 124
    · rw [if_pos e]
      refine tk_1 (b := b) hB.2.1.1 (by have := hD.1.1; omega) (hR _ _ ⟨fun _ => hg.2.1 _ _ _ _ hc0 h3 (i_bet ⟨b, n, q, sg, it, fn, ⟨hB.1, hB.2.1, bar_lineA hB.2.2.1, it_p hD (Nat.le_succ p)⟩, ⟨rfl, h21, h22, h17, h6, hd⟩, Or.inr (Or.inl ⟨rfl, rfl, hs.symm, upd_eq _ _ _⟩)⟩), fun z => absurd e z⟩)
    · rw [if_neg e]
      refine tk_2 (hR _ _ ⟨fun z => absurd z e, fun _ => hg.2.1 _ _ _ _ hc0 h3 (i_col ⟨b, n, q, sg, it, fn, hB.p2 (Nat.le_succ p), ⟨rfl, h21, h22, h17, h6, hd⟩, rfl, rfl, hs.symm⟩)⟩)
/-- between the items of a bar -/
theorem inside_sim {rs : Int32} (hR : ∀ I1 A1, wp_TuneSetterModel_inside cr (nI p) J B (K I1 A1) → R I1 A1) (hB : Base (b0 + 1) n p q sg it fn I A J B) (g : Gp n tl q I A J B) (hv : EnvQ p c cr f I J B) (h9 : ¬ I 14 = 9) (h0 : 0 ≤ I 14) (h1 : I 14 ≤ 20) (hr : mv (I 14) (I 22) 16384 → ∃ ic : Nat, ic < 48 ∧ I 1 = nI (ic + 1) ∧ (A 9 ic = I 2 ↔ ¬ rs = 0)) (hf : folF (I 14) (I 22) (I 20) (I 17) (I 19) (I 11) (I 0) rs c f = insF (I 17) c) (hJ9 : J 9 = 12) (hg : Good p c f K) : wp_Reader_step_31 R c f I A := by
  have h3 := hB.2.1.2.2.2.2.2
  have hc := hv.2.2.2
  have hD := hB.2.2.2
  have hb8 : b0 + 1 ≤ 8 := hD.1.1
  have ht : ∀ {x : Int32}, x = nI tl → (x ≤ 0 ↔ tl = 0) := by
    intro x hx
    rw [hx, show (0 : Int32) = nI 0 from by decide]
    have h4 := g.2.2.2.2.2.1
    exact ⟨fun z => by have := (nI_leI (a := tl) (b := 0) (by omega) (by omega)).mp z; omega, fun z => (nI_leI (by omega) (by omega)).mpr (by omega)⟩
  by_cases e1 : c = 32
  · have ec : cr = c := Cr_of hc (by rw [e1]; decide)
    rw [ec] at hR
    refine s31_go (v := 19) h3 h0 h1 hr (hf.trans (by unfold insF; rw [if_pos e1])) (by decide) (s61_no h3 (by decide) (tk_x (Or.inr (Or.inl rfl)) (hR _ _ ⟨fun _ => hg.2.1 _ _ _ _ (by rw [e1]; decide) h3 (i_ins ⟨b0, n, q, sg, it, fn, tl, hB.p2 (Nat.le_succ p), g, Or.inr rfl, hJ9⟩), fun z => absurd e1 z⟩)))
  by_cases e2 : c = 124 ∨ c = 58
  · have hc0 : ¬ c = 0 := by rcases e2 with e | e <;> rw [e] <;> decide
    have ec : cr = c := Cr_of hc hc0
    rw [ec] at hR
    have mid : ∀ {post : Int32 → (Nat → Int32) → (Nat → Nat → Int32) → Prop}, ((I 12 < B 4 b0 ∨ ¬ J 13 ≤ 0) → post (-5) J B) → (¬ I 12 < B 4 b0 → J 13 ≤ 0 → wp_TuneSetterModel_beginLine c (nI p) J B post) → wp_TuneSetterModel_inside c (nI p) J B post := by
      intro post y1 y2
      have m : wp_TuneSetterModel_inside_26 post c (nI p) J B := by
        unfold wp_TuneSetterModel_inside_26
        rw [hB.2.1.2.1, nI_pred, nI_clamp (by omega)]
        exact ⟨vp_in_nI (by omega) (by omega), full_ok hB.1 ⟨fun z => y1 (Or.inl z), fun z => ⟨fun z2 => y2 z z2, fun z2 => y1 (Or.inr z2)⟩⟩⟩
      exact ⟨fun z => absurd z e1, fun _ => ⟨fun _ => m, fun z => ⟨fun _ => m, fun z2 => absurd e2 (by rintro (y | y); exact z y; exact z2 y)⟩⟩⟩
    have eL : Lb (b0 + 1) B = B 4 b0 := by unfold Lb; rw [if_neg (by omega), Nat.add_sub_cancel]
    have ev : insF (I 17) c = if c = 124 then 1 else 2 := by
      unfold insF
      rw [if_neg e1]
      rcases e2 with e | e <;> rw [e] <;> rfl
    by_cases hbad : I 12 < B 4 b0 ∨ ¬ I 17 ≤ 0
    · refine s31_go h3 h0 h1 hr (hf.trans ev) (by split <;> decide) (s61_line (L := Lb (b0 + 1) B) h3 (by split; exact Or.inl rfl; exact Or.inr rfl) (Lb_lbt hB) (fun _ => ?_) (fun z1 z2 => ?_))
      · refine hR _ _ (mid (fun _ => good_bad hg hB.1 hv (by decide)) (fun z1 z2 => ?_))
        exfalso
        rcases hbad with z | z
        · exact z1 z
        · exact z ((ht g.2.2.2.1).mpr ((ht g.2.2.2.2.1).mp z2))
      · exfalso
        rw [eL] at z1
        rcases hbad with z | z
        · exact z1 z
        · exact z z2
    · have z1 : ¬ I 12 < B 4 b0 := fun z => hbad (Or.inl z)
      have z2 : I 17 ≤ 0 := Decidable.byContradiction (fun z => hbad (Or.inr z))
      have t0 : tl = 0 := (ht g.2.2.2.1).mp z2
      refine s31_go h3 h0 h1 hr (hf.trans ev) (by split <;> decide) (line_sim (f := f) (K := K) (fun I1 A1 h => hR I1 A1 (mid (fun z => ?_) (fun _ _ => h))) hB g.2.1 g.2.2.1 (g.2.2.2.1.trans (by rw [t0]; decide)) g.2.2.2.2.2.2.1 g.2.2.2.2.2.2.2.1 (by rw [eL]; exact z1) hv.1 e2 hg)
      exfalso
      rcases z with z | z
      · exact z1 z
      · exact z ((ht g.2.2.2.2.1).mpr t0)
  have t17 : I 17 = 0 ↔ tl = 0 := by
    rw [g.2.2.2.1, show (0 : Int32) = nI 0 from by decide]
    have h4 := g.2.2.2.2.2.1
    exact nI_eq (by omega) (by omega)
  have k32 : ¬ cr = 32 := mt (Cr_k hc (by decide) (by decide)).mp e1
  have k124 : ¬ cr = 124 := fun z => e2 (Or.inl ((Cr_k hc (by decide) (by decide)).mp z))
  have k58 : ¬ cr = 58 := fun z => e2 (Or.inr ((Cr_k hc (by decide) (by decide)).mp z))
  have up : ∀ I1 A1, wp_TuneSetterModel_beginItem cr J B (K I1 A1) → R I1 A1 := fun I1 A1 h => hR I1 A1 ⟨fun z => absurd z k32, fun _ => ⟨fun z => absurd z k124, fun _ => ⟨fun z => absurd z k58, fun _ => h⟩⟩⟩
  by_cases e3 : biE c ∧ ¬ (c = 40 ∧ ¬ I 17 = 0)
  · have ec : cr = c := Cr_of hc (bi0 e3.1)
    rw [ec] at up
    refine s31_go h3 h0 h1 hr (hf.trans (insF_i e1 e2 e3)) (bv_m e3.1) (item_sim (f := f) up hB g h9 hv.1 hv.2.1 e3.1 (fun z => ?_) hg)
    exact Decidable.byContradiction (fun y => e3.2 ⟨z, fun w => y (t17.mp w)⟩)
  · refine s31_bad h3 h0 h1 hr (hf.trans (insF_x e1 e2 e3)) (up _ _ (mitem_no ?_ (good_bad hg hB.1 hv (by decide))))
    by_cases e4 : biE c
    · have e5 : c = 40 ∧ ¬ I 17 = 0 := Decidable.byContradiction (fun z => e3 ⟨e4, z⟩)
      refine Or.inr ⟨(Cr_k hc (by decide) (by decide)).mpr e5.1, fun z => e5.2 (t17.mpr ((ht g.2.2.2.2.1).mp z))⟩
    · exact Or.inl (mt (Cr_bi hc).mp e4)
end MD
/-! steps by mode -/
section ST
variable {p b b0 n n0 tl : Nat} {c cr f : Int32} {K : KT} {I : Nat → Int32} {A : Nat → Nat → Int32} {J : Nat → Int32} {B : Nat → Nat → Int32} {q : Sc} {sg it fn : Nat → Nat} {R : (Nat → Int32) → (Nat → Nat → Int32) → Prop}
abbrev Step (R : (Nat → Int32) → (Nat → Nat → Int32) → Prop) (p : Nat) (c cr f : Int32) (K : KT) (I : Nat → Int32) (A : Nat → Nat → Int32) (J : Nat → Int32) (B : Nat → Nat → Int32) : Prop := (∀ I1 A1, wp_TuneSetterModel_next cr (nI p) J B (K I1 A1) → R I1 A1) → wp_Reader_step c f I A R
theorem bet_bar {st : Int32} (hR : ∀ I1 A1, wp_TuneSetterModel_beginBar cr (nI p) J B (K I1 A1) → R I1 A1) (hB : Base b n p q sg it fn I A J B) (g : Ou n q I) (hl : lineR (A 4 b) (B 5 b)) (h14 : I 14 = st) (hst : plainS st) (st9 : ¬ st = 9) (hv : EnvQ p c cr f I J B) (h16 : b = 0 ∨ J 10 = I 16) (hf : folF st (I 22) (I 20) (I 17) (I 19) (I 11) (I 0) 0 c f = if biE c then (if c = 91 ∧ (f = 49 ∨ f = 50) then 4 else bv c) else -1) (hg : Good p c f K) : wp_Reader_step c f I A R := by
  have h3 := hB.2.1.2.2.2.2.2
  by_cases e : biE c
  · rw [if_pos e] at hf
    have ec : cr = c := Cr_of hv.2.2.2 (bi0 e)
    rw [ec] at hR
    refine plain_go h14 hst h3 hf ?_ (bar_sim hR hB g hl (by rw [h14]; exact st9) hv.1 hv.2.1 hv.2.2.1 h16 e hg)
    split
    · decide
    · exact bv_m e
  · rw [if_neg e] at hf
    exact plain_bad h14 hst h3 hf (hR _ _ (mbar_no (mt (Cr_bi hv.2.2.2).mp e) (good_bad hg hB.1 hv (by decide))))
theorem beh_sim {st : Int32} (hR : ∀ I1 A1, wp_TuneSetterModel_behind cr (nI p) J B (K I1 A1) → R I1 A1) (hB : Base b n p q sg it fn I A J B) (g : Ou n q I) (hl : lineR (A 4 b) (B 5 b)) (h14 : I 14 = st) (hst : plainS st) (st9 : ¬ st = 9) (hv : EnvQ p c cr f I J B) (h16 : J 10 = I 16) (h9 : J 9 = 3) (hf : folF st (I 22) (I 20) (I 17) (I 19) (I 11) (I 0) 0 c f = if c = 0 then (if I 0 ≤ 0 then -1 else 20) else if c = 32 then 3 else if biE c then (if c = 91 ∧ (f = 49 ∨ f = 50) then 4 else bv c) else -1) (hg : Good p c f K) : wp_Reader_step c f I A R := by
  have h3 := hB.2.1.2.2.2.2.2
  have hD := hB.2.2.2
  have hb8 : b ≤ 8 := hD.1.1
  have le0 : nI b ≤ 0 ↔ b = 0 := by
    rw [show (0 : Int32) = nI 0 from by decide]
    exact ⟨fun z => by have := (nI_leI (a := b) (b := 0) (by omega) (by omega)).mp z; omega, fun z => (nI_leI (by omega) (by omega)).mpr (by omega)⟩
  by_cases e0 : c = 0
  · rw [if_pos e0, hB.2.1.1] at hf
    have ec : cr = -1 := by
      rcases hv.2.2.2 with ⟨-, y, -⟩ | ⟨-, y⟩
      · exact absurd e0 y
      · exact y
    by_cases eb : b = 0
    · rw [if_pos (le0.mpr eb), ← hB.2.1.1] at hf
      refine plain_bad h14 hst h3 hf (hR _ _ ⟨fun z => absurd z (by rw [ec]; decide), fun _ => ⟨fun _ => ⟨fun _ => mbar_no (by rw [ec]; decide) (good_bad hg hB.1 hv (by decide)), fun z => absurd ?_ z⟩, fun z => absurd ec z⟩⟩)
      rw [hB.2.1.2.1]; exact le0.mpr eb
    · rw [if_neg (mt le0.mp eb), ← hB.2.1.1] at hf
      refine plain_go h14 hst h3 hf (by decide) (s61_no h3 (by decide) (tk_x (Or.inr (Or.inr rfl)) (hR _ _ ⟨fun z => absurd z (by rw [ec]; decide), fun _ => ⟨fun _ => ⟨fun z => absurd ?_ eb, fun _ => hg.2.2 _ _ _ _ e0 h3 ⟨b, n, q, sg, it, fn, hB, by omega, g.2.2.2.2.2, hl, hv.2.1⟩⟩, fun z => absurd ec z⟩⟩)))
      rw [hB.2.1.2.1] at z; exact le0.mp z
  · rw [if_neg e0] at hf
    have ec : cr = c := Cr_of hv.2.2.2 e0
    have nm : ¬ c = -1 := by
      rcases hv.2.2.2 with ⟨-, -, y⟩ | ⟨y, -⟩
      · exact y
      · exact absurd y e0
    by_cases e1 : c = 32
    · rw [if_pos e1] at hf
      rw [ec, e1] at hR
      subst e1
      exact plain_go h14 hst h3 hf (by decide) (s61_no h3 (by decide) (tk_3s (hR _ _ ⟨fun _ => hg.2.1 _ _ _ _ (by decide) h3 (i_bet ⟨b, n, q, sg, it, fn, hB.p2 (Nat.le_succ p), g, Or.inr (Or.inr ⟨rfl, h9, h16, hl⟩)⟩), fun z => absurd rfl z⟩)))
    · rw [if_neg e1] at hf
      refine bet_bar (K := K) (fun I1 A1 h => hR I1 A1 ?_) hB g hl h14 hst st9 hv (Or.inr h16) hf hg
      exact ⟨fun z => absurd (ec.symm.trans z) e1, fun _ => ⟨fun z => absurd (ec.symm.trans z) nm, fun _ => h⟩⟩
section GL
variable {x : Int32} {post : Int32 → (Nat → Int32) → (Nat → Nat → Int32) → Prop}
theorem gol_two (hc : c = 124 ∨ c = 58) (h5 : J 5 = nI b) (hb : b ≤ 8) (hq : post 0 (upd J 9 3) (upd2 B 5 b (if J 9 = 1 then (if c = 124 then 1 else 2) else (if c = 124 then 3 else 4)))) : wp_TuneSetterModel_goOnLine c x J B post := by
  have h82 : ∀ s : Int32, s = (if J 9 = 1 then (if c = 124 then 1 else 2) else (if c = 124 then 3 else 4)) → wp_TuneSetterModel_goOnLine_82 post c x 1 s (J 5) J B := by
    intro s hs
    unfold wp_TuneSetterModel_goOnLine_82
    rw [h5, nI_clamp (by omega), hs]
    exact ⟨vp_in_nI (by omega) (by omega), fun z => absurd z (by decide), fun _ => hq⟩
  have h33 : wp_TuneSetterModel_goOnLine_33 post c x 1 J B := by
    refine ⟨fun z => absurd z (by decide), fun _ => ⟨fun z => ⟨fun y => h82 _ ?_, fun y => h82 _ ?_⟩, fun z => ⟨fun y => h82 _ ?_, fun y => h82 _ ?_⟩⟩⟩
    · rw [if_pos z, if_pos y]
    · rw [if_pos z, if_neg y]
    · rw [if_neg z, if_pos y]
    · rw [if_neg z, if_neg y]
  refine ⟨fun _ => ⟨fun _ => ⟨fun z => absurd z (by decide), fun _ => h33⟩, fun _ => h33⟩, fun z => ⟨fun _ => ⟨fun _ => ⟨fun z => absurd z (by decide), fun _ => h33⟩, fun _ => h33⟩, fun z2 => ?_⟩⟩
  exfalso
  rcases hc with e | e
  · exact z e
  · exact z2 e
theorem gol_one (h9 : J 9 = 1) (hc : ¬ (c = 124 ∨ c = 58)) (h5 : J 5 = nI b) (hb : b ≤ 8) (hq : wp_TuneSetterModel_behind c x (upd J 9 3) (upd2 B 5 b 0) post) : wp_TuneSetterModel_goOnLine c x J B post := by
  have h82 : wp_TuneSetterModel_goOnLine_82 post c x 0 0 (J 5) J B := by
    unfold wp_TuneSetterModel_goOnLine_82
    rw [h5, nI_clamp (by omega)]
    exact ⟨vp_in_nI (by omega) (by omega), fun _ => hq, fun z => absurd rfl z⟩
  have h33 : wp_TuneSetterModel_goOnLine_33 post c x 0 J B := ⟨fun _ => h82, fun z => absurd rfl z⟩
  exact ⟨fun z => absurd (Or.inl z) hc, fun _ => ⟨fun z => absurd (Or.inr z) hc, fun _ => ⟨fun z => absurd (h9.symm.trans z) (by decide), fun _ => h33⟩⟩⟩
theorem gol_bad (h9 : J 9 = 2) (hc : ¬ (c = 124 ∨ c = 58)) (hq : post (-2) J B) : wp_TuneSetterModel_goOnLine c x J B post :=
  ⟨fun z => absurd (Or.inl z) hc, fun _ => ⟨fun z => absurd (Or.inr z) hc, fun _ => ⟨fun _ => ⟨fun _ => hq, fun z => absurd rfl z⟩, fun z => absurd h9 z⟩⟩⟩
end GL
theorem Cr_ln (h : Cr c cr) : (cr = 124 ∨ cr = 58) ↔ (c = 124 ∨ c = 58) := by
  rw [Cr_k h (by decide) (by decide), Cr_k h (by decide) (by decide)]
theorem m_bet (h : S_bet p I A J B) (hv : EnvQ p c cr f I J B) (hg : Good p c f K) : Step R p c cr f K I A J B := by
  intro hX
  obtain ⟨b, n, q, sg, it, fn, hB, g, hd⟩ := h
  have h3 := hB.2.1.2.2.2.2.2
  have hD := hB.2.2.2
  have hb8 : b ≤ 8 := hD.1.1
  have hc := hv.2.2.2
  have g20 := g.1
  have g17 := g.2.2.2.1
  rcases hd with ⟨h14, h9, hb0, hl⟩ | ⟨h14, h9, h16, ha4⟩ | ⟨h14, h9, h16, hl⟩
  · have hF : folF 0 (I 22) (I 20) (I 17) (I 19) (I 11) (I 0) 0 c f = if c = 32 then 0 else if c = 124 then 1 else if c = 58 then 2 else if biE c then (if c = 91 ∧ (f = 49 ∨ f = 50) then 4 else bv c) else -1 := by rw [g17]; exact F_0
    by_cases e1 : c = 32
    · have ec : cr = c := Cr_of hc (by rw [e1]; decide)
      rw [if_pos e1] at hF
      exact plain_go h14 (by decide) h3 hF (by decide) (s61_no h3 (by decide) (tk_x (Or.inl rfl) (hX _ _ (nx_0 h9 ⟨fun _ => hg.2.1 _ _ _ _ (by rw [e1]; decide) h3 (i_bet ⟨b, n, q, sg, it, fn, hB.p2 (Nat.le_succ p), g, Or.inl ⟨rfl, h9, hb0, hl⟩⟩), fun z => absurd (ec.trans e1) z⟩))))
    rw [if_neg e1] at hF
    have k32 : ¬ cr = 32 := mt (Cr_k hc (by decide) (by decide)).mp e1
    by_cases e2 : c = 124 ∨ c = 58
    · have hc0 : ¬ c = 0 := by rcases e2 with e | e <;> rw [e] <;> decide
      have ec : cr = c := Cr_of hc hc0
      have hF2 : folF 0 (I 22) (I 20) (I 17) (I 19) (I 11) (I 0) 0 c f = if c = 124 then 1 else 2 := by
        rw [hF]
        rcases e2 with e | e <;> rw [e] <;> rfl
      refine plain_go h14 (by decide) h3 hF2 (by split <;> decide) (line_sim (f := f) (K := K) (fun I1 A1 h => hX _ _ (nx_0 h9 ⟨fun z => absurd z k32, fun _ => ?_⟩)) hB g.2.1 g.2.2.1 g17 g.2.2.2.2.1 g.2.2.2.2.2 (by unfold Lb; rw [if_pos hb0]; exact full_nneg hB.1) hv.1 e2 hg)
      rw [ec]
      exact ⟨fun _ => h, fun z => ⟨fun _ => h, fun z2 => absurd e2 (by rintro (y | y); exact z y; exact z2 y)⟩⟩
    · rw [if_neg (fun z => e2 (Or.inl z)), if_neg (fun z => e2 (Or.inr z))] at hF
      have k := mt (Cr_ln hc).mp e2
      exact bet_bar (K := K) (fun I1 A1 h => hX _ _ (nx_0 h9 ⟨fun z => absurd z k32, fun _ => ⟨fun z => absurd (Or.inl z) k, fun _ => ⟨fun z => absurd (Or.inr z) k, fun _ => h⟩⟩⟩)) hB g hl h14 (by decide) (by decide) hv (Or.inl hb0) hF hg
  · have hF : folF 1 (I 22) (I 20) (I 17) (I 19) (I 11) (I 0) 0 c f = if c = 0 then (if I 0 ≤ 0 then -1 else 20) else if c = 32 then 3 else if c = 124 ∨ c = 58 then 3 else if biE c then (if c = 91 ∧ (f = 49 ∨ f = 50) then 4 else bv c) else -1 := by rw [g17, g20]; exact F_1
    by_cases e2 : c = 124 ∨ c = 58
    · have hc0 : ¬ c = 0 := by rcases e2 with e | e <;> rw [e] <;> decide
      have e32 : ¬ c = 32 := by rcases e2 with e | e <;> rw [e] <;> decide
      have ec : cr = c := Cr_of hc hc0
      rw [if_neg hc0, if_neg e32, if_pos e2] at hF
      refine plain_go h14 (by decide) h3 hF (by decide) (s61_no h3 (by decide) (tk_3 (b := b) hB.2.1.1 hb8 e2 (hX _ _ (nx_1 h9 ?_))))
      rw [ec]
      refine gol_two e2 hB.2.1.2.1 hb8 (hg.2.1 _ _ _ _ hc0 h3 (i_bet ⟨b, n, q, sg, it, fn, ⟨hB.1, hB.2.1, bar_line hB.2.2.1, it_p hD (Nat.le_succ p)⟩, g, Or.inr (Or.inr ⟨rfl, rfl, h16, ?_⟩)⟩))
      rw [upd2_eq, upd2_eq, upd_eq, upd_eq, h14, h9]
      rcases e2 with e | e <;> rw [e] <;> unfold lineR <;> decide
    · have k := mt (Cr_ln hc).mp e2
      rw [if_neg e2] at hF
      exact beh_sim (K := K) (J := upd J 9 3) (B := upd2 B 5 b 0) (fun I1 A1 h => hX _ _ (nx_1 h9 (gol_one h9 k hB.2.1.2.1 hb8 h))) ⟨hB.1, hB.2.1, bar_lineB hB.2.2.1, hD⟩ g (by rw [upd2_eq, upd_eq, ha4]; exact Or.inl ⟨rfl, rfl⟩) h14 (by decide) (by decide) hv h16 rfl hF hg
  · have hF : folF 3 (I 22) (I 20) (I 17) (I 19) (I 11) (I 0) 0 c f = if c = 0 then (if I 0 ≤ 0 then -1 else 20) else if c = 32 then 3 else if biE c then (if c = 91 ∧ (f = 49 ∨ f = 50) then 4 else bv c) else -1 := by rw [g17, g20]; exact F_3
    exact beh_sim (K := K) (fun I1 A1 h => hX _ _ (nx_3 h9 h)) hB g hl h14 (by decide) (by decide) hv h16 h9 hF hg
theorem m_col (h : S_col p I A J B) (hv : EnvQ p c cr f I J B) (hg : Good p c f K) : Step R p c cr f K I A J B := by
  intro hX
  obtain ⟨b, n, q, sg, it, fn, hB, g, h14, h9, h16⟩ := h
  have h3 := hB.2.1.2.2.2.2.2
  have hD := hB.2.2.2
  have hb8 : b ≤ 8 := hD.1.1
  have hc := hv.2.2.2
  have hF : folF 2 (I 22) (I 20) (I 17) (I 19) (I 11) (I 0) 0 c f = if c = 124 ∨ c = 58 then 3 else -1 := F_2
  by_cases e2 : c = 124 ∨ c = 58
  · have hc0 : ¬ c = 0 := by rcases e2 with e | e <;> rw [e] <;> decide
    have ec : cr = c := Cr_of hc hc0
    rw [if_pos e2] at hF
    refine plain_go h14 (by decide) h3 hF (by decide) (s61_no h3 (by decide) (tk_3 (b := b) hB.2.1.1 hb8 e2 (hX _ _ (nx_2 h9 ?_))))
    rw [ec]
    refine gol_two e2 hB.2.1.2.1 hb8 (hg.2.1 _ _ _ _ hc0 h3 (i_bet ⟨b, n, q, sg, it, fn, ⟨hB.1, hB.2.1, bar_line hB.2.2.1, it_p hD (Nat.le_succ p)⟩, g, Or.inr (Or.inr ⟨rfl, rfl, h16, ?_⟩)⟩))
    rw [upd2_eq, upd2_eq, upd_eq, upd_eq, h14, h9]
    rcases e2 with e | e <;> rw [e] <;> unfold lineR <;> decide
  · rw [if_neg e2] at hF
    exact plain_bad h14 (by decide) h3 hF (hX _ _ (nx_2 h9 (gol_bad h9 (mt (Cr_ln hc).mp e2) (good_bad hg hB.1 hv (by decide)))))
theorem m_mark (h : S_mark p c I A J B) (hv : EnvQ p c cr f I J B) (hg : Good p c f K) : Step R p c cr f K I A J B := by
  intro hX
  obtain ⟨b0, n, q, sg, it, fn, hB, g, h14, h9, hm⟩ := h
  have h3 := hB.2.1.2.2.2.2.2
  have hD := hB.2.2.2
  have hb8 : b0 + 1 ≤ 8 := hD.1.1
  have hc0 : ¬ c = 0 := by rcases hm with e | e <;> rw [e] <;> decide
  have c32 : ¬ c = 32 := by rcases hm with e | e <;> rw [e] <;> decide
  have ec : cr = c := Cr_of hv.2.2.2 hc0
  have hF : folF 4 (I 22) (I 20) (I 17) (I 19) (I 11) (I 0) 0 c f = if c = 49 ∨ c = 50 then 5 else -1 := F_4
  rw [if_pos hm] at hF
  obtain ⟨e, he, ee⟩ : ∃ e : Nat, (e = 1 ∨ e = 2) ∧ c - 48 = nI e := by
    rcases hm with y | y
    · exact ⟨1, Or.inl rfl, by rw [y]; decide⟩
    · exact ⟨2, Or.inr rfl, by rw [y]; decide⟩
  refine plain_go h14 (by decide) h3 hF (by decide) (s61_no h3 (by decide) (tk_5 (b := b0) hB.2.1.1 (by omega) c32 (hX _ _ (nx_4 h9 ?_))))
  rw [ec, ee]
  have h128 : wp_TuneSetterModel_go_128 (K (upd I 14 5) (upd2 A 5 b0 (nI e))) c J B := by
    unfold wp_TuneSetterModel_go_128
    rw [hB.2.1.2.1, nI_pred, nI_clamp (by omega), ee]
    exact ⟨vp_in_nI (by omega) (by omega), hg.2.1 _ _ _ _ hc0 h3 (i_end ⟨b0, n, q, sg, it, fn, ⟨hB.1, hB.2.1, bar_end hB.2.2.1 he, it_p hD (Nat.le_succ p)⟩, g, rfl, rfl⟩)⟩
  refine ⟨fun _ => h128, fun z => ⟨fun _ => h128, fun z2 => ?_⟩⟩
  exfalso
  rcases hm with y | y
  · exact z y
  · exact z2 y
theorem m_end (h : S_end p I A J B) (hv : EnvQ p c cr f I J B) (hg : Good p c f K) : Step R p c cr f K I A J B := by
  intro hX
  obtain ⟨b0, n, q, sg, it, fn, hB, g, h14, h9⟩ := h
  have h3 := hB.2.1.2.2.2.2.2
  have g17 : I 17 = 0 := g.2.2.2.1.trans (by decide)
  have hc := hv.2.2.2
  have hF : folF 5 (I 22) (I 20) (I 17) (I 19) (I 11) (I 0) 0 c f = if c = 32 then 5 else if biE c then bv c else -1 := by rw [g17]; exact F_5
  by_cases e1 : c = 32
  · have ec : cr = c := Cr_of hc (by rw [e1]; decide)
    rw [if_pos e1] at hF
    subst e1
    exact plain_go h14 (by decide) h3 hF (by decide) (s61_no h3 (by decide) (tk_5s (hX _ _ (nx_5 h9 ⟨fun _ => hg.2.1 _ _ _ _ (by decide) h3 (i_end ⟨b0, n, q, sg, it, fn, hB.p2 (Nat.le_succ p), g, rfl, h9⟩), fun z => absurd ec z⟩))))
  rw [if_neg e1] at hF
  have k32 : ¬ cr = 32 := mt (Cr_k hc (by decide) (by decide)).mp e1
  by_cases e : biE c
  · rw [if_pos e] at hF
    have ec : cr = c := Cr_of hc (bi0 e)
    exact plain_go h14 (by decide) h3 hF (bv_m e) (item_sim (f := f) (K := K) (fun I1 A1 h => hX _ _ (nx_5 h9 ⟨fun z => absurd z k32, fun _ => by rw [ec]; exact h⟩)) hB g (by rw [h14]; decide) hv.1 hv.2.1 e (fun _ => rfl) hg)
  · rw [if_neg e] at hF
    exact plain_bad h14 (by decide) h3 hF (hX _ _ (nx_5 h9 ⟨fun z => absurd z k32, fun _ => mitem_no (Or.inl (mt (Cr_bi hc).mp e)) (good_bad hg hB.1 hv (by decide))⟩))
theorem m_ins (h : S_ins p I A J B) (hv : EnvQ p c cr f I J B) (hg : Good p c f K) : Step R p c cr f K I A J B := by
  intro hX
  obtain ⟨b0, n, q, sg, it, fn, tl, hB, g, h14, h9⟩ := h
  have h3 := hB.2.1.2.2.2.2.2
  have hst : plainS (I 14) ∧ ¬ I 14 = 9 := by rcases h14 with e | e <;> rw [e] <;> decide
  have hp := plain_of (ch := I 22) (c := c) hst.1.1
  refine step_plain h3 hp.1 hp.2 (inside_sim (rs := 0) (K := K) (fun I1 A1 h => hX _ _ (nx_12 h9 h)) hB g hv hst.2 hst.1.2.1 hst.1.2.2.1 (fun z => absurd z (plain_nd hst.1)) ?_ h9 hg)
  rcases h14 with e | e
  · rw [e, g.1]; exact F_18
  · rw [e, g.1]; exact F_19
theorem m_par (h : S_par p I A J B) (hv : EnvQ p c cr f I J B) (hg : Good p c f K) : Step R p c cr f K I A J B := by
  intro hX
  obtain ⟨b0, n0, q, sg, it, fn, hB, ⟨i1, i2, i3, i4, i5, i6, i7, i8, i9⟩, hL, hC, h14, h9⟩ := h
  have h3 := hB.2.1.2.2.2.2.2
  have hc := hv.2.2.2
  have hF : folF 6 (I 22) (I 20) (I 17) (I 19) (I 11) (I 0) 0 c f = if c = 51 then 7 else -1 := F_6
  by_cases e1 : c = 51
  · have ec : cr = c := Cr_of hc (by rw [e1]; decide)
    rw [if_pos e1] at hF
    exact plain_go h14 (by decide) h3 hF (by decide) (s61_no h3 (by decide) (tk_7 (hX _ _ (nx_6 h9 ⟨fun _ => hg.2.1 _ _ _ _ (by rw [e1]; decide) h3 (i_tri ⟨b0, n0, q, sg, it, fn, hB.p2 (Nat.le_succ p), ⟨i1, i2, (by decide : (3 : Int32) = nI 3), i4, i5, i6, i7, i8, i9⟩, hL, hC, rfl, rfl⟩), fun z => absurd (ec.trans e1) z⟩))))
  · rw [if_neg e1] at hF
    exact plain_bad h14 (by decide) h3 hF (hX _ _ (nx_6 h9 ⟨fun z => absurd ((Cr_k hc (by decide) (by decide)).mp z) e1, fun _ => good_bad (J := upd J 9 7) hg hB.1 hv (by decide)⟩))
theorem m_tri (h : S_tri p I A J B) (hv : EnvQ p c cr f I J B) (hg : Good p c f K) : Step R p c cr f K I A J B := by
  intro hX
  obtain ⟨b0, n0, q, sg, it, fn, hB, hI, hL, hC, h14, h9⟩ := h
  have h3 := hB.2.1.2.2.2.2.2
  have hc := hv.2.2.2
  have hF : folF 7 (I 22) (I 20) (I 17) (I 19) (I 11) (I 0) 0 c f = if c = 91 ∨ c = 122 ∨ bnE c then bv c else -1 := F_7
  by_cases e : c = 91 ∨ c = 122 ∨ bnE c
  · rw [if_pos e] at hF
    have hbi : biE c := Or.inr e
    have ec : cr = c := Cr_of hc (bi0 hbi)
    have e40 : ¬ c = 40 := by
      intro z
      rw [z] at e
      revert e; decide
    have hv12 : ¬ (bv c = 1 ∨ bv c = 2) := by
      rcases bv_opI hbi with y | y | y | y | y | y <;> rw [y] <;> decide
    refine plain_go h14 (by decide) h3 hF (bv_m hbi) (s61_in h3 hI.1 hI.2.1 hv12 (fun z => z.1 hC.1) ?_)
    rw [bv_c e40]
    refine core_sim (f := f) (K := K) (fun I1 A1 h => hX _ _ (nx_7 h9 ?_)) hB hI hL hC (by rw [h14]; decide) e hg
    rw [ec]
    exact ⟨fun z => absurd z e40, fun _ => h⟩
  · rw [if_neg e] at hF
    refine plain_bad h14 (by decide) h3 hF (hX _ _ (nx_7 h9 ⟨fun _ => good_bad hg hB.1 hv (by decide), fun _ => ⟨fun z => ?_, fun _ => ⟨fun z => ?_, fun _ => ?_⟩⟩⟩))
    · exact absurd (Or.inl ((Cr_k hc (by decide) (by decide)).mp z)) e
    · exact absurd (Or.inr (Or.inl ((Cr_k hc (by decide) (by decide)).mp z))) e
    · rw [beginsNote_iff, b2_f (fun z => e (Or.inr (Or.inr ((Cr_bn hc).mp z))))]
      exact ⟨fun _ => good_bad hg hB.1 hv (by decide), fun z => absurd rfl z⟩
/-- in a chord -/
theorem chord_sim {rs : Int32} (hR : ∀ I1 A1, wp_TuneSetterModel_inChord cr J B (K I1 A1) → R I1 A1) (hB : Base (b0 + 1) (n0 + 1) p q sg it fn I A J B) (hI : Im b0 n0 tl tl q it I A J B) (hL : Len1 I J) (hC : I 22 = 1 ∧ J 11 = 1 ∧ I 18 = nI (q.1 n0) ∧ I 6 = 99) (hv : EnvQ p c cr f I J B) (h0 : 0 ≤ I 14) (h1 : I 14 ≤ 20) (h9 : ¬ I 14 = 9) (h10 : ¬ I 14 = 10) (hr : ¬ mv (I 14) (I 22) 16384) (hf : folF (I 14) (I 22) (I 20) (I 17) (I 19) (I 11) (I 0) rs c f = if c = 93 ∧ 0 < q.1 n0 then 14 else if bnE c then bv c else -1) (hg : Good p c f K) : wp_Reader_step_31 R c f I A := by
  have h3 := hB.2.1.2.2.2.2.2
  have hc := hv.2.2.2
  have hD := hB.2.2.2
  obtain ⟨-, hm4, -, -, hm9, -⟩ := hD.2.2.2.2 n0 (by omega)
  have hn : n0 + 1 ≤ 48 := hD.1.2.1
  have le0 : nI (q.1 n0) ≤ 0 ↔ q.1 n0 = 0 := by
    rw [show (0 : Int32) = nI 0 from by decide]
    exact ⟨fun z => by have := (nI_leI (a := q.1 n0) (b := 0) (by omega) (by omega)).mp z; omega, fun z => (nI_leI (by omega) (by omega)).mpr (by omega)⟩
  have e4 : nI (q.1 n0) = 4 ↔ q.1 n0 = 4 := by
    rw [show (4 : Int32) = nI 4 from by decide]; exact nI_eq (by omega) (by omega)
  have up : ∀ {post : Int32 → (Nat → Int32) → (Nat → Nat → Int32) → Prop}, ((cr = 93 → ((nI (q.1 n0) ≤ 0 → wp_TuneSetterModel_inChord_28 post cr (nI (q.1 n0)) J B) ∧ (¬ nI (q.1 n0) ≤ 0 → (wp_TuneSetterModel_openNumber J B (fun I23 A23 => post 0 I23 A23))))) ∧ (¬ cr = 93 → wp_TuneSetterModel_inChord_28 post cr (nI (q.1 n0)) J B)) → wp_TuneSetterModel_inChord cr J B post := by
    intro post h
    unfold wp_TuneSetterModel_inChord
    rw [hB.2.1.2.2.2.1, nI_pred, nI_clamp (by omega)]
    refine ⟨vp_in_nI (by omega) (by omega), fun v hv => ?_⟩
    rw [hv, hm9]
    exact h
  by_cases e1 : c = 93 ∧ 0 < q.1 n0
  · rw [if_pos e1] at hf
    have ec : cr = c := Cr_of hc (by rw [e1.1]; decide)
    refine s31_go h3 h0 h1 (fun z => absurd z hr) hf (by decide) (s61_in h3 hI.1 hI.2.1 (by decide) (fun z => absurd z.2.1 (by decide)) (tk_14 (hR _ _ (up ⟨fun _ => ⟨fun z => ?_, fun _ => ?_⟩, fun z => absurd (ec.trans e1.1) z⟩))))
    · have := le0.mp z; omega
    · refine hg.2.1 _ _ _ _ (by rw [e1.1]; decide) h3 (i_num ⟨b0, n0, q, sg, it, fn, tl, 1, 1, hB.p2 (Nat.le_succ p), hI, rfl, hC.2.2.2, ⟨fun _ => e1.2, fun _ => hL.2.2.2⟩, rfl, hL.1, hL.2.1, by decide, by decide, ⟨Or.inl ⟨rfl, rfl⟩, Or.inl ⟨rfl, rfl⟩⟩, Or.inl ⟨rfl, hL.2.2.1, rfl, rfl, rfl, rfl, rfl⟩⟩)
  rw [if_neg e1] at hf
  by_cases e2 : bnE c
  · rw [if_pos e2] at hf
    have ec : cr = c := Cr_of hc (bn0 e2)
    have c93 : ¬ c = 93 := by intro z; rw [z] at e2; revert e2; decide
    have c40 : ¬ c = 40 := by intro z; rw [z] at e2; revert e2; decide
    have hnt : ntS (bv c) := by
      rw [bv_c c40, cv_n e2]
      rcases e2 with y | y | y | y
      · rw [y]; exact Or.inl (by decide)
      · rw [y]; exact Or.inl (by decide)
      · rw [y]; exact Or.inr (Or.inl (by decide))
      · exact Or.inr (Or.inr (nv_l y))
    have up2 : ∀ {post : Int32 → (Nat → Int32) → (Nat → Nat → Int32) → Prop}, ((nI (q.1 n0) = 4 → post (-6) J B) ∧ (¬ nI (q.1 n0) = 4 → wp_TuneSetterModel_beginNote c J B post)) → wp_TuneSetterModel_inChord cr J B post := by
      intro post h
      refine up ⟨fun z => absurd (ec.symm.trans z) c93, fun _ => ?_⟩
      unfold wp_TuneSetterModel_inChord_28
      rw [ec, beginsNote_iff, b2_t e2]
      exact ⟨fun z => absurd z (by decide), fun _ => h⟩
    refine s31_go h3 h0 h1 (fun z => absurd z hr) hf (bv_m (biE_n e2)) (s61_chord h3 (by rw [hI.1]; decide) (by rw [hI.2.1]; decide) ⟨by rw [hC.1]; decide, hnt, h9, h10⟩ (fun z => ?_) (fun z => ?_))
    · rw [hC.2.2.1] at z
      exact hR _ _ (up2 ⟨fun _ => good_bad hg hB.1 hv (by decide), fun y => absurd z y⟩)
    · rw [hC.2.2.1] at z
      rw [bv_c c40, cv_n e2]
      refine note_sim (f := f) (K := K) (I := upd I 18 (I 18 + 1)) (fun I1 A1 h => hR I1 A1 (up2 ⟨fun y => absurd y z, fun _ => h⟩)) hB hI hL (Or.inr ⟨hC.1, hC.2.1, ?_⟩) (by have := mt e4.mpr z; omega) hC.2.2.2 h9 e2 hg
      show I 18 + 1 = nI (q.1 n0 + 1)
      rw [hC.2.2.1, nI_1]
  · rw [if_neg e2] at hf
    have k : ∀ {post : Int32 → (Nat → Int32) → (Nat → Nat → Int32) → Prop}, post (-2) J B → wp_TuneSetterModel_inChord_28 post cr (nI (q.1 n0)) J B := by
      intro post h
      unfold wp_TuneSetterModel_inChord_28
      rw [beginsNote_iff, b2_f (mt (Cr_bn hc).mp e2)]
      exact ⟨fun _ => h, fun z => absurd rfl z⟩
    refine s31_bad h3 h0 h1 (fun z => absurd z hr) hf (hR _ _ (up ⟨fun z => ⟨fun _ => k (good_bad hg hB.1 hv (by decide)), fun y => ?_⟩, fun _ => k (good_bad hg hB.1 hv (by decide))⟩))
    exfalso
    refine e1 ⟨(Cr_k hc (by decide) (by decide)).mp z, ?_⟩
    have := mt le0.mpr y
    omega
theorem m_cho (h : S_cho p c I A J B) (hv : EnvQ p c cr f I J B) (hg : Good p c f K) : Step R p c cr f K I A J B := by
  intro hX
  obtain ⟨h14, hd⟩ := h
  have hst : plainS (I 14) := by rw [h14]; decide
  have hp := plain_of (ch := I 22) (c := c) hst.1
  have go : ∀ (J1 : Nat → Int32) (B1 : Nat → Nat → Int32), Cho p I A J1 B1 → EnvQ p c cr f I J1 B1 → (∀ I1 A1, wp_TuneSetterModel_inChord cr J1 B1 (K I1 A1) → wp_TuneSetterModel_next cr (nI p) J B (K I1 A1)) → wp_Reader_step c f I A R := by
    intro J1 B1 hch hv1 hR
    obtain ⟨b0, n0, q, sg, it, fn, tl, hB, hI, hL, hC, hm⟩ := hch
    have h3 := hB.2.1.2.2.2.2.2
    have hm0 : q.1 n0 = 0 := by
      rcases hm with ⟨-, y⟩ | ⟨y, -⟩
      · exact y
      · rw [h14] at y; exact absurd y (by decide)
    refine step_plain h3 hp.1 hp.2 (chord_sim (rs := 0) (K := K) (fun I1 A1 h => hX _ _ (hR I1 A1 h)) hB hI hL hC hv1 (by rw [h14]; decide) (by rw [h14]; decide) (by rw [h14]; decide) (by rw [h14]; decide) (plain_nd hst) ?_ hg)
    rw [h14, hm0, if_neg (show ¬ (c = 93 ∧ 0 < 0) from fun z => absurd z.2 (by omega))]
    exact F_8
  rcases hd with ⟨h9, hch⟩ | ⟨h9, c49, c50, m, hm, h8, hch⟩
  · exact go J B hch hv (fun I1 A1 h => nx_10 h9 h)
  · refine go _ _ hch hv (fun I1 A1 h => nx_4 h9 ⟨fun z => absurd ((Cr_k hv.2.2.2 (by decide) (by decide)).mp z) c49, fun _ => ⟨fun z => absurd ((Cr_k hv.2.2.2 (by decide) (by decide)).mp z) c50, fun _ => mopenItem_ok h8 hm h⟩⟩)
end ST

/-! the reference's step, by its state -/
section NX
variable {c x : Int32} {J : Nat → Int32} {B : Nat → Nat → Int32} {post : Int32 → (Nat → Int32) → (Nat → Nat → Int32) → Prop}
theorem n22_go (h11 : ¬ J 9 = 11) (hq : wp_TuneSetterModel_go c x J B post) : wp_TuneSetterModel_next_22 post c x 0 J B := by
  have n158 : wp_TuneSetterModel_next_158 post c x 0 0 0 J B := ⟨fun _ => ⟨fun _ => ⟨fun _ => hq, fun z => absurd rfl z⟩, fun z => absurd rfl z⟩, fun z => absurd rfl z⟩
  have n127 : wp_TuneSetterModel_next_127 post c x 0 0 0 J B := ⟨fun _ => n158, fun z => absurd rfl z⟩
  have n109 : wp_TuneSetterModel_next_109 post c x 0 0 J B := ⟨fun _ => n127, fun z => absurd rfl z⟩
  have n92 : wp_TuneSetterModel_next_92 post c x 0 0 J B := ⟨fun _ => n109, fun z => absurd rfl z⟩
  have n65 : wp_TuneSetterModel_next_65 post c x 0 0 J B := ⟨fun z => absurd z h11, fun _ => n92⟩
  have n48 : wp_TuneSetterModel_next_48 post c x 0 0 J B := ⟨fun _ => n65, fun z => absurd rfl z⟩
  exact ⟨fun z => absurd z h11, fun _ => ⟨fun _ => n48, fun z => absurd rfl z⟩⟩
theorem next_go (h9 : ¬ J 9 = 9) (h11 : ¬ J 9 = 11) (hq : wp_TuneSetterModel_go c x J B post) : wp_TuneSetterModel_next c x J B post :=
  ⟨fun z => absurd z h9, fun _ => n22_go h11 hq⟩
theorem go_0 (h : J 9 = 0) (hq : (c = 32 → post 0 J B) ∧ (¬ c = 32 → ((c = 124 → (wp_TuneSetterModel_beginLine c x J B post)) ∧ (¬ c = 124 → ((c = 58 → (wp_TuneSetterModel_beginLine c x J B post)) ∧ (¬ c = 58 → (wp_TuneSetterModel_beginBar c x J B post))))))) : wp_TuneSetterModel_go c x J B post :=
  ⟨fun _ => hq, fun z => absurd (h.symm.trans z) (by decide), fun z => absurd (h.symm.trans z) (by decide), fun z => absurd (h.symm.trans z) (by decide), fun z => absurd (h.symm.trans z) (by decide), fun z => absurd (h.symm.trans z) (by decide), fun z => absurd (h.symm.trans z) (by decide), fun z => absurd (h.symm.trans z) (by decide), fun z => absurd (h.symm.trans z) (by decide), fun z => absurd (h.symm.trans z) (by decide), fun z => absurd (h.symm.trans z) (by decide), fun z0 z1 z2 z3 z4 z5 z6 z7 z8 z9 z10 => absurd h z0⟩
theorem nx_0 (h : J 9 = 0) (hq : (c = 32 → post 0 J B) ∧ (¬ c = 32 → ((c = 124 → (wp_TuneSetterModel_beginLine c x J B post)) ∧ (¬ c = 124 → ((c = 58 → (wp_TuneSetterModel_beginLine c x J B post)) ∧ (¬ c = 58 → (wp_TuneSetterModel_beginBar c x J B post))))))) : wp_TuneSetterModel_next c x J B post :=
  next_go (by rw [h]; decide) (by rw [h]; decide) (go_0 h hq)
theorem go_1 (h : J 9 = 1) (hq : wp_TuneSetterModel_goOnLine c x J B post) : wp_TuneSetterModel_go c x J B post :=
  ⟨fun z => absurd (h.symm.trans z) (by decide), fun _ => hq, fun z => absurd (h.symm.trans z) (by decide), fun z => absurd (h.symm.trans z) (by decide), fun z => absurd (h.symm.trans z) (by decide), fun z => absurd (h.symm.trans z) (by decide), fun z => absurd (h.symm.trans z) (by decide), fun z => absurd (h.symm.trans z) (by decide), fun z => absurd (h.symm.trans z) (by decide), fun z => absurd (h.symm.trans z) (by decide), fun z => absurd (h.symm.trans z) (by decide), fun z0 z1 z2 z3 z4 z5 z6 z7 z8 z9 z10 => absurd h z1⟩
theorem nx_1 (h : J 9 = 1) (hq : wp_TuneSetterModel_goOnLine c x J B post) : wp_TuneSetterModel_next c x J B post :=
  next_go (by rw [h]; decide) (by rw [h]; decide) (go_1 h hq)
theorem go_2 (h : J 9 = 2) (hq : wp_TuneSetterModel_goOnLine c x J B post) : wp_TuneSetterModel_go c x J B post :=
  ⟨fun z => absurd (h.symm.trans z) (by decide), fun z => absurd (h.symm.trans z) (by decide), fun _ => hq, fun z => absurd (h.symm.trans z) (by decide), fun z => absurd (h.symm.trans z) (by decide), fun z => absurd (h.symm.trans z) (by decide), fun z => absurd (h.symm.trans z) (by decide), fun z => absurd (h.symm.trans z) (by decide), fun z => absurd (h.symm.trans z) (by decide), fun z => absurd (h.symm.trans z) (by decide), fun z => absurd (h.symm.trans z) (by decide), fun z0 z1 z2 z3 z4 z5 z6 z7 z8 z9 z10 => absurd h z2⟩
theorem nx_2 (h : J 9 = 2) (hq : wp_TuneSetterModel_goOnLine c x J B post) : wp_TuneSetterModel_next c x J B post :=
  next_go (by rw [h]; decide) (by rw [h]; decide) (go_2 h hq)
theorem go_3 (h : J 9 = 3) (hq : wp_TuneSetterModel_behind c x J B post) : wp_TuneSetterModel_go c x J B post :=
  ⟨fun z => absurd (h.symm.trans z) (by decide), fun z => absurd (h.symm.trans z) (by decide), fun z => absurd (h.symm.trans z) (by decide), fun _ => hq, fun z => absurd (h.symm.trans z) (by decide), fun z => absurd (h.symm.trans z) (by decide), fun z => absurd (h.symm.trans z) (by decide), fun z => absurd (h.symm.trans z) (by decide), fun z => absurd (h.symm.trans z) (by decide), fun z => absurd (h.symm.trans z) (by decide), fun z => absurd (h.symm.trans z) (by decide), fun z0 z1 z2 z3 z4 z5 z6 z7 z8 z9 z10 => absurd h z3⟩
theorem nx_3 (h : J 9 = 3) (hq : wp_TuneSetterModel_behind c x J B post) : wp_TuneSetterModel_next c x J B post :=
  next_go (by rw [h]; decide) (by rw [h]; decide) (go_3 h hq)
theorem go_4 (h : J 9 = 4) (hq : (c = 49 → wp_TuneSetterModel_go_128 post c J B) ∧ (¬ c = 49 → ((c = 50 → wp_TuneSetterModel_go_128 post c J B) ∧ (¬ c = 50 → (wp_TuneSetterModel_openItem J B (fun J1 B1 => (wp_TuneSetterModel_openChord c J1 B1 post))))))) : wp_TuneSetterModel_go c x J B post :=
  ⟨fun z => absurd (h.symm.trans z) (by decide), fun z => absurd (h.symm.trans z) (by decide), fun z => absurd (h.symm.trans z) (by decide), fun z => absurd (h.symm.trans z) (by decide), fun _ => hq, fun z => absurd (h.symm.trans z) (by decide), fun z => absurd (h.symm.trans z) (by decide), fun z => absurd (h.symm.trans z) (by decide), fun z => absurd (h.symm.trans z) (by decide), fun z => absurd (h.symm.trans z) (by decide), fun z => absurd (h.symm.trans z) (by decide), fun z0 z1 z2 z3 z4 z5 z6 z7 z8 z9 z10 => absurd h z4⟩
theorem nx_4 (h : J 9 = 4) (hq : (c = 49 → wp_TuneSetterModel_go_128 post c J B) ∧ (¬ c = 49 → ((c = 50 → wp_TuneSetterModel_go_128 post c J B) ∧ (¬ c = 50 → (wp_TuneSetterModel_openItem J B (fun J1 B1 => (wp_TuneSetterModel_openChord c J1 B1 post))))))) : wp_TuneSetterModel_next c x J B post :=
  next_go (by rw [h]; decide) (by rw [h]; decide) (go_4 h hq)
theorem go_5 (h : J 9 = 5) (hq : (c = 32 → post 0 J B) ∧ (¬ c = 32 → (wp_TuneSetterModel_beginItem c J B post))) : wp_TuneSetterModel_go c x J B post :=
  ⟨fun z => absurd (h.symm.trans z) (by decide), fun z => absurd (h.symm.trans z) (by decide), fun z => absurd (h.symm.trans z) (by decide), fun z => absurd (h.symm.trans z) (by decide), fun z => absurd (h.symm.trans z) (by decide), fun _ => hq, fun z => absurd (h.symm.trans z) (by decide), fun z => absurd (h.symm.trans z) (by decide), fun z => absurd (h.symm.trans z) (by decide), fun z => absurd (h.symm.trans z) (by decide), fun z => absurd (h.symm.trans z) (by decide), fun z0 z1 z2 z3 z4 z5 z6 z7 z8 z9 z10 => absurd h z5⟩
theorem nx_5 (h : J 9 = 5) (hq : (c = 32 → post 0 J B) ∧ (¬ c = 32 → (wp_TuneSetterModel_beginItem c J B post))) : wp_TuneSetterModel_next c x J B post :=
  next_go (by rw [h]; decide) (by rw [h]; decide) (go_5 h hq)
theorem go_6 (h : J 9 = 6) (hq : (c = 51 → post 0 (upd J 9 7) B) ∧ (¬ c = 51 → post (-2) (upd J 9 7) B)) : wp_TuneSetterModel_go c x J B post :=
  ⟨fun z => absurd (h.symm.trans z) (by decide), fun z => absurd (h.symm.trans z) (by decide), fun z => absurd (h.symm.trans z) (by decide), fun z => absurd (h.symm.trans z) (by decide), fun z => absurd (h.symm.trans z) (by decide), fun z => absurd (h.symm.trans z) (by decide), fun _ => hq, fun z => absurd (h.symm.trans z) (by decide), fun z => absurd (h.symm.trans z) (by decide), fun z => absurd (h.symm.trans z) (by decide), fun z => absurd (h.symm.trans z) (by decide), fun z0 z1 z2 z3 z4 z5 z6 z7 z8 z9 z10 => absurd h z6⟩
theorem nx_6 (h : J 9 = 6) (hq : (c = 51 → post 0 (upd J 9 7) B) ∧ (¬ c = 51 → post (-2) (upd J 9 7) B)) : wp_TuneSetterModel_next c x J B post :=
  next_go (by rw [h]; decide) (by rw [h]; decide) (go_6 h hq)
theorem go_7 (h : J 9 = 7) (hq : (c = 40 → post (-2) J B) ∧ (¬ c = 40 → (wp_TuneSetterModel_core c J B post))) : wp_TuneSetterModel_go c x J B post :=
  ⟨fun z => absurd (h.symm.trans z) (by decide), fun z => absurd (h.symm.trans z) (by decide), fun z => absurd (h.symm.trans z) (by decide), fun z => absurd (h.symm.trans z) (by decide), fun z => absurd (h.symm.trans z) (by decide), fun z => absurd (h.symm.trans z) (by decide), fun z => absurd (h.symm.trans z) (by decide), fun _ => hq, fun z => absurd (h.symm.trans z) (by decide), fun z => absurd (h.symm.trans z) (by decide), fun z => absurd (h.symm.trans z) (by decide), fun z0 z1 z2 z3 z4 z5 z6 z7 z8 z9 z10 => absurd h z7⟩
theorem nx_7 (h : J 9 = 7) (hq : (c = 40 → post (-2) J B) ∧ (¬ c = 40 → (wp_TuneSetterModel_core c J B post))) : wp_TuneSetterModel_next c x J B post :=
  next_go (by rw [h]; decide) (by rw [h]; decide) (go_7 h hq)
theorem go_8 (h : J 9 = 8) (hq : wp_TuneSetterModel_goOnSign c J B post) : wp_TuneSetterModel_go c x J B post :=
  ⟨fun z => absurd (h.symm.trans z) (by decide), fun z => absurd (h.symm.trans z) (by decide), fun z => absurd (h.symm.trans z) (by decide), fun z => absurd (h.symm.trans z) (by decide), fun z => absurd (h.symm.trans z) (by decide), fun z => absurd (h.symm.trans z) (by decide), fun z => absurd (h.symm.trans z) (by decide), fun z => absurd (h.symm.trans z) (by decide), fun _ => hq, fun z => absurd (h.symm.trans z) (by decide), fun z => absurd (h.symm.trans z) (by decide), fun z0 z1 z2 z3 z4 z5 z6 z7 z8 z9 z10 => absurd h z8⟩
theorem nx_8 (h : J 9 = 8) (hq : wp_TuneSetterModel_goOnSign c J B post) : wp_TuneSetterModel_next c x J B post :=
  next_go (by rw [h]; decide) (by rw [h]; decide) (go_8 h hq)
theorem go_9 (h : J 9 = 9) (hq : (c = 44 → wp_TuneSetterModel_go_234 post c (-1) (J 17) J B) ∧ (¬ c = 44 → wp_TuneSetterModel_go_234 post c 1 (J 17) J B)) : wp_TuneSetterModel_go c x J B post :=
  ⟨fun z => absurd (h.symm.trans z) (by decide), fun z => absurd (h.symm.trans z) (by decide), fun z => absurd (h.symm.trans z) (by decide), fun z => absurd (h.symm.trans z) (by decide), fun z => absurd (h.symm.trans z) (by decide), fun z => absurd (h.symm.trans z) (by decide), fun z => absurd (h.symm.trans z) (by decide), fun z => absurd (h.symm.trans z) (by decide), fun z => absurd (h.symm.trans z) (by decide), fun _ => hq, fun z => absurd (h.symm.trans z) (by decide), fun z0 z1 z2 z3 z4 z5 z6 z7 z8 z9 z10 => absurd h z9⟩
theorem go_10 (h : J 9 = 10) (hq : wp_TuneSetterModel_inChord c J B post) : wp_TuneSetterModel_go c x J B post :=
  ⟨fun z => absurd (h.symm.trans z) (by decide), fun z => absurd (h.symm.trans z) (by decide), fun z => absurd (h.symm.trans z) (by decide), fun z => absurd (h.symm.trans z) (by decide), fun z => absurd (h.symm.trans z) (by decide), fun z => absurd (h.symm.trans z) (by decide), fun z => absurd (h.symm.trans z) (by decide), fun z => absurd (h.symm.trans z) (by decide), fun z => absurd (h.symm.trans z) (by decide), fun z => absurd (h.symm.trans z) (by decide), fun _ => hq, fun z0 z1 z2 z3 z4 z5 z6 z7 z8 z9 z10 => absurd h z10⟩
theorem nx_10 (h : J 9 = 10) (hq : wp_TuneSetterModel_inChord c J B post) : wp_TuneSetterModel_next c x J B post :=
  next_go (by rw [h]; decide) (by rw [h]; decide) (go_10 h hq)
theorem go_12 (h : J 9 = 12) (hq : wp_TuneSetterModel_inside c x J B post) : wp_TuneSetterModel_go c x J B post :=
  ⟨fun z => absurd (h.symm.trans z) (by decide), fun z => absurd (h.symm.trans z) (by decide), fun z => absurd (h.symm.trans z) (by decide), fun z => absurd (h.symm.trans z) (by decide), fun z => absurd (h.symm.trans z) (by decide), fun z => absurd (h.symm.trans z) (by decide), fun z => absurd (h.symm.trans z) (by decide), fun z => absurd (h.symm.trans z) (by decide), fun z => absurd (h.symm.trans z) (by decide), fun z => absurd (h.symm.trans z) (by decide), fun z => absurd (h.symm.trans z) (by decide), fun z0 z1 z2 z3 z4 z5 z6 z7 z8 z9 z10 => hq⟩
theorem nx_12 (h : J 9 = 12) (hq : wp_TuneSetterModel_inside c x J B post) : wp_TuneSetterModel_next c x J B post :=
  next_go (by rw [h]; decide) (by rw [h]; decide) (go_12 h hq)
theorem nx_9 (h : J 9 = 9) (hg : goL c (J 18)) (hq : (c = 44 → wp_TuneSetterModel_go_234 post c (-1) (J 17) J B) ∧ (¬ c = 44 → wp_TuneSetterModel_go_234 post c 1 (J 17) J B)) : wp_TuneSetterModel_next c x J B post := by
  refine ⟨fun _ => ?_, fun z => absurd h z⟩
  rw [goesOnLetter_iff, b2_t hg]
  exact ⟨fun z => absurd z (by decide), fun _ => n22_go (by rw [h]; decide) (go_9 h hq)⟩
/-- behind an item's end -/
def ENDS (c x : Int32) (post : Int32 → (Nat → Int32) → (Nat → Nat → Int32) → Prop) (J : Nat → Int32) (B : Nat → Nat → Int32) : Prop := ((c = 45 → (((J 12) = 0 → (vp_in ((J 8) - 1) 48 ∧ post 0 (upd J 9 12) (upd2 B 7 (((J 8) - 1).toNatClampNeg) 1))) ∧ (¬ (J 12) = 0 → (wp_TuneSetterModel_inside c x (upd J 9 12) B post)))) ∧ (¬ c = 45 → (wp_TuneSetterModel_inside c x (upd J 9 12) B post)))
theorem n158_i {y3 y4 : Int32} (hq : wp_TuneSetterModel_itemDone J B (fun J1 B1 => ENDS c x post J1 B1)) : wp_TuneSetterModel_next_158 post c x y3 y4 1 J B :=
  ⟨fun z => absurd z (by decide), fun _ => hq⟩
theorem n158_n {y3 : Int32} (hq : wp_TuneSetterModel_count c (upd J 9 11) B (fun J1 B1 => post 0 J1 B1)) : wp_TuneSetterModel_next_158 post c x y3 1 0 J B :=
  ⟨fun _ => ⟨fun z => absurd z (by decide), fun _ => hq⟩, fun z => absurd rfl z⟩
/-- a number goes on -/
theorem nx_11g (h : J 9 = 11) (hg : goN c (J 21) (J 20) (J 23)) (hq : wp_TuneSetterModel_count c (upd J 9 11) B (fun J1 B1 => post 0 J1 B1)) : wp_TuneSetterModel_next c x J B post := by
  have n127 : wp_TuneSetterModel_next_127 post c x 0 1 0 J B := ⟨fun _ => n158_n hq, fun z => absurd rfl z⟩
  have n109 : wp_TuneSetterModel_next_109 post c x 0 1 J B := ⟨fun _ => n127, fun z => absurd rfl z⟩
  have n92 : wp_TuneSetterModel_next_92 post c x 0 1 J B := by
    refine ⟨fun z => absurd z (by decide), fun _ => ?_⟩
    rw [goesOnNumber_iff, b2_t hg]
    exact ⟨fun z => absurd z (by decide), fun _ => n109⟩
  have n65 : wp_TuneSetterModel_next_65 post c x 0 1 J B := by
    refine ⟨fun _ => ?_, fun z => absurd h z⟩
    rw [misDigit_iff]
    refine ⟨fun _ => n92, fun _ => ?_⟩
    rw [goesOnNumber_iff, b2_t hg]
    exact ⟨fun z => absurd z (by decide), fun _ => n92⟩
  have n48 : wp_TuneSetterModel_next_48 post c x 0 1 J B := ⟨fun _ => n65, fun z => absurd rfl z⟩
  exact ⟨fun z => absurd (h.symm.trans z) (by decide), fun _ => ⟨fun _ => n48, fun z => absurd h z⟩⟩
/-- a digit too many -/
theorem nx_11b (h : J 9 = 11) (hd : dig c) (hg : ¬ goN c (J 21) (J 20) (J 23)) (hq : post (-2) J B) : wp_TuneSetterModel_next c x J B post := by
  have n65 : wp_TuneSetterModel_next_65 post c x 0 1 J B := by
    refine ⟨fun _ => ?_, fun z => absurd h z⟩
    rw [misDigit_iff, b2_t hd]
    refine ⟨fun z => absurd z (by decide), fun _ => ?_⟩
    rw [goesOnNumber_iff, b2_f hg]
    exact ⟨fun _ => hq, fun z => absurd rfl z⟩
  have n48 : wp_TuneSetterModel_next_48 post c x 0 1 J B := ⟨fun _ => n65, fun z => absurd rfl z⟩
  exact ⟨fun z => absurd (h.symm.trans z) (by decide), fun _ => ⟨fun _ => n48, fun z => absurd h z⟩⟩
/-- a number ends -/
theorem nx_11e (h : J 9 = 11) (hd : ¬ dig c) (hg : ¬ goN c (J 21) (J 20) (J 23)) (hq : wp_TuneSetterModel_hasLength J B (fun r J1 B1 => (r = 0 → post (-3) J1 B1) ∧ (¬ r = 0 → wp_TuneSetterModel_next_127 post c x 0 1 1 J1 B1))) : wp_TuneSetterModel_next c x J B post := by
  have n92 : wp_TuneSetterModel_next_92 post c x 0 1 J B := by
    refine ⟨fun z => absurd z (by decide), fun _ => ?_⟩
    rw [goesOnNumber_iff, b2_f hg]
    exact ⟨fun _ => ⟨fun z => absurd z (by decide), fun _ => hq⟩, fun z => absurd rfl z⟩
  have n65 : wp_TuneSetterModel_next_65 post c x 0 1 J B := by
    refine ⟨fun _ => ?_, fun z => absurd h z⟩
    rw [misDigit_iff, b2_f hd]
    exact ⟨fun _ => n92, fun z => absurd rfl z⟩
  have n48 : wp_TuneSetterModel_next_48 post c x 0 1 J B := ⟨fun _ => n65, fun z => absurd rfl z⟩
  exact ⟨fun z => absurd (h.symm.trans z) (by decide), fun _ => ⟨fun _ => n48, fun z => absurd h z⟩⟩
theorem n127_n {y5 : Int32} {y4 : Int32} (hq : wp_TuneSetterModel_next_158 post c x 0 y4 y5 J B) : wp_TuneSetterModel_next_127 post c x 0 y4 y5 J B := ⟨fun _ => hq, fun z => absurd rfl z⟩
/-- the pitch -/
theorem n127_bad {y4 y5 : Int32} (ht : ∀ post2 : Int32 → (Nat → Int32) → (Nat → Nat → Int32) → Prop, (∀ r : Int32, (r < 0 ∨ (¬ r < 0 ∧ ¬ r ≤ 127)) → post2 r J B) → wp_TuneSetterModel_toneOf J B post2) (hq : post (-4) J B) : wp_TuneSetterModel_next_127 post c x 1 y4 y5 J B := by
  refine ⟨fun z => absurd z (by decide), fun _ => ht _ (fun r hr => ?_)⟩
  rcases hr with h | ⟨h1, h2⟩
  · exact ⟨fun _ => hq, fun z => absurd h z⟩
  · exact ⟨fun _ => hq, fun _ => ⟨fun z => absurd z h2, fun _ => hq⟩⟩
theorem n127_ok {y4 y5 : Int32} {t : Nat} {B2 : Nat → Nat → Int32} (ht8 : t < 128) (ht : ∀ post2 : Int32 → (Nat → Int32) → (Nat → Nat → Int32) → Prop, post2 (nI t) J B → wp_TuneSetterModel_toneOf J B post2) (hd : ∀ post3 : (Nat → Int32) → (Nat → Nat → Int32) → Prop, post3 J B2 → wp_TuneSetterModel_noteDone (nI t) J B post3) (hq : wp_TuneSetterModel_next_158 post c x 1 y4 y5 J B2) : wp_TuneSetterModel_next_127 post c x 1 y4 y5 J B := by
  refine ⟨fun z => absurd z (by decide), fun _ => ht _ ⟨fun z => absurd z (nI_nneg (by omega)), fun _ => ⟨fun _ => hd _ hq, fun z => absurd ?_ z⟩⟩⟩
  rw [show (127 : Int32) = nI 127 from by decide]
  exact (nI_leI (by omega) (by omega)).mpr (by omega)
/-- a letter ends: in a chord; or not, and a number begins, or the item ends -/
theorem nx_9c (h : J 9 = 9) (hg : ¬ goL c (J 18)) (h11 : J 11 = 1) (hq : wp_TuneSetterModel_next_127 post c x 1 0 0 J B) : wp_TuneSetterModel_next c x J B post := by
  have h9 : ¬ J 9 = 11 := by rw [h]; decide
  have hc : ¬ J 11 = 0 := by rw [h11]; decide
  have n109 : wp_TuneSetterModel_next_109 post c x 1 0 J B := ⟨fun _ => hq, fun z => absurd rfl z⟩
  have n92 : wp_TuneSetterModel_next_92 post c x 1 0 J B := ⟨fun _ => n109, fun z => absurd rfl z⟩
  have n65 : wp_TuneSetterModel_next_65 post c x 1 0 J B := ⟨fun z => absurd z h9, fun _ => n92⟩
  have n48 : wp_TuneSetterModel_next_48 post c x 1 0 J B := ⟨fun z => absurd z (by decide), fun _ => ⟨fun z => absurd z hc, fun _ => n65⟩⟩
  refine ⟨fun _ => ?_, fun z => absurd h z⟩
  rw [goesOnLetter_iff, b2_f hg]
  exact ⟨fun _ => ⟨fun z => absurd z h9, fun _ => ⟨fun z => absurd z (by decide), fun _ => ⟨fun z => absurd z hc, fun _ => n48⟩⟩⟩, fun z => absurd rfl z⟩
abbrev oN (J : Nat → Int32) : Nat → Int32 := upd (upd (upd (upd (upd (upd J 19 0) 20 0) 21 0) 22 0) 23 0) 9 11
theorem nx_9x (h : J 9 = 9) (hg : ¬ goL c (J 18)) (h11 : J 11 = 0) (hq : wp_TuneSetterModel_next_65 post c x 1 1 (oN J) B) : wp_TuneSetterModel_next c x J B post := by
  have h9 : ¬ J 9 = 11 := by rw [h]; decide
  have n48 : wp_TuneSetterModel_next_48 post c x 1 1 J B := ⟨fun z => absurd z (by decide), fun _ => ⟨fun _ => hq, fun z => absurd h11 z⟩⟩
  refine ⟨fun _ => ?_, fun z => absurd h z⟩
  rw [goesOnLetter_iff, b2_f hg]
  exact ⟨fun _ => ⟨fun z => absurd z h9, fun _ => ⟨fun z => absurd z (by decide), fun _ => ⟨fun _ => n48, fun z => absurd h11 z⟩⟩⟩, fun z => absurd rfl z⟩
theorem nx_9g (h : J 9 = 9) (hg : ¬ goL c (J 18)) (h11 : J 11 = 0) (hd : c = 47 ∨ dig c) (hq : wp_TuneSetterModel_next_127 post c x 1 1 0 (oN J) B) : wp_TuneSetterModel_next c x J B post := by
  have hn : goN c (oN J 21) (oN J 20) (oN J 23) := by
    rcases hd with e | e
    · exact Or.inl ⟨e, rfl⟩
    · exact Or.inr ⟨e, Or.inl ⟨rfl, (by decide : (0 : Int32) < 3)⟩⟩
  have n109 : wp_TuneSetterModel_next_109 post c x 1 1 (oN J) B := ⟨fun _ => hq, fun z => absurd rfl z⟩
  have n92 : wp_TuneSetterModel_next_92 post c x 1 1 (oN J) B := by
    refine ⟨fun z => absurd z (by decide), fun _ => ?_⟩
    rw [goesOnNumber_iff, b2_t hn]
    exact ⟨fun z => absurd z (by decide), fun _ => n109⟩
  refine nx_9x h hg h11 ⟨fun _ => ?_, fun z => absurd rfl z⟩
  rw [misDigit_iff]
  refine ⟨fun _ => n92, fun _ => ?_⟩
  rw [goesOnNumber_iff, b2_t hn]
  exact ⟨fun z => absurd z (by decide), fun _ => n92⟩
theorem nx_9e (h : J 9 = 9) (hg : ¬ goL c (J 18)) (h11 : J 11 = 0) (hd : ¬ dig c) (h47 : ¬ c = 47) (hq : wp_TuneSetterModel_hasLength (oN J) B (fun r J1 B1 => (r = 0 → post (-3) J1 B1) ∧ (¬ r = 0 → wp_TuneSetterModel_next_127 post c x 1 1 1 J1 B1))) : wp_TuneSetterModel_next c x J B post := by
  have hn : ¬ goN c (oN J 21) (oN J 20) (oN J 23) := by
    rintro (⟨e, -⟩ | ⟨e, -⟩)
    · exact h47 e
    · exact hd e
  refine nx_9x h hg h11 ⟨fun _ => ?_, fun z => absurd rfl z⟩
  rw [misDigit_iff, b2_f hd]
  refine ⟨fun _ => ⟨fun z => absurd z (by decide), fun _ => ?_⟩, fun z => absurd rfl z⟩
  rw [goesOnNumber_iff, b2_f hn]
  exact ⟨fun _ => ⟨fun z => absurd z (by decide), fun _ => hq⟩, fun z => absurd rfl z⟩
end NX

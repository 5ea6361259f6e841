/-! the reference's step has one outcome, and it leaves the text as it is -/
def DetP (j4 : Int32) (b1 : Nat → Int32) (W : (Int32 → (Nat → Int32) → (Nat → Nat → Int32) → Prop) → Prop) : Prop := ∀ Q, W Q → ∃ e J1 B1, J1 4 = j4 ∧ B1 1 = b1 ∧ Q e J1 B1 ∧ ∀ Q2 : Int32 → (Nat → Int32) → (Nat → Nat → Int32) → Prop, Q2 e J1 B1 → W Q2
def DetV (j4 : Int32) (b1 : Nat → Int32) (W : ((Nat → Int32) → (Nat → Nat → Int32) → Prop) → Prop) : Prop := ∀ Q, W Q → ∃ J1 B1, J1 4 = j4 ∧ B1 1 = b1 ∧ Q J1 B1 ∧ ∀ Q2 : (Nat → Int32) → (Nat → Nat → Int32) → Prop, Q2 J1 B1 → W Q2
section DT
variable {j4 : Int32} {b1 : Nat → Int32} {c : Prop}
theorem dp_pure {e : Int32} {J1 : Nat → Int32} {B1 : Nat → Nat → Int32} (h4 : J1 4 = j4) (h1 : B1 1 = b1) : DetP j4 b1 (fun Q => Q e J1 B1) := fun _ h => ⟨e, J1, B1, h4, h1, h, fun _ z => z⟩
theorem dv_pure {J1 : Nat → Int32} {B1 : Nat → Nat → Int32} (h4 : J1 4 = j4) (h1 : B1 1 = b1) : DetV j4 b1 (fun Q => Q J1 B1) := fun _ h => ⟨J1, B1, h4, h1, h, fun _ z => z⟩
theorem dp_ite {X Y : (Int32 → (Nat → Int32) → (Nat → Nat → Int32) → Prop) → Prop} (hx : DetP j4 b1 X) (hy : DetP j4 b1 Y) : DetP j4 b1 (fun Q => (c → X Q) ∧ (¬ c → Y Q)) := by
  intro Q h
  by_cases z : c
  · obtain ⟨e, J1, B1, a1, a2, a3, a4⟩ := hx Q (h.1 z)
    exact ⟨e, J1, B1, a1, a2, a3, fun Q2 y => ⟨fun _ => a4 Q2 y, fun w => absurd z w⟩⟩
  · obtain ⟨e, J1, B1, a1, a2, a3, a4⟩ := hy Q (h.2 z)
    exact ⟨e, J1, B1, a1, a2, a3, fun Q2 y => ⟨fun w => absurd w z, fun _ => a4 Q2 y⟩⟩
theorem dv_ite {X Y : ((Nat → Int32) → (Nat → Nat → Int32) → Prop) → Prop} (hx : DetV j4 b1 X) (hy : DetV j4 b1 Y) : DetV j4 b1 (fun Q => (c → X Q) ∧ (¬ c → Y Q)) := by
  intro Q h
  by_cases z : c
  · obtain ⟨J1, B1, a1, a2, a3, a4⟩ := hx Q (h.1 z)
    exact ⟨J1, B1, a1, a2, a3, fun Q2 y => ⟨fun _ => a4 Q2 y, fun w => absurd z w⟩⟩
  · obtain ⟨J1, B1, a1, a2, a3, a4⟩ := hy Q (h.2 z)
    exact ⟨J1, B1, a1, a2, a3, fun Q2 y => ⟨fun w => absurd w z, fun _ => a4 Q2 y⟩⟩
theorem dp_and {X : (Int32 → (Nat → Int32) → (Nat → Nat → Int32) → Prop) → Prop} (hx : DetP j4 b1 X) : DetP j4 b1 (fun Q => c ∧ X Q) := by
  intro Q h
  obtain ⟨e, J1, B1, a1, a2, a3, a4⟩ := hx Q h.2
  exact ⟨e, J1, B1, a1, a2, a3, fun Q2 y => ⟨h.1, a4 Q2 y⟩⟩
theorem dv_and {X : ((Nat → Int32) → (Nat → Nat → Int32) → Prop) → Prop} (hx : DetV j4 b1 X) : DetV j4 b1 (fun Q => c ∧ X Q) := by
  intro Q h
  obtain ⟨J1, B1, a1, a2, a3, a4⟩ := hx Q h.2
  exact ⟨J1, B1, a1, a2, a3, fun Q2 y => ⟨h.1, a4 Q2 y⟩⟩
theorem dp_all {x : Int32} {X : Int32 → (Int32 → (Nat → Int32) → (Nat → Nat → Int32) → Prop) → Prop} (hx : DetP j4 b1 (X x)) : DetP j4 b1 (fun Q => ∀ v : Int32, v = x → X v Q) := by
  intro Q h
  obtain ⟨e, J1, B1, a1, a2, a3, a4⟩ := hx Q (h x rfl)
  exact ⟨e, J1, B1, a1, a2, a3, fun Q2 y v hv => by rw [hv]; exact a4 Q2 y⟩
theorem dv_all {x : Int32} {X : Int32 → ((Nat → Int32) → (Nat → Nat → Int32) → Prop) → Prop} (hx : DetV j4 b1 (X x)) : DetV j4 b1 (fun Q => ∀ v : Int32, v = x → X v Q) := by
  intro Q h
  obtain ⟨J1, B1, a1, a2, a3, a4⟩ := hx Q (h x rfl)
  exact ⟨J1, B1, a1, a2, a3, fun Q2 y v hv => by rw [hv]; exact a4 Q2 y⟩
theorem dp_ex {X : Nat → (Int32 → (Nat → Int32) → (Nat → Nat → Int32) → Prop) → Prop} (hx : ∀ n, DetP j4 b1 (X n)) : DetP j4 b1 (fun Q => ∃ n, X n Q) := by
  rintro Q ⟨n, h⟩
  obtain ⟨e, J1, B1, a1, a2, a3, a4⟩ := hx n Q h
  exact ⟨e, J1, B1, a1, a2, a3, fun Q2 y => ⟨n, a4 Q2 y⟩⟩
theorem pp_bind (W : (Int32 → (Nat → Int32) → (Nat → Nat → Int32) → Prop) → Prop) {V : Int32 → (Nat → Int32) → (Nat → Nat → Int32) → (Int32 → (Nat → Int32) → (Nat → Nat → Int32) → Prop) → Prop} (hw : DetP j4 b1 W) (hv : ∀ r J1 B1, J1 4 = j4 → B1 1 = b1 → DetP j4 b1 (V r J1 B1)) : DetP j4 b1 (fun Q => W (fun r J1 B1 => V r J1 B1 Q)) := by
  intro Q h
  obtain ⟨e, J1, B1, x1, x2, x3, x4⟩ := hw _ h
  obtain ⟨e2, J2, B2, y1, y2, y3, y4⟩ := hv e J1 B1 x1 x2 Q x3
  exact ⟨e2, J2, B2, y1, y2, y3, fun Q2 z => x4 _ (y4 Q2 z)⟩
theorem vp_bind (W : ((Nat → Int32) → (Nat → Nat → Int32) → Prop) → Prop) {V : (Nat → Int32) → (Nat → Nat → Int32) → (Int32 → (Nat → Int32) → (Nat → Nat → Int32) → Prop) → Prop} (hw : DetV j4 b1 W) (hv : ∀ J1 B1, J1 4 = j4 → B1 1 = b1 → DetP j4 b1 (V J1 B1)) : DetP j4 b1 (fun Q => W (fun J1 B1 => V J1 B1 Q)) := by
  intro Q h
  obtain ⟨J1, B1, x1, x2, x3, x4⟩ := hw _ h
  obtain ⟨e2, J2, B2, y1, y2, y3, y4⟩ := hv J1 B1 x1 x2 Q x3
  exact ⟨e2, J2, B2, y1, y2, y3, fun Q2 z => x4 _ (y4 Q2 z)⟩
theorem pv_bind (W : (Int32 → (Nat → Int32) → (Nat → Nat → Int32) → Prop) → Prop) {V : Int32 → (Nat → Int32) → (Nat → Nat → Int32) → ((Nat → Int32) → (Nat → Nat → Int32) → Prop) → Prop} (hw : DetP j4 b1 W) (hv : ∀ r J1 B1, J1 4 = j4 → B1 1 = b1 → DetV j4 b1 (V r J1 B1)) : DetV j4 b1 (fun Q => W (fun r J1 B1 => V r J1 B1 Q)) := by
  intro Q h
  obtain ⟨e, J1, B1, x1, x2, x3, x4⟩ := hw _ h
  obtain ⟨J2, B2, y1, y2, y3, y4⟩ := hv e J1 B1 x1 x2 Q x3
  exact ⟨J2, B2, y1, y2, y3, fun Q2 z => x4 _ (y4 Q2 z)⟩
theorem dp_no : DetP j4 b1 (fun _ => False) := fun _ h => h.elim
theorem dp_iff {X Y : (Int32 → (Nat → Int32) → (Nat → Nat → Int32) → Prop) → Prop} (h : ∀ Q, X Q ↔ Y Q) (hy : DetP j4 b1 Y) : DetP j4 b1 X := by
  intro Q z
  obtain ⟨e, J1, B1, x1, x2, x3, x4⟩ := hy Q ((h Q).mp z)
  exact ⟨e, J1, B1, x1, x2, x3, fun Q2 y => (h Q2).mpr (x4 Q2 y)⟩
theorem dt_goesOnLetter (x1 : Int32) {J : Nat → Int32} {B : Nat → Nat → Int32} (h4 : J 4 = j4) (h1 : B 1 = b1) : DetP j4 b1 (fun Q => wp_TuneSetterModel_goesOnLetter x1 J B Q) := by
  unfold wp_TuneSetterModel_goesOnLetter
  repeat (first | assumption | with_reducible refine dp_pure ?_ ?_ | with_reducible refine dp_ite ?_ ?_ | with_reducible refine dp_and ?_ | with_reducible refine dp_all ?_ | with_reducible refine dp_ex (fun _ => ?_))
theorem dt_openNumber {J : Nat → Int32} {B : Nat → Nat → Int32} (h4 : J 4 = j4) (h1 : B 1 = b1) : DetV j4 b1 (fun Q => wp_TuneSetterModel_openNumber J B Q) := by
  unfold wp_TuneSetterModel_openNumber
  repeat (first | assumption | with_reducible refine dv_pure ?_ ?_ | with_reducible refine dv_ite ?_ ?_ | with_reducible refine dv_and ?_ | with_reducible refine dv_all ?_)
theorem dt_isDigit (x1 : Int32) {J : Nat → Int32} {B : Nat → Nat → Int32} (h4 : J 4 = j4) (h1 : B 1 = b1) : DetP j4 b1 (fun Q => wp_TuneSetterModel_isDigit x1 J B Q) := by
  unfold wp_TuneSetterModel_isDigit
  repeat (first | assumption | with_reducible refine dp_pure ?_ ?_ | with_reducible refine dp_ite ?_ ?_ | with_reducible refine dp_and ?_ | with_reducible refine dp_all ?_ | with_reducible refine dp_ex (fun _ => ?_))
theorem dt_goesOnNumber (x1 : Int32) {J : Nat → Int32} {B : Nat → Nat → Int32} (h4 : J 4 = j4) (h1 : B 1 = b1) : DetP j4 b1 (fun Q => wp_TuneSetterModel_goesOnNumber x1 J B Q) := by
  unfold wp_TuneSetterModel_goesOnNumber
  repeat (first | assumption | with_reducible refine dp_pure ?_ ?_ | with_reducible refine dp_ite ?_ ?_ | with_reducible refine dp_and ?_ | with_reducible refine dp_all ?_ | with_reducible refine dp_ex (fun _ => ?_) | with_reducible refine pp_bind (wp_TuneSetterModel_isDigit _ _ _) (dt_isDigit _ ?_ ?_) (fun r J1 B1 k4 k1 => ?_))
theorem dt_parts_15 (s0 : Int32) {J : Nat → Int32} {B : Nat → Nat → Int32} (h4 : J 4 = j4) (h1 : B 1 = b1) : DetP j4 b1 (fun Q => wp_TuneSetterModel_parts_15 Q s0 J B) := by
  unfold wp_TuneSetterModel_parts_15
  repeat (first | assumption | with_reducible refine dp_pure ?_ ?_ | with_reducible refine dp_ite ?_ ?_ | with_reducible refine dp_and ?_ | with_reducible refine dp_all ?_ | with_reducible refine dp_ex (fun _ => ?_))
theorem dt_parts {J : Nat → Int32} {B : Nat → Nat → Int32} (h4 : J 4 = j4) (h1 : B 1 = b1) : DetP j4 b1 (fun Q => wp_TuneSetterModel_parts J B Q) := by
  unfold wp_TuneSetterModel_parts
  repeat (first | assumption | with_reducible refine dp_pure ?_ ?_ | with_reducible refine dp_ite ?_ ?_ | with_reducible refine dp_and ?_ | with_reducible refine dp_all ?_ | with_reducible refine dp_ex (fun _ => ?_) | with_reducible refine dt_parts_15 _ ?_ ?_)
theorem dt_divisor_26 (s0 : Int32) {J : Nat → Int32} {B : Nat → Nat → Int32} (h4 : J 4 = j4) (h1 : B 1 = b1) : DetP j4 b1 (fun Q => wp_TuneSetterModel_divisor_26 Q s0 J B) := by
  unfold wp_TuneSetterModel_divisor_26
  repeat (first | assumption | with_reducible refine dp_pure ?_ ?_ | with_reducible refine dp_ite ?_ ?_ | with_reducible refine dp_and ?_ | with_reducible refine dp_all ?_ | with_reducible refine dp_ex (fun _ => ?_))
theorem dt_divisor {J : Nat → Int32} {B : Nat → Nat → Int32} (h4 : J 4 = j4) (h1 : B 1 = b1) : DetP j4 b1 (fun Q => wp_TuneSetterModel_divisor J B Q) := by
  unfold wp_TuneSetterModel_divisor
  repeat (first | assumption | with_reducible refine dp_pure ?_ ?_ | with_reducible refine dp_ite ?_ ?_ | with_reducible refine dp_and ?_ | with_reducible refine dp_all ?_ | with_reducible refine dp_ex (fun _ => ?_) | with_reducible refine dt_divisor_26 _ ?_ ?_)
theorem dt_hasLength {J : Nat → Int32} {B : Nat → Nat → Int32} (h4 : J 4 = j4) (h1 : B 1 = b1) : DetP j4 b1 (fun Q => wp_TuneSetterModel_hasLength J B Q) := by
  unfold wp_TuneSetterModel_hasLength
  repeat (first | assumption | with_reducible refine dp_pure ?_ ?_ | with_reducible refine dp_ite ?_ ?_ | with_reducible refine dp_and ?_ | with_reducible refine dp_all ?_ | with_reducible refine dp_ex (fun _ => ?_) | with_reducible refine pp_bind (wp_TuneSetterModel_parts _ _) (dt_parts ?_ ?_) (fun r J1 B1 k4 k1 => ?_) | with_reducible refine pp_bind (wp_TuneSetterModel_divisor _ _) (dt_divisor ?_ ?_) (fun r J1 B1 k4 k1 => ?_))
theorem dt_placeOf (x1 : Int32) {J : Nat → Int32} {B : Nat → Nat → Int32} (h4 : J 4 = j4) (h1 : B 1 = b1) : DetP j4 b1 (fun Q => wp_TuneSetterModel_placeOf x1 J B Q) := by
  unfold wp_TuneSetterModel_placeOf
  repeat (first | assumption | with_reducible refine dp_pure ?_ ?_ | with_reducible refine dp_ite ?_ ?_ | with_reducible refine dp_and ?_ | with_reducible refine dp_all ?_ | with_reducible refine dp_ex (fun _ => ?_))
theorem dt_plainOf (x1 : Int32) {J : Nat → Int32} {B : Nat → Nat → Int32} (h4 : J 4 = j4) (h1 : B 1 = b1) : DetP j4 b1 (fun Q => wp_TuneSetterModel_plainOf x1 J B Q) := by
  unfold wp_TuneSetterModel_plainOf
  repeat (first | assumption | with_reducible refine dp_pure ?_ ?_ | with_reducible refine dp_ite ?_ ?_ | with_reducible refine dp_and ?_ | with_reducible refine dp_all ?_ | with_reducible refine dp_ex (fun _ => ?_))
theorem dt_toneOf_57 (s0 : Int32) {J : Nat → Int32} {B : Nat → Nat → Int32} (h4 : J 4 = j4) (h1 : B 1 = b1) : DetP j4 b1 (fun Q => wp_TuneSetterModel_toneOf_57 Q s0 J B) := by
  unfold wp_TuneSetterModel_toneOf_57
  repeat (first | assumption | with_reducible refine dp_pure ?_ ?_ | with_reducible refine dp_ite ?_ ?_ | with_reducible refine dp_and ?_ | with_reducible refine dp_all ?_ | with_reducible refine dp_ex (fun _ => ?_) | with_reducible refine pp_bind (wp_TuneSetterModel_plainOf _ _ _) (dt_plainOf _ ?_ ?_) (fun r J1 B1 k4 k1 => ?_))
theorem dt_toneOf {J : Nat → Int32} {B : Nat → Nat → Int32} (h4 : J 4 = j4) (h1 : B 1 = b1) : DetP j4 b1 (fun Q => wp_TuneSetterModel_toneOf J B Q) := by
  unfold wp_TuneSetterModel_toneOf
  repeat (first | assumption | with_reducible refine dp_pure ?_ ?_ | with_reducible refine dp_ite ?_ ?_ | with_reducible refine dp_and ?_ | with_reducible refine dp_all ?_ | with_reducible refine dp_ex (fun _ => ?_) | with_reducible refine pp_bind (wp_TuneSetterModel_placeOf _ _ _) (dt_placeOf _ ?_ ?_) (fun r J1 B1 k4 k1 => ?_) | with_reducible refine dt_toneOf_57 _ ?_ ?_)
theorem dt_noteDone (x1 : Int32) {J : Nat → Int32} {B : Nat → Nat → Int32} (h4 : J 4 = j4) (h1 : B 1 = b1) : DetV j4 b1 (fun Q => wp_TuneSetterModel_noteDone x1 J B Q) := by
  unfold wp_TuneSetterModel_noteDone
  repeat (first | assumption | with_reducible refine dv_pure ?_ ?_ | with_reducible refine dv_ite ?_ ?_ | with_reducible refine dv_and ?_ | with_reducible refine dv_all ?_)
theorem dt_beginLine (x1 x2 : Int32) {J : Nat → Int32} {B : Nat → Nat → Int32} (h4 : J 4 = j4) (h1 : B 1 = b1) : DetP j4 b1 (fun Q => wp_TuneSetterModel_beginLine x1 x2 J B Q) := by
  unfold wp_TuneSetterModel_beginLine
  repeat (first | assumption | with_reducible refine dp_pure ?_ ?_ | with_reducible refine dp_ite ?_ ?_ | with_reducible refine dp_and ?_ | with_reducible refine dp_all ?_ | with_reducible refine dp_ex (fun _ => ?_))
theorem dt_letterOf_19 (y0 : Int32) {J : Nat → Int32} {B : Nat → Nat → Int32} (h4 : J 4 = j4) (h1 : B 1 = b1) : DetP j4 b1 (fun Q => wp_TuneSetterModel_letterOf_19 Q y0 J B) := by
  unfold wp_TuneSetterModel_letterOf_19
  repeat (first | assumption | with_reducible refine dp_pure ?_ ?_ | with_reducible refine dp_ite ?_ ?_ | with_reducible refine dp_and ?_ | with_reducible refine dp_all ?_ | with_reducible refine dp_ex (fun _ => ?_))
theorem dt_letterOf (x1 : Int32) {J : Nat → Int32} {B : Nat → Nat → Int32} (h4 : J 4 = j4) (h1 : B 1 = b1) : DetP j4 b1 (fun Q => wp_TuneSetterModel_letterOf x1 J B Q) := by
  unfold wp_TuneSetterModel_letterOf
  repeat (first | assumption | with_reducible refine dp_pure ?_ ?_ | with_reducible refine dp_ite ?_ ?_ | with_reducible refine dp_and ?_ | with_reducible refine dp_all ?_ | with_reducible refine dp_ex (fun _ => ?_) | with_reducible refine dt_letterOf_19 _ ?_ ?_)
theorem dt_beginsNote (x1 : Int32) {J : Nat → Int32} {B : Nat → Nat → Int32} (h4 : J 4 = j4) (h1 : B 1 = b1) : DetP j4 b1 (fun Q => wp_TuneSetterModel_beginsNote x1 J B Q) := by
  unfold wp_TuneSetterModel_beginsNote
  repeat (first | assumption | with_reducible refine dp_pure ?_ ?_ | with_reducible refine dp_ite ?_ ?_ | with_reducible refine dp_and ?_ | with_reducible refine dp_all ?_ | with_reducible refine dp_ex (fun _ => ?_) | with_reducible refine pp_bind (wp_TuneSetterModel_letterOf _ _ _) (dt_letterOf _ ?_ ?_) (fun r J1 B1 k4 k1 => ?_))
theorem dt_beginsItem (x1 : Int32) {J : Nat → Int32} {B : Nat → Nat → Int32} (h4 : J 4 = j4) (h1 : B 1 = b1) : DetP j4 b1 (fun Q => wp_TuneSetterModel_beginsItem x1 J B Q) := by
  unfold wp_TuneSetterModel_beginsItem
  repeat (first | assumption | with_reducible refine dp_pure ?_ ?_ | with_reducible refine dp_ite ?_ ?_ | with_reducible refine dp_and ?_ | with_reducible refine dp_all ?_ | with_reducible refine dp_ex (fun _ => ?_) | with_reducible refine pp_bind (wp_TuneSetterModel_beginsNote _ _ _) (dt_beginsNote _ ?_ ?_) (fun r J1 B1 k4 k1 => ?_))
theorem dt_full {J : Nat → Int32} {B : Nat → Nat → Int32} (h4 : J 4 = j4) (h1 : B 1 = b1) : DetP j4 b1 (fun Q => wp_TuneSetterModel_full J B Q) := by
  unfold wp_TuneSetterModel_full
  repeat (first | assumption | with_reducible refine dp_pure ?_ ?_ | with_reducible refine dp_ite ?_ ?_ | with_reducible refine dp_and ?_ | with_reducible refine dp_all ?_ | with_reducible refine dp_ex (fun _ => ?_))
theorem dt_openItem {J : Nat → Int32} {B : Nat → Nat → Int32} (h4 : J 4 = j4) (h1 : B 1 = b1) : DetV j4 b1 (fun Q => wp_TuneSetterModel_openItem J B Q) := by
  unfold wp_TuneSetterModel_openItem
  repeat (first | assumption | with_reducible refine dv_pure ?_ ?_ | with_reducible refine dv_ite ?_ ?_ | with_reducible refine dv_and ?_ | with_reducible refine dv_all ?_)
theorem dt_openLetter (x1 : Int32) {J : Nat → Int32} {B : Nat → Nat → Int32} (h4 : J 4 = j4) (h1 : B 1 = b1) : DetV j4 b1 (fun Q => wp_TuneSetterModel_openLetter x1 J B Q) := by
  unfold wp_TuneSetterModel_openLetter
  repeat (first | assumption | with_reducible refine dv_pure ?_ ?_ | with_reducible refine dv_ite ?_ ?_ | with_reducible refine dv_and ?_ | with_reducible refine dv_all ?_ | with_reducible refine pv_bind (wp_TuneSetterModel_letterOf _ _ _) (dt_letterOf _ ?_ ?_) (fun r J1 B1 k4 k1 => ?_))
theorem dt_beginNote (x1 : Int32) {J : Nat → Int32} {B : Nat → Nat → Int32} (h4 : J 4 = j4) (h1 : B 1 = b1) : DetP j4 b1 (fun Q => wp_TuneSetterModel_beginNote x1 J B Q) := by
  unfold wp_TuneSetterModel_beginNote
  repeat (first | assumption | with_reducible refine dp_pure ?_ ?_ | with_reducible refine dp_ite ?_ ?_ | with_reducible refine dp_and ?_ | with_reducible refine dp_all ?_ | with_reducible refine dp_ex (fun _ => ?_) | with_reducible refine pp_bind (wp_TuneSetterModel_letterOf _ _ _) (dt_letterOf _ ?_ ?_) (fun r J1 B1 k4 k1 => ?_) | with_reducible refine vp_bind (wp_TuneSetterModel_openLetter _ _ _) (dt_openLetter _ ?_ ?_) (fun J1 B1 k4 k1 => ?_))
theorem dt_core (x1 : Int32) {J : Nat → Int32} {B : Nat → Nat → Int32} (h4 : J 4 = j4) (h1 : B 1 = b1) : DetP j4 b1 (fun Q => wp_TuneSetterModel_core x1 J B Q) := by
  unfold wp_TuneSetterModel_core
  repeat (first | assumption | with_reducible refine dp_pure ?_ ?_ | with_reducible refine dp_ite ?_ ?_ | with_reducible refine dp_and ?_ | with_reducible refine dp_all ?_ | with_reducible refine dp_ex (fun _ => ?_) | with_reducible refine vp_bind (wp_TuneSetterModel_openNumber _ _) (dt_openNumber ?_ ?_) (fun J1 B1 k4 k1 => ?_) | with_reducible refine pp_bind (wp_TuneSetterModel_beginsNote _ _ _) (dt_beginsNote _ ?_ ?_) (fun r J1 B1 k4 k1 => ?_) | with_reducible refine pp_bind (wp_TuneSetterModel_beginNote _ _ _) (dt_beginNote _ ?_ ?_) (fun r J1 B1 k4 k1 => ?_))
theorem dt_beginItem_23 (y1 : Int32) {J : Nat → Int32} {B : Nat → Nat → Int32} (h4 : J 4 = j4) (h1 : B 1 = b1) : DetP j4 b1 (fun Q => wp_TuneSetterModel_beginItem_23 Q y1 J B) := by
  unfold wp_TuneSetterModel_beginItem_23
  repeat (first | assumption | with_reducible refine dp_pure ?_ ?_ | with_reducible refine dp_ite ?_ ?_ | with_reducible refine dp_and ?_ | with_reducible refine dp_all ?_ | with_reducible refine dp_ex (fun _ => ?_) | with_reducible refine vp_bind (wp_TuneSetterModel_openItem _ _) (dt_openItem ?_ ?_) (fun J1 B1 k4 k1 => ?_) | with_reducible refine pp_bind (wp_TuneSetterModel_core _ _ _) (dt_core _ ?_ ?_) (fun r J1 B1 k4 k1 => ?_))
theorem dt_beginItem (x1 : Int32) {J : Nat → Int32} {B : Nat → Nat → Int32} (h4 : J 4 = j4) (h1 : B 1 = b1) : DetP j4 b1 (fun Q => wp_TuneSetterModel_beginItem x1 J B Q) := by
  unfold wp_TuneSetterModel_beginItem
  repeat (first | assumption | with_reducible refine dp_pure ?_ ?_ | with_reducible refine dp_ite ?_ ?_ | with_reducible refine dp_and ?_ | with_reducible refine dp_all ?_ | with_reducible refine dp_ex (fun _ => ?_) | with_reducible refine pp_bind (wp_TuneSetterModel_beginsItem _ _ _) (dt_beginsItem _ ?_ ?_) (fun r J1 B1 k4 k1 => ?_) | with_reducible refine dt_beginItem_23 _ ?_ ?_)
theorem dt_beginBar_186 : ∀ (n : Nat) (c k : Int32) {J : Nat → Int32} {B : Nat → Nat → Int32}, J 4 = j4 → B 1 = b1 → DetP j4 b1 (fun Q => wp_TuneSetterModel_beginBar_186 Q n c k J B) := by
  intro n
  induction n with
  | zero => intro c k J B h4 h1; exact dp_no
  | succ n ih =>
    intro c k J B h4 h1
    unfold wp_TuneSetterModel_beginBar_186
    repeat (first | assumption | with_reducible refine dp_pure ?_ ?_ | with_reducible refine dp_ite ?_ ?_ | with_reducible refine dp_and ?_ | with_reducible refine dp_all ?_ | with_reducible refine dp_ex (fun _ => ?_) | with_reducible refine pp_bind (wp_TuneSetterModel_beginItem _ _ _) (dt_beginItem _ ?_ ?_) (fun r J1 B1 k4 k1 => ?_) | with_reducible refine ih _ _ ?_ ?_)
theorem dt_beginBar_123 (y1 : Int32) {J : Nat → Int32} {B : Nat → Nat → Int32} (h4 : J 4 = j4) (h1 : B 1 = b1) : DetP j4 b1 (fun Q => wp_TuneSetterModel_beginBar_123 Q y1 J B) := by
  unfold wp_TuneSetterModel_beginBar_123
  repeat (first | assumption | with_reducible refine dp_pure ?_ ?_ | with_reducible refine dp_ite ?_ ?_ | with_reducible refine dp_and ?_ | with_reducible refine dp_all ?_ | with_reducible refine dp_ex (fun _ => ?_) | with_reducible refine dt_beginBar_186 _ _ _ ?_ ?_)
theorem dt_beginBar_105 (y1 : Int32) {J : Nat → Int32} {B : Nat → Nat → Int32} (h4 : J 4 = j4) (h1 : B 1 = b1) : DetP j4 b1 (fun Q => wp_TuneSetterModel_beginBar_105 Q y1 J B) := by
  unfold wp_TuneSetterModel_beginBar_105
  repeat (first | assumption | with_reducible refine dp_pure ?_ ?_ | with_reducible refine dp_ite ?_ ?_ | with_reducible refine dp_and ?_ | with_reducible refine dp_all ?_ | with_reducible refine dp_ex (fun _ => ?_) | with_reducible refine dt_beginBar_123 _ ?_ ?_)
theorem dt_beginBar_47 (y1 y2 : Int32) {J : Nat → Int32} {B : Nat → Nat → Int32} (h4 : J 4 = j4) (h1 : B 1 = b1) : DetP j4 b1 (fun Q => wp_TuneSetterModel_beginBar_47 Q y1 y2 J B) := by
  unfold wp_TuneSetterModel_beginBar_47
  repeat (first | assumption | with_reducible refine dp_pure ?_ ?_ | with_reducible refine dp_ite ?_ ?_ | with_reducible refine dp_and ?_ | with_reducible refine dp_all ?_ | with_reducible refine dp_ex (fun _ => ?_) | with_reducible refine dt_beginBar_123 _ ?_ ?_ | with_reducible refine dt_beginBar_105 _ ?_ ?_)
theorem dt_beginBar (x1 x2 : Int32) {J : Nat → Int32} {B : Nat → Nat → Int32} (h4 : J 4 = j4) (h1 : B 1 = b1) : DetP j4 b1 (fun Q => wp_TuneSetterModel_beginBar x1 x2 J B Q) := by
  unfold wp_TuneSetterModel_beginBar
  repeat (first | assumption | with_reducible refine dp_pure ?_ ?_ | with_reducible refine dp_ite ?_ ?_ | with_reducible refine dp_and ?_ | with_reducible refine dp_all ?_ | with_reducible refine dp_ex (fun _ => ?_) | with_reducible refine pp_bind (wp_TuneSetterModel_beginsItem _ _ _) (dt_beginsItem _ ?_ ?_) (fun r J1 B1 k4 k1 => ?_) | with_reducible refine pp_bind (wp_TuneSetterModel_full _ _) (dt_full ?_ ?_) (fun r J1 B1 k4 k1 => ?_) | with_reducible refine dt_beginBar_47 _ _ ?_ ?_)
theorem dt_behind (x1 x2 : Int32) {J : Nat → Int32} {B : Nat → Nat → Int32} (h4 : J 4 = j4) (h1 : B 1 = b1) : DetP j4 b1 (fun Q => wp_TuneSetterModel_behind x1 x2 J B Q) := by
  unfold wp_TuneSetterModel_behind
  repeat (first | assumption | with_reducible refine dp_pure ?_ ?_ | with_reducible refine dp_ite ?_ ?_ | with_reducible refine dp_and ?_ | with_reducible refine dp_all ?_ | with_reducible refine dp_ex (fun _ => ?_) | with_reducible refine pp_bind (wp_TuneSetterModel_beginBar _ _ _ _) (dt_beginBar _ _ ?_ ?_) (fun r J1 B1 k4 k1 => ?_))
theorem dt_goOnLine_82 (y1 y2 y3 s0 s1 : Int32) {J : Nat → Int32} {B : Nat → Nat → Int32} (h4 : J 4 = j4) (h1 : B 1 = b1) : DetP j4 b1 (fun Q => wp_TuneSetterModel_goOnLine_82 Q y1 y2 y3 s0 s1 J B) := by
  unfold wp_TuneSetterModel_goOnLine_82
  repeat (first | assumption | with_reducible refine dp_pure ?_ ?_ | with_reducible refine dp_ite ?_ ?_ | with_reducible refine dp_and ?_ | with_reducible refine dp_all ?_ | with_reducible refine dp_ex (fun _ => ?_) | with_reducible refine pp_bind (wp_TuneSetterModel_behind _ _ _ _) (dt_behind _ _ ?_ ?_) (fun r J1 B1 k4 k1 => ?_))
theorem dt_goOnLine_33 (y1 y2 y3 : Int32) {J : Nat → Int32} {B : Nat → Nat → Int32} (h4 : J 4 = j4) (h1 : B 1 = b1) : DetP j4 b1 (fun Q => wp_TuneSetterModel_goOnLine_33 Q y1 y2 y3 J B) := by
  unfold wp_TuneSetterModel_goOnLine_33
  repeat (first | assumption | with_reducible refine dp_pure ?_ ?_ | with_reducible refine dp_ite ?_ ?_ | with_reducible refine dp_and ?_ | with_reducible refine dp_all ?_ | with_reducible refine dp_ex (fun _ => ?_) | with_reducible refine dt_goOnLine_82 _ _ _ _ _ ?_ ?_)
theorem dt_goOnLine (x1 x2 : Int32) {J : Nat → Int32} {B : Nat → Nat → Int32} (h4 : J 4 = j4) (h1 : B 1 = b1) : DetP j4 b1 (fun Q => wp_TuneSetterModel_goOnLine x1 x2 J B Q) := by
  unfold wp_TuneSetterModel_goOnLine
  repeat (first | assumption | with_reducible refine dp_pure ?_ ?_ | with_reducible refine dp_ite ?_ ?_ | with_reducible refine dp_and ?_ | with_reducible refine dp_all ?_ | with_reducible refine dp_ex (fun _ => ?_) | with_reducible refine dt_goOnLine_33 _ _ _ ?_ ?_)
theorem dt_inChord_28 (y1 y2 : Int32) {J : Nat → Int32} {B : Nat → Nat → Int32} (h4 : J 4 = j4) (h1 : B 1 = b1) : DetP j4 b1 (fun Q => wp_TuneSetterModel_inChord_28 Q y1 y2 J B) := by
  unfold wp_TuneSetterModel_inChord_28
  repeat (first | assumption | with_reducible refine dp_pure ?_ ?_ | with_reducible refine dp_ite ?_ ?_ | with_reducible refine dp_and ?_ | with_reducible refine dp_all ?_ | with_reducible refine dp_ex (fun _ => ?_) | with_reducible refine pp_bind (wp_TuneSetterModel_beginsNote _ _ _) (dt_beginsNote _ ?_ ?_) (fun r J1 B1 k4 k1 => ?_) | with_reducible refine pp_bind (wp_TuneSetterModel_beginNote _ _ _) (dt_beginNote _ ?_ ?_) (fun r J1 B1 k4 k1 => ?_))
theorem dt_inChord (x1 : Int32) {J : Nat → Int32} {B : Nat → Nat → Int32} (h4 : J 4 = j4) (h1 : B 1 = b1) : DetP j4 b1 (fun Q => wp_TuneSetterModel_inChord x1 J B Q) := by
  unfold wp_TuneSetterModel_inChord
  repeat (first | assumption | with_reducible refine dp_pure ?_ ?_ | with_reducible refine dp_ite ?_ ?_ | with_reducible refine dp_and ?_ | with_reducible refine dp_all ?_ | with_reducible refine dp_ex (fun _ => ?_) | with_reducible refine vp_bind (wp_TuneSetterModel_openNumber _ _) (dt_openNumber ?_ ?_) (fun J1 B1 k4 k1 => ?_) | with_reducible refine dt_inChord_28 _ _ ?_ ?_)
theorem dt_openChord (x1 : Int32) {J : Nat → Int32} {B : Nat → Nat → Int32} (h4 : J 4 = j4) (h1 : B 1 = b1) : DetP j4 b1 (fun Q => wp_TuneSetterModel_openChord x1 J B Q) := by
  unfold wp_TuneSetterModel_openChord
  repeat (first | assumption | with_reducible refine dp_pure ?_ ?_ | with_reducible refine dp_ite ?_ ?_ | with_reducible refine dp_and ?_ | with_reducible refine dp_all ?_ | with_reducible refine dp_ex (fun _ => ?_) | with_reducible refine pp_bind (wp_TuneSetterModel_inChord _ _ _) (dt_inChord _ ?_ ?_) (fun r J1 B1 k4 k1 => ?_))
theorem dt_goOnSign_40 (y1 : Int32) {J : Nat → Int32} {B : Nat → Nat → Int32} (h4 : J 4 = j4) (h1 : B 1 = b1) : DetP j4 b1 (fun Q => wp_TuneSetterModel_goOnSign_40 Q y1 J B) := by
  unfold wp_TuneSetterModel_goOnSign_40
  repeat (first | assumption | with_reducible refine dp_pure ?_ ?_ | with_reducible refine dp_ite ?_ ?_ | with_reducible refine dp_and ?_ | with_reducible refine dp_all ?_ | with_reducible refine dp_ex (fun _ => ?_) | with_reducible refine pp_bind (wp_TuneSetterModel_letterOf _ _ _) (dt_letterOf _ ?_ ?_) (fun r J1 B1 k4 k1 => ?_) | with_reducible refine vp_bind (wp_TuneSetterModel_openLetter _ _ _) (dt_openLetter _ ?_ ?_) (fun J1 B1 k4 k1 => ?_))
theorem dt_goOnSign_14 (y1 : Int32) {J : Nat → Int32} {B : Nat → Nat → Int32} (h4 : J 4 = j4) (h1 : B 1 = b1) : DetP j4 b1 (fun Q => wp_TuneSetterModel_goOnSign_14 Q y1 J B) := by
  unfold wp_TuneSetterModel_goOnSign_14
  repeat (first | assumption | with_reducible refine dp_pure ?_ ?_ | with_reducible refine dp_ite ?_ ?_ | with_reducible refine dp_and ?_ | with_reducible refine dp_all ?_ | with_reducible refine dp_ex (fun _ => ?_) | with_reducible refine dt_goOnSign_40 _ ?_ ?_)
theorem dt_goOnSign (x1 : Int32) {J : Nat → Int32} {B : Nat → Nat → Int32} (h4 : J 4 = j4) (h1 : B 1 = b1) : DetP j4 b1 (fun Q => wp_TuneSetterModel_goOnSign x1 J B Q) := by
  unfold wp_TuneSetterModel_goOnSign
  repeat (first | assumption | with_reducible refine dp_pure ?_ ?_ | with_reducible refine dp_ite ?_ ?_ | with_reducible refine dp_and ?_ | with_reducible refine dp_all ?_ | with_reducible refine dp_ex (fun _ => ?_) | with_reducible refine dt_goOnSign_14 _ ?_ ?_)
theorem dt_inside_26 (y1 y2 : Int32) {J : Nat → Int32} {B : Nat → Nat → Int32} (h4 : J 4 = j4) (h1 : B 1 = b1) : DetP j4 b1 (fun Q => wp_TuneSetterModel_inside_26 Q y1 y2 J B) := by
  unfold wp_TuneSetterModel_inside_26
  repeat (first | assumption | with_reducible refine dp_pure ?_ ?_ | with_reducible refine dp_ite ?_ ?_ | with_reducible refine dp_and ?_ | with_reducible refine dp_all ?_ | with_reducible refine dp_ex (fun _ => ?_) | with_reducible refine pp_bind (wp_TuneSetterModel_beginLine _ _ _ _) (dt_beginLine _ _ ?_ ?_) (fun r J1 B1 k4 k1 => ?_) | with_reducible refine pp_bind (wp_TuneSetterModel_full _ _) (dt_full ?_ ?_) (fun r J1 B1 k4 k1 => ?_))
theorem dt_inside (x1 x2 : Int32) {J : Nat → Int32} {B : Nat → Nat → Int32} (h4 : J 4 = j4) (h1 : B 1 = b1) : DetP j4 b1 (fun Q => wp_TuneSetterModel_inside x1 x2 J B Q) := by
  unfold wp_TuneSetterModel_inside
  repeat (first | assumption | with_reducible refine dp_pure ?_ ?_ | with_reducible refine dp_ite ?_ ?_ | with_reducible refine dp_and ?_ | with_reducible refine dp_all ?_ | with_reducible refine dp_ex (fun _ => ?_) | with_reducible refine pp_bind (wp_TuneSetterModel_beginItem _ _ _) (dt_beginItem _ ?_ ?_) (fun r J1 B1 k4 k1 => ?_) | with_reducible refine dt_inside_26 _ _ ?_ ?_)
theorem dt_go_234 (y1 s0 s1 : Int32) {J : Nat → Int32} {B : Nat → Nat → Int32} (h4 : J 4 = j4) (h1 : B 1 = b1) : DetP j4 b1 (fun Q => wp_TuneSetterModel_go_234 Q y1 s0 s1 J B) := by
  unfold wp_TuneSetterModel_go_234
  repeat (first | assumption | with_reducible refine dp_pure ?_ ?_ | with_reducible refine dp_ite ?_ ?_ | with_reducible refine dp_and ?_ | with_reducible refine dp_all ?_ | with_reducible refine dp_ex (fun _ => ?_))
theorem dt_go_128 (y1 : Int32) {J : Nat → Int32} {B : Nat → Nat → Int32} (h4 : J 4 = j4) (h1 : B 1 = b1) : DetP j4 b1 (fun Q => wp_TuneSetterModel_go_128 Q y1 J B) := by
  unfold wp_TuneSetterModel_go_128
  repeat (first | assumption | with_reducible refine dp_pure ?_ ?_ | with_reducible refine dp_ite ?_ ?_ | with_reducible refine dp_and ?_ | with_reducible refine dp_all ?_ | with_reducible refine dp_ex (fun _ => ?_))
theorem dt_go (c x : Int32) {J : Nat → Int32} {B : Nat → Nat → Int32} (h4 : J 4 = j4) (h1 : B 1 = b1) : DetP j4 b1 (fun Q => wp_TuneSetterModel_go c x J B Q) := by
  by_cases n0 : J 9 = 0
  · refine dp_iff (Y := fun Q => ((c = 32 → Q 0 J B) ∧ (¬ c = 32 → ((c = 124 → (wp_TuneSetterModel_beginLine c x J B (fun r J1 B1 => Q r J1 B1))) ∧ (¬ c = 124 → ((c = 58 → (wp_TuneSetterModel_beginLine c x J B (fun r J1 B1 => Q r J1 B1))) ∧ (¬ c = 58 → (wp_TuneSetterModel_beginBar c x J B (fun r J1 B1 => Q r J1 B1))))))))) (fun Q => ⟨fun h => h.1 n0, fun h => go_0 n0 h⟩) ?_
    repeat (first | assumption | with_reducible refine dp_pure ?_ ?_ | with_reducible refine dp_ite ?_ ?_ | with_reducible refine dp_and ?_ | with_reducible refine dp_all ?_ | with_reducible refine dp_ex (fun _ => ?_) | with_reducible refine pp_bind (wp_TuneSetterModel_beginLine _ _ _ _) (dt_beginLine _ _ ?_ ?_) (fun r J1 B1 k4 k1 => ?_) | with_reducible refine vp_bind (wp_TuneSetterModel_openItem _ _) (dt_openItem ?_ ?_) (fun J1 B1 k4 k1 => ?_) | with_reducible refine pp_bind (wp_TuneSetterModel_core _ _ _) (dt_core _ ?_ ?_) (fun r J1 B1 k4 k1 => ?_) | with_reducible refine pp_bind (wp_TuneSetterModel_beginItem _ _ _) (dt_beginItem _ ?_ ?_) (fun r J1 B1 k4 k1 => ?_) | with_reducible refine pp_bind (wp_TuneSetterModel_beginBar _ _ _ _) (dt_beginBar _ _ ?_ ?_) (fun r J1 B1 k4 k1 => ?_) | with_reducible refine pp_bind (wp_TuneSetterModel_behind _ _ _ _) (dt_behind _ _ ?_ ?_) (fun r J1 B1 k4 k1 => ?_) | with_reducible refine pp_bind (wp_TuneSetterModel_goOnLine _ _ _ _) (dt_goOnLine _ _ ?_ ?_) (fun r J1 B1 k4 k1 => ?_) | with_reducible refine pp_bind (wp_TuneSetterModel_inChord _ _ _) (dt_inChord _ ?_ ?_) (fun r J1 B1 k4 k1 => ?_) | with_reducible refine pp_bind (wp_TuneSetterModel_openChord _ _ _) (dt_openChord _ ?_ ?_) (fun r J1 B1 k4 k1 => ?_) | with_reducible refine pp_bind (wp_TuneSetterModel_goOnSign _ _ _) (dt_goOnSign _ ?_ ?_) (fun r J1 B1 k4 k1 => ?_) | with_reducible refine pp_bind (wp_TuneSetterModel_inside _ _ _ _) (dt_inside _ _ ?_ ?_) (fun r J1 B1 k4 k1 => ?_) | with_reducible refine dt_go_234 _ _ _ ?_ ?_ | with_reducible refine dt_go_128 _ ?_ ?_)
  by_cases n1 : J 9 = 1
  · refine dp_iff (Y := fun Q => wp_TuneSetterModel_goOnLine c x J B (fun r J1 B1 => Q r J1 B1)) (fun Q => ⟨fun h => h.2.1 n1, fun h => go_1 n1 h⟩) ?_
    repeat (first | assumption | with_reducible refine dp_pure ?_ ?_ | with_reducible refine dp_ite ?_ ?_ | with_reducible refine dp_and ?_ | with_reducible refine dp_all ?_ | with_reducible refine dp_ex (fun _ => ?_) | with_reducible refine pp_bind (wp_TuneSetterModel_beginLine _ _ _ _) (dt_beginLine _ _ ?_ ?_) (fun r J1 B1 k4 k1 => ?_) | with_reducible refine vp_bind (wp_TuneSetterModel_openItem _ _) (dt_openItem ?_ ?_) (fun J1 B1 k4 k1 => ?_) | with_reducible refine pp_bind (wp_TuneSetterModel_core _ _ _) (dt_core _ ?_ ?_) (fun r J1 B1 k4 k1 => ?_) | with_reducible refine pp_bind (wp_TuneSetterModel_beginItem _ _ _) (dt_beginItem _ ?_ ?_) (fun r J1 B1 k4 k1 => ?_) | with_reducible refine pp_bind (wp_TuneSetterModel_beginBar _ _ _ _) (dt_beginBar _ _ ?_ ?_) (fun r J1 B1 k4 k1 => ?_) | with_reducible refine pp_bind (wp_TuneSetterModel_behind _ _ _ _) (dt_behind _ _ ?_ ?_) (fun r J1 B1 k4 k1 => ?_) | with_reducible refine pp_bind (wp_TuneSetterModel_goOnLine _ _ _ _) (dt_goOnLine _ _ ?_ ?_) (fun r J1 B1 k4 k1 => ?_) | with_reducible refine pp_bind (wp_TuneSetterModel_inChord _ _ _) (dt_inChord _ ?_ ?_) (fun r J1 B1 k4 k1 => ?_) | with_reducible refine pp_bind (wp_TuneSetterModel_openChord _ _ _) (dt_openChord _ ?_ ?_) (fun r J1 B1 k4 k1 => ?_) | with_reducible refine pp_bind (wp_TuneSetterModel_goOnSign _ _ _) (dt_goOnSign _ ?_ ?_) (fun r J1 B1 k4 k1 => ?_) | with_reducible refine pp_bind (wp_TuneSetterModel_inside _ _ _ _) (dt_inside _ _ ?_ ?_) (fun r J1 B1 k4 k1 => ?_) | with_reducible refine dt_go_234 _ _ _ ?_ ?_ | with_reducible refine dt_go_128 _ ?_ ?_)
  by_cases n2 : J 9 = 2
  · refine dp_iff (Y := fun Q => wp_TuneSetterModel_goOnLine c x J B (fun r J1 B1 => Q r J1 B1)) (fun Q => ⟨fun h => h.2.2.1 n2, fun h => go_2 n2 h⟩) ?_
    repeat (first | assumption | with_reducible refine dp_pure ?_ ?_ | with_reducible refine dp_ite ?_ ?_ | with_reducible refine dp_and ?_ | with_reducible refine dp_all ?_ | with_reducible refine dp_ex (fun _ => ?_) | with_reducible refine pp_bind (wp_TuneSetterModel_beginLine _ _ _ _) (dt_beginLine _ _ ?_ ?_) (fun r J1 B1 k4 k1 => ?_) | with_reducible refine vp_bind (wp_TuneSetterModel_openItem _ _) (dt_openItem ?_ ?_) (fun J1 B1 k4 k1 => ?_) | with_reducible refine pp_bind (wp_TuneSetterModel_core _ _ _) (dt_core _ ?_ ?_) (fun r J1 B1 k4 k1 => ?_) | with_reducible refine pp_bind (wp_TuneSetterModel_beginItem _ _ _) (dt_beginItem _ ?_ ?_) (fun r J1 B1 k4 k1 => ?_) | with_reducible refine pp_bind (wp_TuneSetterModel_beginBar _ _ _ _) (dt_beginBar _ _ ?_ ?_) (fun r J1 B1 k4 k1 => ?_) | with_reducible refine pp_bind (wp_TuneSetterModel_behind _ _ _ _) (dt_behind _ _ ?_ ?_) (fun r J1 B1 k4 k1 => ?_) | with_reducible refine pp_bind (wp_TuneSetterModel_goOnLine _ _ _ _) (dt_goOnLine _ _ ?_ ?_) (fun r J1 B1 k4 k1 => ?_) | with_reducible refine pp_bind (wp_TuneSetterModel_inChord _ _ _) (dt_inChord _ ?_ ?_) (fun r J1 B1 k4 k1 => ?_) | with_reducible refine pp_bind (wp_TuneSetterModel_openChord _ _ _) (dt_openChord _ ?_ ?_) (fun r J1 B1 k4 k1 => ?_) | with_reducible refine pp_bind (wp_TuneSetterModel_goOnSign _ _ _) (dt_goOnSign _ ?_ ?_) (fun r J1 B1 k4 k1 => ?_) | with_reducible refine pp_bind (wp_TuneSetterModel_inside _ _ _ _) (dt_inside _ _ ?_ ?_) (fun r J1 B1 k4 k1 => ?_) | with_reducible refine dt_go_234 _ _ _ ?_ ?_ | with_reducible refine dt_go_128 _ ?_ ?_)
  by_cases n3 : J 9 = 3
  · refine dp_iff (Y := fun Q => wp_TuneSetterModel_behind c x J B (fun r J1 B1 => Q r J1 B1)) (fun Q => ⟨fun h => h.2.2.2.1 n3, fun h => go_3 n3 h⟩) ?_
    repeat (first | assumption | with_reducible refine dp_pure ?_ ?_ | with_reducible refine dp_ite ?_ ?_ | with_reducible refine dp_and ?_ | with_reducible refine dp_all ?_ | with_reducible refine dp_ex (fun _ => ?_) | with_reducible refine pp_bind (wp_TuneSetterModel_beginLine _ _ _ _) (dt_beginLine _ _ ?_ ?_) (fun r J1 B1 k4 k1 => ?_) | with_reducible refine vp_bind (wp_TuneSetterModel_openItem _ _) (dt_openItem ?_ ?_) (fun J1 B1 k4 k1 => ?_) | with_reducible refine pp_bind (wp_TuneSetterModel_core _ _ _) (dt_core _ ?_ ?_) (fun r J1 B1 k4 k1 => ?_) | with_reducible refine pp_bind (wp_TuneSetterModel_beginItem _ _ _) (dt_beginItem _ ?_ ?_) (fun r J1 B1 k4 k1 => ?_) | with_reducible refine pp_bind (wp_TuneSetterModel_beginBar _ _ _ _) (dt_beginBar _ _ ?_ ?_) (fun r J1 B1 k4 k1 => ?_) | with_reducible refine pp_bind (wp_TuneSetterModel_behind _ _ _ _) (dt_behind _ _ ?_ ?_) (fun r J1 B1 k4 k1 => ?_) | with_reducible refine pp_bind (wp_TuneSetterModel_goOnLine _ _ _ _) (dt_goOnLine _ _ ?_ ?_) (fun r J1 B1 k4 k1 => ?_) | with_reducible refine pp_bind (wp_TuneSetterModel_inChord _ _ _) (dt_inChord _ ?_ ?_) (fun r J1 B1 k4 k1 => ?_) | with_reducible refine pp_bind (wp_TuneSetterModel_openChord _ _ _) (dt_openChord _ ?_ ?_) (fun r J1 B1 k4 k1 => ?_) | with_reducible refine pp_bind (wp_TuneSetterModel_goOnSign _ _ _) (dt_goOnSign _ ?_ ?_) (fun r J1 B1 k4 k1 => ?_) | with_reducible refine pp_bind (wp_TuneSetterModel_inside _ _ _ _) (dt_inside _ _ ?_ ?_) (fun r J1 B1 k4 k1 => ?_) | with_reducible refine dt_go_234 _ _ _ ?_ ?_ | with_reducible refine dt_go_128 _ ?_ ?_)
  by_cases n4 : J 9 = 4
  · refine dp_iff (Y := fun Q => ((c = 49 → wp_TuneSetterModel_go_128 Q c J B) ∧ (¬ c = 49 → ((c = 50 → wp_TuneSetterModel_go_128 Q c J B) ∧ (¬ c = 50 → (wp_TuneSetterModel_openItem J B (fun J1 B1 => (wp_TuneSetterModel_openChord c J1 B1 (fun r J1 B1 => Q r J1 B1))))))))) (fun Q => ⟨fun h => h.2.2.2.2.1 n4, fun h => go_4 n4 h⟩) ?_
    repeat (first | assumption | with_reducible refine dp_pure ?_ ?_ | with_reducible refine dp_ite ?_ ?_ | with_reducible refine dp_and ?_ | with_reducible refine dp_all ?_ | with_reducible refine dp_ex (fun _ => ?_) | with_reducible refine pp_bind (wp_TuneSetterModel_beginLine _ _ _ _) (dt_beginLine _ _ ?_ ?_) (fun r J1 B1 k4 k1 => ?_) | with_reducible refine vp_bind (wp_TuneSetterModel_openItem _ _) (dt_openItem ?_ ?_) (fun J1 B1 k4 k1 => ?_) | with_reducible refine pp_bind (wp_TuneSetterModel_core _ _ _) (dt_core _ ?_ ?_) (fun r J1 B1 k4 k1 => ?_) | with_reducible refine pp_bind (wp_TuneSetterModel_beginItem _ _ _) (dt_beginItem _ ?_ ?_) (fun r J1 B1 k4 k1 => ?_) | with_reducible refine pp_bind (wp_TuneSetterModel_beginBar _ _ _ _) (dt_beginBar _ _ ?_ ?_) (fun r J1 B1 k4 k1 => ?_) | with_reducible refine pp_bind (wp_TuneSetterModel_behind _ _ _ _) (dt_behind _ _ ?_ ?_) (fun r J1 B1 k4 k1 => ?_) | with_reducible refine pp_bind (wp_TuneSetterModel_goOnLine _ _ _ _) (dt_goOnLine _ _ ?_ ?_) (fun r J1 B1 k4 k1 => ?_) | with_reducible refine pp_bind (wp_TuneSetterModel_inChord _ _ _) (dt_inChord _ ?_ ?_) (fun r J1 B1 k4 k1 => ?_) | with_reducible refine pp_bind (wp_TuneSetterModel_openChord _ _ _) (dt_openChord _ ?_ ?_) (fun r J1 B1 k4 k1 => ?_) | with_reducible refine pp_bind (wp_TuneSetterModel_goOnSign _ _ _) (dt_goOnSign _ ?_ ?_) (fun r J1 B1 k4 k1 => ?_) | with_reducible refine pp_bind (wp_TuneSetterModel_inside _ _ _ _) (dt_inside _ _ ?_ ?_) (fun r J1 B1 k4 k1 => ?_) | with_reducible refine dt_go_234 _ _ _ ?_ ?_ | with_reducible refine dt_go_128 _ ?_ ?_)
  by_cases n5 : J 9 = 5
  · refine dp_iff (Y := fun Q => ((c = 32 → Q 0 J B) ∧ (¬ c = 32 → (wp_TuneSetterModel_beginItem c J B (fun r J1 B1 => Q r J1 B1))))) (fun Q => ⟨fun h => h.2.2.2.2.2.1 n5, fun h => go_5 n5 h⟩) ?_
    repeat (first | assumption | with_reducible refine dp_pure ?_ ?_ | with_reducible refine dp_ite ?_ ?_ | with_reducible refine dp_and ?_ | with_reducible refine dp_all ?_ | with_reducible refine dp_ex (fun _ => ?_) | with_reducible refine pp_bind (wp_TuneSetterModel_beginLine _ _ _ _) (dt_beginLine _ _ ?_ ?_) (fun r J1 B1 k4 k1 => ?_) | with_reducible refine vp_bind (wp_TuneSetterModel_openItem _ _) (dt_openItem ?_ ?_) (fun J1 B1 k4 k1 => ?_) | with_reducible refine pp_bind (wp_TuneSetterModel_core _ _ _) (dt_core _ ?_ ?_) (fun r J1 B1 k4 k1 => ?_) | with_reducible refine pp_bind (wp_TuneSetterModel_beginItem _ _ _) (dt_beginItem _ ?_ ?_) (fun r J1 B1 k4 k1 => ?_) | with_reducible refine pp_bind (wp_TuneSetterModel_beginBar _ _ _ _) (dt_beginBar _ _ ?_ ?_) (fun r J1 B1 k4 k1 => ?_) | with_reducible refine pp_bind (wp_TuneSetterModel_behind _ _ _ _) (dt_behind _ _ ?_ ?_) (fun r J1 B1 k4 k1 => ?_) | with_reducible refine pp_bind (wp_TuneSetterModel_goOnLine _ _ _ _) (dt_goOnLine _ _ ?_ ?_) (fun r J1 B1 k4 k1 => ?_) | with_reducible refine pp_bind (wp_TuneSetterModel_inChord _ _ _) (dt_inChord _ ?_ ?_) (fun r J1 B1 k4 k1 => ?_) | with_reducible refine pp_bind (wp_TuneSetterModel_openChord _ _ _) (dt_openChord _ ?_ ?_) (fun r J1 B1 k4 k1 => ?_) | with_reducible refine pp_bind (wp_TuneSetterModel_goOnSign _ _ _) (dt_goOnSign _ ?_ ?_) (fun r J1 B1 k4 k1 => ?_) | with_reducible refine pp_bind (wp_TuneSetterModel_inside _ _ _ _) (dt_inside _ _ ?_ ?_) (fun r J1 B1 k4 k1 => ?_) | with_reducible refine dt_go_234 _ _ _ ?_ ?_ | with_reducible refine dt_go_128 _ ?_ ?_)
  by_cases n6 : J 9 = 6
  · refine dp_iff (Y := fun Q => ((c = 51 → Q 0 (upd J 9 7) B) ∧ (¬ c = 51 → Q (-2) (upd J 9 7) B))) (fun Q => ⟨fun h => h.2.2.2.2.2.2.1 n6, fun h => go_6 n6 h⟩) ?_
    repeat (first | assumption | with_reducible refine dp_pure ?_ ?_ | with_reducible refine dp_ite ?_ ?_ | with_reducible refine dp_and ?_ | with_reducible refine dp_all ?_ | with_reducible refine dp_ex (fun _ => ?_) | with_reducible refine pp_bind (wp_TuneSetterModel_beginLine _ _ _ _) (dt_beginLine _ _ ?_ ?_) (fun r J1 B1 k4 k1 => ?_) | with_reducible refine vp_bind (wp_TuneSetterModel_openItem _ _) (dt_openItem ?_ ?_) (fun J1 B1 k4 k1 => ?_) | with_reducible refine pp_bind (wp_TuneSetterModel_core _ _ _) (dt_core _ ?_ ?_) (fun r J1 B1 k4 k1 => ?_) | with_reducible refine pp_bind (wp_TuneSetterModel_beginItem _ _ _) (dt_beginItem _ ?_ ?_) (fun r J1 B1 k4 k1 => ?_) | with_reducible refine pp_bind (wp_TuneSetterModel_beginBar _ _ _ _) (dt_beginBar _ _ ?_ ?_) (fun r J1 B1 k4 k1 => ?_) | with_reducible refine pp_bind (wp_TuneSetterModel_behind _ _ _ _) (dt_behind _ _ ?_ ?_) (fun r J1 B1 k4 k1 => ?_) | with_reducible refine pp_bind (wp_TuneSetterModel_goOnLine _ _ _ _) (dt_goOnLine _ _ ?_ ?_) (fun r J1 B1 k4 k1 => ?_) | with_reducible refine pp_bind (wp_TuneSetterModel_inChord _ _ _) (dt_inChord _ ?_ ?_) (fun r J1 B1 k4 k1 => ?_) | with_reducible refine pp_bind (wp_TuneSetterModel_openChord _ _ _) (dt_openChord _ ?_ ?_) (fun r J1 B1 k4 k1 => ?_) | with_reducible refine pp_bind (wp_TuneSetterModel_goOnSign _ _ _) (dt_goOnSign _ ?_ ?_) (fun r J1 B1 k4 k1 => ?_) | with_reducible refine pp_bind (wp_TuneSetterModel_inside _ _ _ _) (dt_inside _ _ ?_ ?_) (fun r J1 B1 k4 k1 => ?_) | with_reducible refine dt_go_234 _ _ _ ?_ ?_ | with_reducible refine dt_go_128 _ ?_ ?_)
  by_cases n7 : J 9 = 7
  · refine dp_iff (Y := fun Q => ((c = 40 → Q (-2) J B) ∧ (¬ c = 40 → (wp_TuneSetterModel_core c J B (fun r J1 B1 => Q r J1 B1))))) (fun Q => ⟨fun h => h.2.2.2.2.2.2.2.1 n7, fun h => go_7 n7 h⟩) ?_
    repeat (first | assumption | with_reducible refine dp_pure ?_ ?_ | with_reducible refine dp_ite ?_ ?_ | with_reducible refine dp_and ?_ | with_reducible refine dp_all ?_ | with_reducible refine dp_ex (fun _ => ?_) | with_reducible refine pp_bind (wp_TuneSetterModel_beginLine _ _ _ _) (dt_beginLine _ _ ?_ ?_) (fun r J1 B1 k4 k1 => ?_) | with_reducible refine vp_bind (wp_TuneSetterModel_openItem _ _) (dt_openItem ?_ ?_) (fun J1 B1 k4 k1 => ?_) | with_reducible refine pp_bind (wp_TuneSetterModel_core _ _ _) (dt_core _ ?_ ?_) (fun r J1 B1 k4 k1 => ?_) | with_reducible refine pp_bind (wp_TuneSetterModel_beginItem _ _ _) (dt_beginItem _ ?_ ?_) (fun r J1 B1 k4 k1 => ?_) | with_reducible refine pp_bind (wp_TuneSetterModel_beginBar _ _ _ _) (dt_beginBar _ _ ?_ ?_) (fun r J1 B1 k4 k1 => ?_) | with_reducible refine pp_bind (wp_TuneSetterModel_behind _ _ _ _) (dt_behind _ _ ?_ ?_) (fun r J1 B1 k4 k1 => ?_) | with_reducible refine pp_bind (wp_TuneSetterModel_goOnLine _ _ _ _) (dt_goOnLine _ _ ?_ ?_) (fun r J1 B1 k4 k1 => ?_) | with_reducible refine pp_bind (wp_TuneSetterModel_inChord _ _ _) (dt_inChord _ ?_ ?_) (fun r J1 B1 k4 k1 => ?_) | with_reducible refine pp_bind (wp_TuneSetterModel_openChord _ _ _) (dt_openChord _ ?_ ?_) (fun r J1 B1 k4 k1 => ?_) | with_reducible refine pp_bind (wp_TuneSetterModel_goOnSign _ _ _) (dt_goOnSign _ ?_ ?_) (fun r J1 B1 k4 k1 => ?_) | with_reducible refine pp_bind (wp_TuneSetterModel_inside _ _ _ _) (dt_inside _ _ ?_ ?_) (fun r J1 B1 k4 k1 => ?_) | with_reducible refine dt_go_234 _ _ _ ?_ ?_ | with_reducible refine dt_go_128 _ ?_ ?_)
  by_cases n8 : J 9 = 8
  · refine dp_iff (Y := fun Q => wp_TuneSetterModel_goOnSign c J B (fun r J1 B1 => Q r J1 B1)) (fun Q => ⟨fun h => h.2.2.2.2.2.2.2.2.1 n8, fun h => go_8 n8 h⟩) ?_
    repeat (first | assumption | with_reducible refine dp_pure ?_ ?_ | with_reducible refine dp_ite ?_ ?_ | with_reducible refine dp_and ?_ | with_reducible refine dp_all ?_ | with_reducible refine dp_ex (fun _ => ?_) | with_reducible refine pp_bind (wp_TuneSetterModel_beginLine _ _ _ _) (dt_beginLine _ _ ?_ ?_) (fun r J1 B1 k4 k1 => ?_) | with_reducible refine vp_bind (wp_TuneSetterModel_openItem _ _) (dt_openItem ?_ ?_) (fun J1 B1 k4 k1 => ?_) | with_reducible refine pp_bind (wp_TuneSetterModel_core _ _ _) (dt_core _ ?_ ?_) (fun r J1 B1 k4 k1 => ?_) | with_reducible refine pp_bind (wp_TuneSetterModel_beginItem _ _ _) (dt_beginItem _ ?_ ?_) (fun r J1 B1 k4 k1 => ?_) | with_reducible refine pp_bind (wp_TuneSetterModel_beginBar _ _ _ _) (dt_beginBar _ _ ?_ ?_) (fun r J1 B1 k4 k1 => ?_) | with_reducible refine pp_bind (wp_TuneSetterModel_behind _ _ _ _) (dt_behind _ _ ?_ ?_) (fun r J1 B1 k4 k1 => ?_) | with_reducible refine pp_bind (wp_TuneSetterModel_goOnLine _ _ _ _) (dt_goOnLine _ _ ?_ ?_) (fun r J1 B1 k4 k1 => ?_) | with_reducible refine pp_bind (wp_TuneSetterModel_inChord _ _ _) (dt_inChord _ ?_ ?_) (fun r J1 B1 k4 k1 => ?_) | with_reducible refine pp_bind (wp_TuneSetterModel_openChord _ _ _) (dt_openChord _ ?_ ?_) (fun r J1 B1 k4 k1 => ?_) | with_reducible refine pp_bind (wp_TuneSetterModel_goOnSign _ _ _) (dt_goOnSign _ ?_ ?_) (fun r J1 B1 k4 k1 => ?_) | with_reducible refine pp_bind (wp_TuneSetterModel_inside _ _ _ _) (dt_inside _ _ ?_ ?_) (fun r J1 B1 k4 k1 => ?_) | with_reducible refine dt_go_234 _ _ _ ?_ ?_ | with_reducible refine dt_go_128 _ ?_ ?_)
  by_cases n9 : J 9 = 9
  · refine dp_iff (Y := fun Q => ((c = 44 → wp_TuneSetterModel_go_234 Q c (-1) (J 17) J B) ∧ (¬ c = 44 → wp_TuneSetterModel_go_234 Q c 1 (J 17) J B))) (fun Q => ⟨fun h => h.2.2.2.2.2.2.2.2.2.1 n9, fun h => go_9 n9 h⟩) ?_
    repeat (first | assumption | with_reducible refine dp_pure ?_ ?_ | with_reducible refine dp_ite ?_ ?_ | with_reducible refine dp_and ?_ | with_reducible refine dp_all ?_ | with_reducible refine dp_ex (fun _ => ?_) | with_reducible refine pp_bind (wp_TuneSetterModel_beginLine _ _ _ _) (dt_beginLine _ _ ?_ ?_) (fun r J1 B1 k4 k1 => ?_) | with_reducible refine vp_bind (wp_TuneSetterModel_openItem _ _) (dt_openItem ?_ ?_) (fun J1 B1 k4 k1 => ?_) | with_reducible refine pp_bind (wp_TuneSetterModel_core _ _ _) (dt_core _ ?_ ?_) (fun r J1 B1 k4 k1 => ?_) | with_reducible refine pp_bind (wp_TuneSetterModel_beginItem _ _ _) (dt_beginItem _ ?_ ?_) (fun r J1 B1 k4 k1 => ?_) | with_reducible refine pp_bind (wp_TuneSetterModel_beginBar _ _ _ _) (dt_beginBar _ _ ?_ ?_) (fun r J1 B1 k4 k1 => ?_) | with_reducible refine pp_bind (wp_TuneSetterModel_behind _ _ _ _) (dt_behind _ _ ?_ ?_) (fun r J1 B1 k4 k1 => ?_) | with_reducible refine pp_bind (wp_TuneSetterModel_goOnLine _ _ _ _) (dt_goOnLine _ _ ?_ ?_) (fun r J1 B1 k4 k1 => ?_) | with_reducible refine pp_bind (wp_TuneSetterModel_inChord _ _ _) (dt_inChord _ ?_ ?_) (fun r J1 B1 k4 k1 => ?_) | with_reducible refine pp_bind (wp_TuneSetterModel_openChord _ _ _) (dt_openChord _ ?_ ?_) (fun r J1 B1 k4 k1 => ?_) | with_reducible refine pp_bind (wp_TuneSetterModel_goOnSign _ _ _) (dt_goOnSign _ ?_ ?_) (fun r J1 B1 k4 k1 => ?_) | with_reducible refine pp_bind (wp_TuneSetterModel_inside _ _ _ _) (dt_inside _ _ ?_ ?_) (fun r J1 B1 k4 k1 => ?_) | with_reducible refine dt_go_234 _ _ _ ?_ ?_ | with_reducible refine dt_go_128 _ ?_ ?_)
  by_cases n10 : J 9 = 10
  · refine dp_iff (Y := fun Q => wp_TuneSetterModel_inChord c J B (fun r J1 B1 => Q r J1 B1)) (fun Q => ⟨fun h => h.2.2.2.2.2.2.2.2.2.2.1 n10, fun h => go_10 n10 h⟩) ?_
    repeat (first | assumption | with_reducible refine dp_pure ?_ ?_ | with_reducible refine dp_ite ?_ ?_ | with_reducible refine dp_and ?_ | with_reducible refine dp_all ?_ | with_reducible refine dp_ex (fun _ => ?_) | with_reducible refine pp_bind (wp_TuneSetterModel_beginLine _ _ _ _) (dt_beginLine _ _ ?_ ?_) (fun r J1 B1 k4 k1 => ?_) | with_reducible refine vp_bind (wp_TuneSetterModel_openItem _ _) (dt_openItem ?_ ?_) (fun J1 B1 k4 k1 => ?_) | with_reducible refine pp_bind (wp_TuneSetterModel_core _ _ _) (dt_core _ ?_ ?_) (fun r J1 B1 k4 k1 => ?_) | with_reducible refine pp_bind (wp_TuneSetterModel_beginItem _ _ _) (dt_beginItem _ ?_ ?_) (fun r J1 B1 k4 k1 => ?_) | with_reducible refine pp_bind (wp_TuneSetterModel_beginBar _ _ _ _) (dt_beginBar _ _ ?_ ?_) (fun r J1 B1 k4 k1 => ?_) | with_reducible refine pp_bind (wp_TuneSetterModel_behind _ _ _ _) (dt_behind _ _ ?_ ?_) (fun r J1 B1 k4 k1 => ?_) | with_reducible refine pp_bind (wp_TuneSetterModel_goOnLine _ _ _ _) (dt_goOnLine _ _ ?_ ?_) (fun r J1 B1 k4 k1 => ?_) | with_reducible refine pp_bind (wp_TuneSetterModel_inChord _ _ _) (dt_inChord _ ?_ ?_) (fun r J1 B1 k4 k1 => ?_) | with_reducible refine pp_bind (wp_TuneSetterModel_openChord _ _ _) (dt_openChord _ ?_ ?_) (fun r J1 B1 k4 k1 => ?_) | with_reducible refine pp_bind (wp_TuneSetterModel_goOnSign _ _ _) (dt_goOnSign _ ?_ ?_) (fun r J1 B1 k4 k1 => ?_) | with_reducible refine pp_bind (wp_TuneSetterModel_inside _ _ _ _) (dt_inside _ _ ?_ ?_) (fun r J1 B1 k4 k1 => ?_) | with_reducible refine dt_go_234 _ _ _ ?_ ?_ | with_reducible refine dt_go_128 _ ?_ ?_)
  refine dp_iff (Y := fun Q => wp_TuneSetterModel_inside c x J B (fun r J1 B1 => Q r J1 B1)) (fun Q => ⟨fun h => h.2.2.2.2.2.2.2.2.2.2.2 n0 n1 n2 n3 n4 n5 n6 n7 n8 n9 n10, fun h => ⟨fun z => absurd z n0, fun z => absurd z n1, fun z => absurd z n2, fun z => absurd z n3, fun z => absurd z n4, fun z => absurd z n5, fun z => absurd z n6, fun z => absurd z n7, fun z => absurd z n8, fun z => absurd z n9, fun z => absurd z n10, fun _ _ _ _ _ _ _ _ _ _ _ => h⟩⟩) ?_
  repeat (first | assumption | with_reducible refine dp_pure ?_ ?_ | with_reducible refine dp_ite ?_ ?_ | with_reducible refine dp_and ?_ | with_reducible refine dp_all ?_ | with_reducible refine dp_ex (fun _ => ?_) | with_reducible refine pp_bind (wp_TuneSetterModel_beginLine _ _ _ _) (dt_beginLine _ _ ?_ ?_) (fun r J1 B1 k4 k1 => ?_) | with_reducible refine vp_bind (wp_TuneSetterModel_openItem _ _) (dt_openItem ?_ ?_) (fun J1 B1 k4 k1 => ?_) | with_reducible refine pp_bind (wp_TuneSetterModel_core _ _ _) (dt_core _ ?_ ?_) (fun r J1 B1 k4 k1 => ?_) | with_reducible refine pp_bind (wp_TuneSetterModel_beginItem _ _ _) (dt_beginItem _ ?_ ?_) (fun r J1 B1 k4 k1 => ?_) | with_reducible refine pp_bind (wp_TuneSetterModel_beginBar _ _ _ _) (dt_beginBar _ _ ?_ ?_) (fun r J1 B1 k4 k1 => ?_) | with_reducible refine pp_bind (wp_TuneSetterModel_behind _ _ _ _) (dt_behind _ _ ?_ ?_) (fun r J1 B1 k4 k1 => ?_) | with_reducible refine pp_bind (wp_TuneSetterModel_goOnLine _ _ _ _) (dt_goOnLine _ _ ?_ ?_) (fun r J1 B1 k4 k1 => ?_) | with_reducible refine pp_bind (wp_TuneSetterModel_inChord _ _ _) (dt_inChord _ ?_ ?_) (fun r J1 B1 k4 k1 => ?_) | with_reducible refine pp_bind (wp_TuneSetterModel_openChord _ _ _) (dt_openChord _ ?_ ?_) (fun r J1 B1 k4 k1 => ?_) | with_reducible refine pp_bind (wp_TuneSetterModel_goOnSign _ _ _) (dt_goOnSign _ ?_ ?_) (fun r J1 B1 k4 k1 => ?_) | with_reducible refine pp_bind (wp_TuneSetterModel_inside _ _ _ _) (dt_inside _ _ ?_ ?_) (fun r J1 B1 k4 k1 => ?_) | with_reducible refine dt_go_234 _ _ _ ?_ ?_ | with_reducible refine dt_go_128 _ ?_ ?_)
theorem dt_count (x1 : Int32) {J : Nat → Int32} {B : Nat → Nat → Int32} (h4 : J 4 = j4) (h1 : B 1 = b1) : DetV j4 b1 (fun Q => wp_TuneSetterModel_count x1 J B Q) := by
  unfold wp_TuneSetterModel_count
  repeat (first | assumption | with_reducible refine dv_pure ?_ ?_ | with_reducible refine dv_ite ?_ ?_ | with_reducible refine dv_and ?_ | with_reducible refine dv_all ?_)
theorem dt_itemDone {J : Nat → Int32} {B : Nat → Nat → Int32} (h4 : J 4 = j4) (h1 : B 1 = b1) : DetV j4 b1 (fun Q => wp_TuneSetterModel_itemDone J B Q) := by
  unfold wp_TuneSetterModel_itemDone
  repeat (first | assumption | with_reducible refine dv_pure ?_ ?_ | with_reducible refine dv_ite ?_ ?_ | with_reducible refine dv_and ?_ | with_reducible refine dv_all ?_ | with_reducible refine pv_bind (wp_TuneSetterModel_parts _ _) (dt_parts ?_ ?_) (fun r J1 B1 k4 k1 => ?_) | with_reducible refine pv_bind (wp_TuneSetterModel_divisor _ _) (dt_divisor ?_ ?_) (fun r J1 B1 k4 k1 => ?_))
theorem dt_next_158 (y1 y2 y3 y4 y5 : Int32) {J : Nat → Int32} {B : Nat → Nat → Int32} (h4 : J 4 = j4) (h1 : B 1 = b1) : DetP j4 b1 (fun Q => wp_TuneSetterModel_next_158 Q y1 y2 y3 y4 y5 J B) := by
  unfold wp_TuneSetterModel_next_158
  repeat (first | assumption | with_reducible refine dp_pure ?_ ?_ | with_reducible refine dp_ite ?_ ?_ | with_reducible refine dp_and ?_ | with_reducible refine dp_all ?_ | with_reducible refine dp_ex (fun _ => ?_) | with_reducible refine pp_bind (wp_TuneSetterModel_inChord _ _ _) (dt_inChord _ ?_ ?_) (fun r J1 B1 k4 k1 => ?_) | with_reducible refine pp_bind (wp_TuneSetterModel_inside _ _ _ _) (dt_inside _ _ ?_ ?_) (fun r J1 B1 k4 k1 => ?_) | with_reducible refine pp_bind (wp_TuneSetterModel_go _ _ _ _) (dt_go _ _ ?_ ?_) (fun r J1 B1 k4 k1 => ?_) | with_reducible refine vp_bind (wp_TuneSetterModel_count _ _ _) (dt_count _ ?_ ?_) (fun J1 B1 k4 k1 => ?_) | with_reducible refine vp_bind (wp_TuneSetterModel_itemDone _ _) (dt_itemDone ?_ ?_) (fun J1 B1 k4 k1 => ?_))
theorem dt_next_127 (y1 y2 y3 y4 y5 : Int32) {J : Nat → Int32} {B : Nat → Nat → Int32} (h4 : J 4 = j4) (h1 : B 1 = b1) : DetP j4 b1 (fun Q => wp_TuneSetterModel_next_127 Q y1 y2 y3 y4 y5 J B) := by
  unfold wp_TuneSetterModel_next_127
  repeat (first | assumption | with_reducible refine dp_pure ?_ ?_ | with_reducible refine dp_ite ?_ ?_ | with_reducible refine dp_and ?_ | with_reducible refine dp_all ?_ | with_reducible refine dp_ex (fun _ => ?_) | with_reducible refine pp_bind (wp_TuneSetterModel_toneOf _ _) (dt_toneOf ?_ ?_) (fun r J1 B1 k4 k1 => ?_) | with_reducible refine vp_bind (wp_TuneSetterModel_noteDone _ _ _) (dt_noteDone _ ?_ ?_) (fun J1 B1 k4 k1 => ?_) | with_reducible refine dt_next_158 _ _ _ _ _ ?_ ?_)
theorem dt_next_109 (y1 y2 y3 y4 : Int32) {J : Nat → Int32} {B : Nat → Nat → Int32} (h4 : J 4 = j4) (h1 : B 1 = b1) : DetP j4 b1 (fun Q => wp_TuneSetterModel_next_109 Q y1 y2 y3 y4 J B) := by
  unfold wp_TuneSetterModel_next_109
  repeat (first | assumption | with_reducible refine dp_pure ?_ ?_ | with_reducible refine dp_ite ?_ ?_ | with_reducible refine dp_and ?_ | with_reducible refine dp_all ?_ | with_reducible refine dp_ex (fun _ => ?_) | with_reducible refine pp_bind (wp_TuneSetterModel_hasLength _ _) (dt_hasLength ?_ ?_) (fun r J1 B1 k4 k1 => ?_) | with_reducible refine dt_next_127 _ _ _ _ _ ?_ ?_)
theorem dt_next_92 (y1 y2 y3 y4 : Int32) {J : Nat → Int32} {B : Nat → Nat → Int32} (h4 : J 4 = j4) (h1 : B 1 = b1) : DetP j4 b1 (fun Q => wp_TuneSetterModel_next_92 Q y1 y2 y3 y4 J B) := by
  unfold wp_TuneSetterModel_next_92
  repeat (first | assumption | with_reducible refine dp_pure ?_ ?_ | with_reducible refine dp_ite ?_ ?_ | with_reducible refine dp_and ?_ | with_reducible refine dp_all ?_ | with_reducible refine dp_ex (fun _ => ?_) | with_reducible refine pp_bind (wp_TuneSetterModel_goesOnNumber _ _ _) (dt_goesOnNumber _ ?_ ?_) (fun r J1 B1 k4 k1 => ?_) | with_reducible refine pp_bind (wp_TuneSetterModel_hasLength _ _) (dt_hasLength ?_ ?_) (fun r J1 B1 k4 k1 => ?_) | with_reducible refine dt_next_127 _ _ _ _ _ ?_ ?_ | with_reducible refine dt_next_109 _ _ _ _ ?_ ?_)
theorem dt_next_65 (y1 y2 y3 y4 : Int32) {J : Nat → Int32} {B : Nat → Nat → Int32} (h4 : J 4 = j4) (h1 : B 1 = b1) : DetP j4 b1 (fun Q => wp_TuneSetterModel_next_65 Q y1 y2 y3 y4 J B) := by
  unfold wp_TuneSetterModel_next_65
  repeat (first | assumption | with_reducible refine dp_pure ?_ ?_ | with_reducible refine dp_ite ?_ ?_ | with_reducible refine dp_and ?_ | with_reducible refine dp_all ?_ | with_reducible refine dp_ex (fun _ => ?_) | with_reducible refine pp_bind (wp_TuneSetterModel_isDigit _ _ _) (dt_isDigit _ ?_ ?_) (fun r J1 B1 k4 k1 => ?_) | with_reducible refine pp_bind (wp_TuneSetterModel_goesOnNumber _ _ _) (dt_goesOnNumber _ ?_ ?_) (fun r J1 B1 k4 k1 => ?_) | with_reducible refine dt_next_92 _ _ _ _ ?_ ?_)
theorem dt_next_48 (y1 y2 y3 s0 : Int32) {J : Nat → Int32} {B : Nat → Nat → Int32} (h4 : J 4 = j4) (h1 : B 1 = b1) : DetP j4 b1 (fun Q => wp_TuneSetterModel_next_48 Q y1 y2 y3 s0 J B) := by
  unfold wp_TuneSetterModel_next_48
  repeat (first | assumption | with_reducible refine dp_pure ?_ ?_ | with_reducible refine dp_ite ?_ ?_ | with_reducible refine dp_and ?_ | with_reducible refine dp_all ?_ | with_reducible refine dp_ex (fun _ => ?_) | with_reducible refine vp_bind (wp_TuneSetterModel_openNumber _ _) (dt_openNumber ?_ ?_) (fun J1 B1 k4 k1 => ?_) | with_reducible refine dt_next_65 _ _ _ _ ?_ ?_)
theorem dt_next_22 (y1 y2 s0 : Int32) {J : Nat → Int32} {B : Nat → Nat → Int32} (h4 : J 4 = j4) (h1 : B 1 = b1) : DetP j4 b1 (fun Q => wp_TuneSetterModel_next_22 Q y1 y2 s0 J B) := by
  unfold wp_TuneSetterModel_next_22
  repeat (first | assumption | with_reducible refine dp_pure ?_ ?_ | with_reducible refine dp_ite ?_ ?_ | with_reducible refine dp_and ?_ | with_reducible refine dp_all ?_ | with_reducible refine dp_ex (fun _ => ?_) | with_reducible refine dt_next_48 _ _ _ _ ?_ ?_)
theorem dt_next (x1 x2 : Int32) {J : Nat → Int32} {B : Nat → Nat → Int32} (h4 : J 4 = j4) (h1 : B 1 = b1) : DetP j4 b1 (fun Q => wp_TuneSetterModel_next x1 x2 J B Q) := by
  unfold wp_TuneSetterModel_next
  repeat (first | assumption | with_reducible refine dp_pure ?_ ?_ | with_reducible refine dp_ite ?_ ?_ | with_reducible refine dp_and ?_ | with_reducible refine dp_all ?_ | with_reducible refine dp_ex (fun _ => ?_) | with_reducible refine pp_bind (wp_TuneSetterModel_goesOnLetter _ _ _) (dt_goesOnLetter _ ?_ ?_) (fun r J1 B1 k4 k1 => ?_) | with_reducible refine dt_next_22 _ _ _ ?_ ?_)
end DT
/-! the scan, on both sides -/
def Res (p : Nat) (c f : Int32) : KT := fun I1 A1 e J1 B1 => (Fix I1 A1 J1 B1 ∧ e < 0 ∧ I1 3 = e ∧ I1 4 = J1 7) ∨ (¬ c = 0 ∧ e = 0 ∧ I1 3 = 0 ∧ SIM (p + 1) f I1 A1 J1 B1) ∨ (c = 0 ∧ e = 0 ∧ I1 3 = 0 ∧ FIN p I1 A1 J1 B1)
theorem Res_good (p : Nat) (c f : Int32) : Good p c f (Res p c f) :=
  ⟨fun _ _ _ _ _ h1 h2 h3 h4 => Or.inl ⟨h1, h2, h3, h4⟩, fun _ _ _ _ h1 h2 h3 => Or.inr (Or.inl ⟨h1, rfl, h2, h3⟩), fun _ _ _ _ h1 h2 h3 => Or.inr (Or.inr ⟨h1, rfl, h2, h3⟩)⟩
def chA (s : Nat) (A : Nat → Nat → Int32) (k : Nat) : Int32 := if k < s then A 1 k else 0
section SC
variable {I : Nat → Int32} {A : Nat → Nat → Int32} {J : Nat → Int32} {B : Nat → Nat → Int32} {p s : Nat} {c : Int32}
theorem SIM_fix (h : SIM p c I A J B) : Fix I A J B := by
  rcases h with ⟨b, n, q, sg, it, fn, h, -⟩ | ⟨b, n, q, sg, it, fn, h, -⟩ | ⟨b, n, q, sg, it, fn, h, -⟩ | ⟨b, n, q, sg, it, fn, h, -⟩ | ⟨b, n, q, sg, it, fn, t, h, -⟩ | ⟨b, n, q, sg, it, fn, h, -⟩ | ⟨b, n, q, sg, it, fn, h, -⟩ | ⟨-, h⟩ | ⟨b, n, q, sg, it, fn, t, h, -⟩ | ⟨b, n, q, sg, it, fn, t, h, -⟩ | ⟨b, n, q, sg, it, fn, t, x, y, h, -⟩
  · exact h.1
  · exact h.1
  · exact h.1
  · exact h.1
  · exact h.1
  · exact h.1
  · exact h.1
  · rcases h with ⟨-, b, n, q, sg, it, fn, t, h, -⟩ | ⟨-, -, -, m, -, -, b, n, q, sg, it, fn, t, h, -⟩
    · exact h.1
    · exact h.1
  · exact h.1
  · exact h.1
  · exact h.1
theorem SIM_at {x y : Int32} (h : SIM p c I A J B) : SIM p c (upd I 15 x) A (upd J 7 y) B := by
  rcases h with h | h | h | h | h | h | h | h | h | h | h
  · exact i_bet h
  · exact i_col h
  · exact i_mark h
  · exact i_end h
  · exact i_ins h
  · exact i_par h
  · exact i_tri h
  · exact i_cho h
  · exact i_sig h
  · exact i_let h
  · exact i_num h
theorem text_at (h : Fix I A J B) (h4 : J 4 = nI s) (hs : s ≤ 120) : I 30 = nI s ∧ ∀ k, k < s → A 1 k = B 1 k ∧ 32 ≤ A 1 k ∧ A 1 k ≤ 126 := by
  obtain ⟨s2, a1, a2, a3, a4⟩ := h.2.1
  have e : s2 = s := (nI_eq (by omega) (by omega)).mp (a3.symm.trans h4)
  subst e
  exact ⟨a2, a4⟩
theorem letterAt_ok {post : Int32 → (Nat → Int32) → (Nat → Nat → Int32) → Prop} {k : Nat} (hs : s ≤ 120) (hk : k ≤ 121) (hq : post (chA s A k) I A) : wp_Reader_letterAt (nI s) (nI k) I A post := by
  unfold chA at hq
  refine ⟨fun z => absurd z (nI_pos (by omega)), fun _ => ⟨fun z => ?_, fun z => ?_⟩⟩
  · have := (nI_leI (by omega) (by omega)).mp z
    rw [if_neg (by omega)] at hq; exact hq
  · have : k < s := by
      have := mt (nI_leI (a := s) (b := k) (by omega) (by omega)).mpr z
      omega
    rw [if_pos this] at hq
    refine ⟨fun y => absurd y ?_, fun _ => ⟨vp_in_nI (by omega) (by omega), ?_⟩⟩
    · rw [show (120 : Int32) = nI 120 from by decide]
      exact nI_ge (by omega) (by omega)
    · rw [nI_clamp (by omega)]; exact hq
variable {P : (Nat → Int32) → (Nat → Nat → Int32) → Prop} {J0 : Nat → Int32} {B0 : Nat → Nat → Int32}
theorem scan_step {m : Nat} (hs : s ≤ 120) (hp : p ≤ s)
    (hFail : ∀ I1 A1 e J1 B1, Fix I1 A1 J1 B1 → e < 0 → I1 3 = e → I1 4 = J1 7 → (∀ pst : Int32 → (Nat → Int32) → (Nat → Nat → Int32) → Prop, pst e (upd (upd J1 5 0) 25 0) B1 → wp_TuneSetterModel_read J0 B0 pst) → P I1 A1)
    (hFin : ∀ I1 A1 J1 B1, FIN s I1 A1 J1 B1 → I1 3 = 0 → J1 4 = nI s → (∀ pst : Int32 → (Nat → Int32) → (Nat → Nat → Int32) → Prop, wp_TuneSetterModel_perform J1 B1 (fun r J2 B2 => wp_TuneSetterModel_read_97 pst r J2 B2) → wp_TuneSetterModel_read J0 B0 pst) → P I1 A1)
    (ih : ∀ I1 A1 J1 B1, p < s → I1 3 = 0 → SIM (p + 1) (chA s A1 (p + 1)) I1 A1 J1 B1 → J1 4 = nI s → (∀ pst : Int32 → (Nat → Int32) → (Nat → Nat → Int32) → Prop, (∃ n, wp_TuneSetterModel_read_41 pst n 0 (nI (p + 1)) J1 B1) → wp_TuneSetterModel_read J0 B0 pst) → wp_Reader_scan_2 P (m + 1) (nI s) (nI (p + 1)) I1 A1)
    (h3 : I 3 = 0) (hS : SIM p (chA s A p) I A J B) (h4 : J 4 = nI s) (hRef : ∀ pst : Int32 → (Nat → Int32) → (Nat → Nat → Int32) → Prop, (∃ n, wp_TuneSetterModel_read_41 pst n 0 (nI p) J B) → wp_TuneSetterModel_read J0 B0 pst) : wp_Reader_scan_2 P (m + 2) (nI s) (nI p) I A := by
  have hT := text_at (SIM_fix hS) h4 hs
  refine ⟨fun z => absurd z (nI_nlt hp (by omega)), fun _ => ⟨fun _ => letterAt_ok hs (by omega) ?_, fun z => absurd h3 z⟩⟩
  rw [nI_1]
  refine letterAt_ok hs (by omega) ?_
  have hcr : Cr (chA s A p) (if p < s then B 1 p else -1) := by
    unfold chA
    by_cases e : p < s
    · rw [if_pos e, if_pos e]
      have := hT.2 p e
      exact Or.inl ⟨this.1, by grind, by grind⟩
    · rw [if_neg e, if_neg e]; exact Or.inr ⟨rfl, rfl⟩
  have hlk : Look p (chA s A (p + 1)) (upd J 7 (nI p)) B := by
    refine ⟨by omega, s, hs, h4, ?_⟩
    unfold chA
    by_cases e : p + 1 < s
    · rw [if_pos e]; exact Or.inr ⟨e, ((hT.2 (p + 1) e).1).symm⟩
    · rw [if_neg e]; exact Or.inl ⟨by omega, rfl⟩
  refine step_sim (K := Res p (chA s A p) (chA s A (p + 1))) (cr := if p < s then B 1 p else -1) (J := upd J 7 (nI p)) (B := B) (SIM_at hS) ⟨rfl, rfl, hlk, hcr⟩ (Res_good _ _ _) (fun I1 A1 hnx v hv => ?_)
  rw [hv]
  obtain ⟨e, J1, B1, k4, k1, hres, hall⟩ := dt_next (j4 := nI s) (b1 := B 1) (if p < s then B 1 p else -1) (nI p) (J := upd J 7 (nI p)) (B := B) h4 rfl _ hnx
  have hRn : ∀ (pst : Int32 → (Nat → Int32) → (Nat → Nat → Int32) → Prop) (n : Nat), wp_TuneSetterModel_read_41 pst n e (nI (p + 1)) J1 B1 → ∃ n2, wp_TuneSetterModel_read_41 pst n2 0 (nI p) J B := by
    intro pst n h
    refine ⟨n + 1, ⟨fun z => ?_, fun _ => ⟨fun _ => ⟨fun z => ?_, fun z => ?_⟩, fun z => absurd rfl z⟩⟩⟩
    · rw [h4] at z; exact absurd z (nI_nlt hp (by omega))
    · rw [h4] at z
      have := (nI_leI (by omega) (by omega)).mp z
      rw [if_neg (show ¬ p < s by omega)] at hall
      exact hall _ (fun v hv => by rw [hv, nI_1]; exact h)
    · rw [h4] at z
      have hps : p < s := by
        have := mt (nI_leI (a := s) (b := p) (by omega) (by omega)).mpr z
        omega
      rw [if_pos hps] at hall
      rw [nI_clamp (by omega)]
      exact ⟨vp_in_nI (by omega) (by omega), hall _ (fun v hv => by rw [hv, nI_1]; exact h)⟩
  rcases hres with ⟨f1, f2, f3, f4⟩ | ⟨f1, f2, f3, f4⟩ | ⟨f1, f2, f3, f4⟩
  · have e0 : ¬ e = 0 := by intro z; rw [z] at f2; revert f2; decide
    have e1 : ¬ 0 ≤ e := by grind
    have hP : P I1 A1 := by
      refine hFail I1 A1 e J1 B1 f1 f2 f3 f4 (fun pst h => hRef pst (hRn pst 1 ?_))
      have r97 : wp_TuneSetterModel_read_97 pst e J1 B1 := ⟨fun z => absurd z e1, fun _ => h⟩
      exact ⟨fun _ => ⟨fun z => absurd z e0, fun _ => r97⟩, fun _ => ⟨fun z => absurd z e0, fun _ => ⟨fun z => absurd z e0, fun _ => r97⟩⟩⟩
    exact ⟨fun _ => hP, fun _ => ⟨fun z => absurd (f3.symm.trans z) e0, fun _ => hP⟩⟩
  · have hps : p < s := by
      refine Decidable.byContradiction (fun z => f1 ?_)
      unfold chA; rw [if_neg z]
    have hT2 := text_at (SIM_fix f4) k4 hs
    have ef : chA s A (p + 1) = chA s A1 (p + 1) := by
      unfold chA
      by_cases y : p + 1 < s
      · rw [if_pos y, if_pos y, (hT.2 _ y).1, (hT2.2 _ y).1, k1]
      · rw [if_neg y, if_neg y]
    rw [ef] at f4
    refine ih I1 A1 J1 B1 hps f3 f4 k4 (fun pst h => hRef pst ?_)
    obtain ⟨n, h⟩ := h
    rw [f2] at hRn
    exact hRn pst n h
  · have hps : p = s := by
      refine Decidable.byContradiction (fun z => ?_)
      have hlt : p < s := by omega
      have := hT.2 p hlt
      unfold chA at f1
      rw [if_pos hlt] at f1
      rw [f1] at this
      exact absurd this.2.1 (by decide)
    subst hps
    have lt1 : nI p < nI (p + 1) := nI_lt (by omega) (by omega)
    refine ⟨fun _ => hFin I1 A1 J1 B1 f4 f3 k4 (fun pst h => hRef pst (hRn pst 1 ?_)), fun z => absurd lt1 z⟩
    rw [f2]
    refine ⟨fun _ => ⟨fun _ => h, fun z => absurd rfl z⟩, fun z => absurd ?_ z⟩
    rw [k4]; exact lt1
theorem scan_sim (hs : s ≤ 120)
    (hFail : ∀ I1 A1 e J1 B1, Fix I1 A1 J1 B1 → e < 0 → I1 3 = e → I1 4 = J1 7 → (∀ pst : Int32 → (Nat → Int32) → (Nat → Nat → Int32) → Prop, pst e (upd (upd J1 5 0) 25 0) B1 → wp_TuneSetterModel_read J0 B0 pst) → P I1 A1)
    (hFin : ∀ I1 A1 J1 B1, FIN s I1 A1 J1 B1 → I1 3 = 0 → J1 4 = nI s → (∀ pst : Int32 → (Nat → Int32) → (Nat → Nat → Int32) → Prop, wp_TuneSetterModel_perform J1 B1 (fun r J2 B2 => wp_TuneSetterModel_read_97 pst r J2 B2) → wp_TuneSetterModel_read J0 B0 pst) → P I1 A1) :
    ∀ (m p : Nat) (I : Nat → Int32) (A : Nat → Nat → Int32) (J : Nat → Int32) (B : Nat → Nat → Int32), p + m = s → I 3 = 0 → SIM p (chA s A p) I A J B → J 4 = nI s → (∀ pst : Int32 → (Nat → Int32) → (Nat → Nat → Int32) → Prop, (∃ n, wp_TuneSetterModel_read_41 pst n 0 (nI p) J B) → wp_TuneSetterModel_read J0 B0 pst) → wp_Reader_scan_2 P (m + 2) (nI s) (nI p) I A := by
  intro m
  induction m with
  | zero => intro p I A J B hp h3 hS h4 hRef; exact scan_step hs (by omega) hFail hFin (fun _ _ _ _ z => absurd z (by omega)) h3 hS h4 hRef
  | succ m ih => intro p I A J B hp h3 hS h4 hRef; exact scan_step hs (by omega) hFail hFin (fun I1 A1 J1 B1 _ y1 y2 y3 y4 => ih (p + 1) I1 A1 J1 B1 (by omega) y1 y2 y3 y4) h3 hS h4 hRef
end SC
/-! what is told of a text that was read -/
theorem hv_le {en hv : Nat → Nat} {b : Nat} {B5 : Nat → Int32} (h : ∀ k, k < b → en k ≤ 2 ∧ hv k = (if en k = 0 then (if k = 0 then 0 else if B5 k = 0 then hv (k - 1) else 0) else en k)) : ∀ k, k < b → hv k ≤ 2 := by
  intro k
  induction k with
  | zero =>
    intro hk
    obtain ⟨h1, h2⟩ := h 0 hk
    rw [h2]
    split
    · rw [if_pos rfl]; omega
    · exact h1
  | succ k ih =>
    intro hk
    obtain ⟨h1, h2⟩ := h (k + 1) hk
    rw [h2]
    split
    · rw [if_neg (by omega)]
      split
      · exact ih (by omega)
      · omega
    · exact h1
theorem lineR_o {x y : Int32} (h : lineR x y) : ((y = 2 ∨ y = 4) ↔ decide (¬ (x &&& 1) = 0) = true) ∧ ((y = 3 ∨ y = 4) ↔ decide (¬ (x &&& 2) = 0) = true) := by
  rcases h with ⟨a, e⟩ | ⟨a, e⟩ | ⟨a, e⟩ | ⟨a, e⟩ | ⟨a, e⟩ <;> subst a <;> subst e <;> decide
theorem z00 : (0 : Int32) = nI 0 := by decide
theorem dec_f {p : Prop} [Decidable p] : p ↔ decide (¬ p) = false := by
  by_cases h : p <;> simp [h]
section FN
variable {I : Nat → Int32} {A : Nat → Nat → Int32} {J : Nat → Int32} {B : Nat → Nat → Int32} {s : Nat} {J0 : Nat → Int32} {B0 : Nat → Nat → Int32}
theorem rel3 {I2 : Nat → Int32} {A2 : Nat → Nat → Int32} {J2 : Nat → Int32} {B2 : Nat → Nat → Int32} (h : Fix I A J B) (i28 : I2 28 = I 28) (i30 : I2 30 = I 30) (i31 : I2 31 = I 31) (i32 : I2 32 = I 32) (i33 : I2 33 = I 33) (j0 : J2 0 = J 0) (j1 : J2 1 = J 1) (j2 : J2 2 = J 2) (j3 : J2 3 = J 3) (j4 : J2 4 = J 4) (j26 : J2 26 = J 26) (a1 : A2 1 = A 1) (a23 : A2 23 = A 23) (b1 : B2 1 = B 1) (b17 : B2 17 = B 17) : RelSet I2 J2 ∧ RelText I2 A2 J2 B2 ∧ RelFile I2 A2 J2 B2 := by
  obtain ⟨h1, h2, h3, -⟩ := h
  refine ⟨?_, ?_, ?_⟩
  · unfold RelSet at h1 ⊢
    rw [i31, i32, i33, j0, j1, j2, j3]; exact h1
  · unfold RelText at h2 ⊢
    rw [i30, j4, a1, b1]; exact h2
  · unfold RelFile at h3 ⊢
    rw [i28, j26, a23, b17]; exact h3
theorem fin_ok {post : Int32 → Int32 → Prel} (hp : ∀ (r : Int32) (I : Nat → Int32) (A : Nat → Nat → Int32) (J : Nat → Int32) (B : Nat → Nat → Int32), Rel I A J B → post r r I A J B) (hs : s ≤ 120) (h : FIN s I A J B) (h4 : J 4 = nI s) (hRef : ∀ pst : Int32 → (Nat → Int32) → (Nat → Nat → Int32) → Prop, wp_TuneSetterModel_perform J B (fun r J2 B2 => wp_TuneSetterModel_read_97 pst r J2 B2) → wp_TuneSetterModel_read J0 B0 pst) : wp_Playing_perform I A (fun I74 A74 => (((I74 24) = 0 → wp_TuneSetterModel_read J0 B0 (fun r1 J1 B1 => post (I74 23) r1 (upd (upd I74 34 1) 35 (-1)) A74 J1 B1)) ∧ (¬ (I74 24) = 0 → wp_TuneSetterModel_read J0 B0 (fun r1 J1 B1 => post (-7) r1 (upd (upd I74 34 0) 35 (I74 30)) A74 J1 B1)))) := by
  obtain ⟨b, n, q, sg, it, fn, ⟨hF, ⟨s1, s2, s3, s4, s5, s6⟩, ⟨hb1, en, hv, hb2⟩, ⟨⟨d1, d2, d3, d4⟩, d5, d6, d7, d8⟩⟩, hb, hd, hl, h7⟩ := h
  have hit : ∀ k, k ≤ b → it k ≤ n := fun k hk => by
    have := it_mono2 (it := it) (b := b) (fun j hj => (d6 j hj).2.1) hk (Nat.le_refl b)
    omega
  have hvl := hv_le (b := b) (fun k hk => ⟨(hb2 k hk).2.1, (hb2 k hk).2.2.2⟩)
  have hln : ∀ k, k ≤ b → lineR (A 4 k) (B 5 k) := fun k hk => by
    rcases Nat.lt_or_ge k b with z | z
    · exact (hb1 k z).2
    · have : k = b := by omega
      rw [this]; exact hl
  have hCB : CBars b (fun k => decide (¬ (A 4 k &&& 1) = 0)) (fun k => decide (¬ (A 4 (k + 1) &&& 2) = 0)) (fun k => decide (A 5 k = 1)) it n A := ⟨d1, d5, fun k hk => ⟨(d6 k hk).2.1, hit _ (by omega)⟩, d2, fun k hk => ⟨dec_f, dec_f, by simp⟩⟩
  have hMB : MBars b (fun k => decide (¬ (A 4 k &&& 1) = 0)) (fun k => decide (¬ (A 4 (k + 1) &&& 2) = 0)) (fun k => decide (A 5 k = 1)) it (upd J 24 0) B := by
    refine ⟨d1, s2, ?_, fun k hk => (d6 k hk).1, fun k hk => ⟨(d6 k hk).2.1, ?_⟩, fun k hk => ⟨(lineR_o (hln k (by omega))).1, (lineR_o (hln (k + 1) (by omega))).2⟩, en, hv, fun k => decide (B 5 k = 0), fun k hk => ⟨(hb2 k hk).1, (hb2 k hk).2.1, fun _ => by simp, ?_, ?_⟩⟩
    · rw [d3]; exact s4
    · have := hit (k + 1) (by omega); omega
    · rw [(hb2 k hk).2.2.2]
      simp only [decide_eq_true_eq]
    · show hv k = 1 ↔ decide (A 5 k = 1) = true
      rw [(hb2 k hk).2.2.1]
      have := hvl k hk
      rw [show (1 : Int32) = nI 1 from by decide]
      simp only [decide_eq_true_eq]
      exact (nI_eq (by omega) (by omega)).symm
  have hCS : CSc q n fn A := by
    refine ⟨d2, by omega, fun i hi => (d7 i hi).1, fun i hi => ?_⟩
    obtain ⟨e1, e2, e3, e4, e5, e6, e7, e8, e9, e10⟩ := d8 i hi
    have := (d7 (i + 1) (by omega)).2
    exact ⟨e1, e2, by omega, (e9 (hd i hi)).1, e3, fun k hk => ⟨(e10 k hk).1, (e10 k hk).2.2⟩⟩
  have hMS : ∀ B3 : Nat → Nat → Int32, (∀ k, k ≠ 12 → B3 k = B k) → MSc q n B3 := by
    intro B3 hB3
    refine ⟨d2, fun i hi => ?_⟩
    rw [hB3 6 (by decide), hB3 7 (by decide), hB3 9 (by decide), hB3 10 (by decide)]
    obtain ⟨e1, e2, e3, e4, e5, e6, e7, e8, e9, e10⟩ := d8 i hi
    exact ⟨e5, e2, (e9 (hd i hi)).2, e4, fun k hk => ⟨(e10 k hk).2.1, (e10 k hk).2.2⟩⟩
  have hLn := start_items (b := b) (ni := n) (op := fun k => decide (¬ (A 4 k &&& 1) = 0)) (cl := fun k => decide (¬ (A 4 (k + 1) &&& 2) = 0)) (e1 := fun k => decide (A 5 k = 1)) (it := it) (fun k hk => (d6 k hk).2.1) hit 20
  have hSD : bDone b (fun k => decide (¬ (A 4 k &&& 1) = 0)) (fun k => decide (¬ (A 4 (k + 1) &&& 2) = 0)) (fun k => decide (A 5 k = 1)) 20 0 0 false := start_done d1
  generalize hLe : (bRun b (fun k => decide (¬ (A 4 k &&& 1) = 0)) (fun k => decide (¬ (A 4 (k + 1) &&& 2) = 0)) (fun k => decide (A 5 k = 1)) 20 0 0 false).flatMap (itB it) = L at hLn
  have hbd := pRun_bd (q := q) (ni := n) (fun i hi => by
    obtain ⟨e1, e2, e3, e4, e5, e6, e7, e8, e9, e10⟩ := d8 i hi
    exact ⟨e2, hd i hi, e8, fun k hk => (e10 k hk).2.2⟩) L (0, [], PS0) hLn.2 ⟨by decide, fun k hk => absurd hk (Nat.not_lt_zero k)⟩
  have mref : ∀ pst : Int32 → (Nat → Int32) → (Nat → Nat → Int32) → Prop, ((pRun q L (0, [], PS0)).2.2.2.2.2.2 = true → ∀ J2 B2, (∀ a, a ≠ 24 → a ≠ 25 → J2 a = J a) → (∀ k, k < 12 ∨ 16 < k → B2 k = B k) → pst (-7) (upd (upd J2 5 0) 25 0) B2) → ((pRun q L (0, [], PS0)).2.2.2.2.2.2 = false → ∀ J2 B2, (∀ a, a ≠ 24 → a ≠ 25 → J2 a = J a) → (∀ k, k < 12 ∨ 16 < k → B2 k = B k) → MSt J2 B2 (pRun q L (0, [], PS0)).2.2 → pst (J2 25) (upd (upd J2 7 (-1)) 6 1) B2) → wp_TuneSetterModel_read J0 B0 pst := by
    intro pst y1 y2
    refine hRef pst ⟨21, mperform_loop 20 0 0 false (upd J 24 0) B [] hSD (by omega) (by omega) hMB ⟨z00, by decide, ?_⟩ ?_ (fun J3 B3 fJ fB hPl => ?_)⟩
    · intro k hk; exact absurd hk (Nat.not_lt_zero k)
    · rw [hLe]; show 0 + L.length ≤ 96; have := hLn.1; omega
    · rw [hLe, List.nil_append] at hPl
      have fr : ∀ {J2 : Nat → Int32}, (∀ a, a ≠ 25 → J2 a = J3 a) → ∀ a, a ≠ 24 → a ≠ 25 → J2 a = J a := fun {J2} z a a1 a2 => by rw [z a a2, fJ a a1, upd_ne a1]
      have fr2 : ∀ {B2 : Nat → Nat → Int32}, FrM B3 B2 → ∀ k, k < 12 ∨ 16 < k → B2 k = B k := fun {B2} z k hk => by rw [z k (by omega), fB k (by omega)]
      exact msound_ok hLn.2 (hMS B3 fB) hPl (fun ov J2 B2 z1 z2 => ⟨fun y => absurd y (by decide), fun _ => y1 ov J2 B2 (fr z1) (fr2 z2)⟩) (fun J2 B2 z1 z2 ov hM => ⟨fun _ => y2 ov J2 B2 (fr z1) (fr2 z2) hM, fun y => absurd (by decide) y⟩)
  have hX0 : CX (upd (upd (upd (upd I 23 0) 24 0) 25 0) 26 0) A (0, [], PS0) := ⟨⟨z00, by decide, rfl, fun k hk => absurd hk (Nat.not_lt_zero k)⟩, z00, z00, by decide, fun k hk => absurd hk (Nat.not_lt_zero k), fun k hk => absurd hk (List.not_mem_nil)⟩
  refine ⟨21, perform_loop (q := q) (ni := n) (fn := fn) 20 0 0 0 false (upd (upd (upd (upd I 23 0) 24 0) 25 0) 26 0) A (0, [], PS0) hSD (by omega) (by omega) (by omega) s1 hCB hCS hX0 (fun I2 A2 fI fA hX => ?_)⟩
  rw [hLe] at hX
  obtain ⟨⟨x1, x2, x3, x4⟩, -⟩ := hX
  have gI : ∀ k, k < 23 ∨ 27 < k → I2 k = I k := fun k hk => by
    rw [fI k hk, upd_ne (by omega), upd_ne (by omega), upd_ne (by omega), upd_ne (by omega)]
  have r3 : ∀ (J2 : Nat → Int32) (B2 : Nat → Nat → Int32) (I3 J3 : Nat → Int32), (∀ a, a ≠ 24 → a ≠ 25 → J2 a = J a) → (∀ k, k < 12 ∨ 16 < k → B2 k = B k) → (∀ a, a ≠ 34 → a ≠ 35 → I3 a = I2 a) → (∀ a, a < 5 ∨ a = 26 → J3 a = J2 a) → RelSet I3 J3 ∧ RelText I3 A2 J3 B2 ∧ RelFile I3 A2 J3 B2 := by
    intro J2 B2 I3 J3 z1 z2 z3 z4
    refine rel3 hF ?_ ?_ ?_ ?_ ?_ ?_ ?_ ?_ ?_ ?_ ?_ (fA 1 (by omega)) (fA 23 (by omega)) (z2 1 (by omega)) (z2 17 (by omega))
    · rw [z3 28 (by decide) (by decide), gI 28 (by omega)]
    · rw [z3 30 (by decide) (by decide), gI 30 (by omega)]
    · rw [z3 31 (by decide) (by decide), gI 31 (by omega)]
    · rw [z3 32 (by decide) (by decide), gI 32 (by omega)]
    · rw [z3 33 (by decide) (by decide), gI 33 (by omega)]
    · rw [z4 0 (by omega), z1 0 (by decide) (by decide)]
    · rw [z4 1 (by omega), z1 1 (by decide) (by decide)]
    · rw [z4 2 (by omega), z1 2 (by decide) (by decide)]
    · rw [z4 3 (by omega), z1 3 (by decide) (by decide)]
    · rw [z4 4 (by omega), z1 4 (by decide) (by decide)]
    · rw [z4 26 (by omega), z1 26 (by decide) (by decide)]
  have h6 : J 6 = 0 := hF.2.2.2.1
  refine ⟨fun z => mref _ (fun ov => ?_) (fun ov J2 B2 z1 z2 hM => ?_), fun z => mref _ (fun ov J2 B2 z1 z2 => ?_) (fun ov => ?_)⟩
  · rw [x3, ov] at z; exact absurd z (by decide)
  · have e25 : I2 23 = J2 25 := by rw [x1, hM.1]
    rw [← e25]
    obtain ⟨q1, q2, q3⟩ := r3 J2 B2 (upd (upd I2 34 1) 35 (-1)) (upd (upd J2 7 (-1)) 6 1) z1 z2 (fun a a1 a2 => by rw [upd_ne a2, upd_ne a1]) (fun a ha => by rw [upd_ne (by omega), upd_ne (by omega)])
    refine hp _ _ _ _ _ ⟨q1, q2, q3, rfl, rfl, Or.inr ⟨rfl, b, (pRun q L (0, [], PS0)).2.2.1, by omega, d1, x2, ?_, ?_, x1, hM.1, ?_, ?_⟩⟩
    · show I2 0 = nI b
      rw [gI 0 (by omega)]; exact s1
    · show J2 5 = nI b
      rw [z1 5 (by decide) (by decide)]; exact s2
    · intro i hi
      obtain ⟨w1, w2, w3, w4⟩ := x4 i hi
      obtain ⟨v1, v2, v3⟩ := hM.2.2 i hi
      refine ⟨w1.trans v1.symm, w2.trans v2.symm, w3.trans v3.symm, _, _, _, w1, w2, w3, ?_, (hbd.1.2 i hi).2.2.1, w4⟩
      have u1 := (hbd.1.2 i hi).1
      have u2 := (hbd.1.2 i hi).2.1
      have u3 : (pRun q L (0, [], PS0)).1 ≤ 0 + 1536 * L.length := hbd.2
      have u4 := hLn.1
      omega
    · refine ⟨it, sg, q.2.1, fun k hk => (d6 k hk).2.1, by omega, fun k hk => ?_, ?_, fun i hi => ?_, fun k hk => ?_⟩
      · rw [z2 2 (by omega)]; exact (d6 k hk).1
      · show J2 8 = nI (it b)
        rw [z1 8 (by decide) (by decide), d3]; exact s4
      · rw [z2 8 (by omega), z2 6 (by omega)]
        obtain ⟨e1, e2, e3, e4, e5, e6, e7, e8, e9, e10⟩ := d8 i (by omega)
        exact ⟨e6, by omega, (e9 (hd i (by omega))).2, hd i (by omega), e8⟩
      · rw [fA 7 (by omega)]; exact (d6 k hk).2.2
  · obtain ⟨q1, q2, q3⟩ := r3 J2 B2 (upd (upd I2 34 0) 35 (I2 30)) (upd (upd J2 5 0) 25 0) z1 z2 (fun a a1 a2 => by rw [upd_ne a2, upd_ne a1]) (fun a ha => by rw [upd_ne (by omega), upd_ne (by omega)])
    refine hp _ _ _ _ _ ⟨q1, q2, q3, ?_, ?_, Or.inl rfl⟩
    · show I2 30 = J2 7
      rw [gI 30 (by omega), (text_at hF h4 hs).1, z1 7 (by decide) (by decide), h7]
    · show (0 : Int32) = J2 6
      rw [z1 6 (by decide) (by decide), h6]
  · rw [x3, ov] at z; exact absurd rfl z
end FN
abbrev rdI (I : Nat → Int32) : Nat → Int32 := upd (upd (upd (upd (upd (upd (upd (upd (upd (upd (upd (upd (upd (upd (upd (upd (upd (upd (upd (upd I 12 (I 31)) 13 (I 32)) 5 (I 33)) 6 99) 9 1) 10 1) 11 0) 0 0) 1 0) 2 0) 3 0) 4 0) 14 0) 16 0) 17 0) 18 0) 19 0) 20 0) 21 0) 22 0
abbrev rdA (A : Nat → Nat → Int32) : Nat → Nat → Int32 := upd2 (upd2 (upd2 A 4 0 0) 8 0 0) 9 0 0
abbrev rdJ (J : Nat → Int32) : Nat → Int32 := upd (upd (upd (upd (upd (upd J 5 0) 8 0) 6 0) 25 0) 9 0) 13 0
theorem clamp0 : (0 : Int32).toNatClampNeg = 0 := by decide
theorem prep_ok {I : Nat → Int32} {A : Nat → Nat → Int32} {post : (Nat → Int32) → (Nat → Nat → Int32) → Prop} (hq : post (rdI I) (rdA A)) : wp_Reader_prepare (I 31) (I 32) (I 33) I A post := by
  unfold wp_Reader_prepare wp_PitchFinder_startTune wp_ItemLength_restart wp_Tune_empty
  rw [clamp0]
  exact ⟨vp_in_nI (n := 0) (by omega) (by omega), vp_in_nI (n := 0) (by omega) (by omega), vp_in_nI (n := 0) (by omega) (by omega), hq⟩
theorem mread_ok {J : Nat → Int32} {B : Nat → Nat → Int32} {post : Int32 → (Nat → Int32) → (Nat → Nat → Int32) → Prop} (hq : ∃ n, wp_TuneSetterModel_read_41 post n 0 (nI 0) (rdJ J) (upd2 B 5 0 0)) : wp_TuneSetterModel_read J B post := by
  unfold wp_TuneSetterModel_read
  rw [clamp0]
  exact ⟨vp_in_nI (n := 0) (by omega) (by omega), hq⟩
theorem sim0 {I : Nat → Int32} {A : Nat → Nat → Int32} {J : Nat → Int32} {B : Nat → Nat → Int32} (h : Rel I A J B) : S_bet 0 (rdI I) (rdA A) (rdJ J) (upd2 B 5 0 0) := by
  obtain ⟨h1, h2, h3, -⟩ := h
  refine ⟨0, 0, (fun _ => 0, fun _ => 0, fun _ _ => 0, fun _ => false), fun _ => 0, fun _ => 0, fun _ => 0, ⟨⟨h1, h2, h3, rfl, rfl, rfl, rfl⟩, ⟨z00, z00, z00, z00, z00, rfl⟩, ⟨fun k hk => absurd hk (Nat.not_lt_zero k), fun _ => 0, fun _ => 0, fun k hk => absurd hk (Nat.not_lt_zero k)⟩, ⟨⟨by omega, by omega, rfl, Nat.le_refl 0⟩, fun k hk => ?_, fun k hk => absurd hk (Nat.not_lt_zero k), fun k hk => ?_, fun k hk => absurd hk (Nat.not_lt_zero k)⟩⟩, ⟨rfl, rfl, rfl, rfl, rfl, fun k hk => absurd hk (Nat.not_lt_zero k)⟩, Or.inl ⟨rfl, rfl, rfl, Or.inl ⟨rfl, rfl⟩⟩⟩
  · have : k = 0 := by omega
    subst this
    exact (by decide : (0 : Int32) = nI 0)
  · have : k = 0 := by omega
    subst this
    exact ⟨(by decide : (0 : Int32) = nI 0), Nat.le_refl 0⟩
theorem ok_read {I : Nat → Int32} {A : Nat → Nat → Int32} {J : Nat → Int32} {B : Nat → Nat → Int32} (h : Rel I A J B) : T_read Rel I A J B := by
  intro post hp
  obtain ⟨s, t1, t2, t3, t4⟩ := h.2.1
  refine prep_ok ⟨s + 2, ?_⟩
  have e30 : rdI I 30 = nI s := t2
  rw [e30]
  refine scan_sim (J0 := J) (B0 := B) t1 (fun I1 A1 e J1 B1 f1 f2 f3 f4 hR => ?_) (fun I1 A1 J1 B1 f1 f2 f3 hR => ?_) s 0 (rdI I) (rdA A) (rdJ J) (upd2 B 5 0 0) (by omega) rfl (i_bet (sim0 h)) t3 (fun pst hq => mread_ok hq)
  · have e0 : ¬ I1 3 = 0 := by intro z; rw [f3] at z; rw [z] at f2; revert f2; decide
    refine ⟨fun z => absurd z e0, fun _ => hR _ ?_⟩
    rw [f3]
    obtain ⟨q1, q2, q3, q4, -⟩ := f1
    exact hp _ _ _ _ _ ⟨q1, q2, q3, f4, q4.symm, Or.inl rfl⟩
  · exact ⟨fun _ => fin_ok hp t1 f1 f3 hR, fun z => absurd f2 z⟩
/-- the law's walk, on whatever a run of calls says -/
theorem pure_whole {L : Nat} {xs : Nat → Int32} (hL : L ≤ 1536) : ∃ n, wp_law_18 L xs n 0 I0C A0 I0R A0 :=
  law_all (fun _ => Rel) hL Rel0 (fun _ _ _ _ _ _ h => ⟨ok_metre h, ok_unit h, ok_key h, ok_type h, ok_clear h, ok_read h, ok_place h, ok_bars h, ok_notes h, ok_note h, ok_width h, ok_write h, ok_byteAt h, ok_breaking h, ok_lines h, h⟩)

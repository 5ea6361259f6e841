/-! what a character opens -/
theorem fill_ok {post : (Nat → Int32) → (Nat → Nat → Int32) → Prop} {I : Nat → Int32} : ∀ (m k : Nat) (A : Nat → Nat → Int32), k + m = 132 → (∀ x, x < k → A 14 x = 99) → (∀ A1, (∀ a, a ≠ 14 → A1 a = A a) → (∀ x, x < 132 → A1 14 x = 99) → post I A1) → wp_Arrays_fill_5 post (m + 1) 99 (nI k) 132 I A := by
  intro m
  induction m with
  | zero =>
    intro k A hk hA hq
    unfold wp_Arrays_fill_5
    rw [show (132 : Int32) = nI 132 from by decide]
    exact ⟨fun _ => hq A (fun _ _ => rfl) (fun x hx => hA x (by omega)), fun z => absurd (nI_le (by omega) (by omega)) z⟩
  | succ m ih =>
    intro k A hk hA hq
    unfold wp_Arrays_fill_5
    rw [show (132 : Int32) = nI 132 from by decide, nI_clamp (by omega)]
    refine ⟨fun z => absurd z (nI_ge (by omega) (by omega)), fun _ => ⟨vp_in_nI (by omega) (by omega), fun v hv => ?_⟩⟩
    rw [hv, nI_1, show nI 132 = (132 : Int32) from by decide]
    refine ih (k + 1) _ (by omega) (fun x hx => ?_) (fun A1 g1 g2 => hq A1 (fun a ha => (g1 a ha).trans (upd2_ne ha)) g2)
    rw [upd2_eq]
    by_cases e : x = k
    · subst e; rw [upd_eq]
    · rw [upd_ne e]; exact hA x (by omega)
section OP
variable {I : Nat → Int32} {A : Nat → Nat → Int32} {post : (Nat → Int32) → (Nat → Nat → Int32) → Prop} {c v : Int32}
abbrev takes (c v : Int32) (post : (Nat → Int32) → (Nat → Nat → Int32) → Prop) (I : Nat → Int32) (A : Nat → Nat → Int32) : Prop := wp_Reader_take c v I A (fun I1 A1 => post (upd I1 14 v) A1)
abbrev failed (code w : Int32) (post : (Nat → Int32) → (Nat → Nat → Int32) → Prop) (I : Nat → Int32) (A : Nat → Nat → Int32) : Prop := post (upd (upd I 3 code) 4 w) A
/-- nothing opens -/
theorem s61_plain (h3 : I 3 = 0) (hv : ¬ (v = 1 ∨ v = 2)) (hB : ¬ opB (I 20) (I 21) v) (hI : ¬ opI (I 21) v) (hC : ¬ opC (I 22) (I 14) v) (hq : takes c v post I A) : wp_Reader_step_61 post c v I A := by
  have e1 := b2_f hB
  have e2 := b2_f hI
  have e3 := b2_f hC
  have e4 := b2_f hv
  unfold wp_Reader_step_61 wp_Reader_checkBars wp_Reader_checkBars_43 wp_Reader_checkMany wp_Reader_checkMany_20 wp_Reader_checkMany_40 wp_Reader_step_85 wp_Reader_open wp_Reader_open_20 wp_Reader_open_47 wp_Reader_open_74
  simp only [opensBar_iff, opensItem_iff, opensChordNote_iff, opensLine_iff, e1, e2, e3, e4, h3, true_implies, false_implies, implies_true, and_true, true_and, not_true_eq_false, not_false_eq_true]
  exact hq
/-- the ticks of the latest bar -/
def lbt (I : Nat → Int32) (A : Nat → Nat → Int32) (L : Int32) : Prop := (I 0 = 0 ∧ L = 0) ∨ ∃ b : Nat, b < 8 ∧ I 0 = nI (b + 1) ∧ L = A 6 b
theorem latest_of {L : Int32} {post : Int32 → (Nat → Int32) → (Nat → Nat → Int32) → Prop} (h : lbt I A L) : wp_Tune_latestBarTicks I A post ↔ post L I A := by
  unfold wp_Tune_latestBarTicks
  rcases h with ⟨h1, h2⟩ | ⟨b, h1, h2, h3⟩
  · subst h2
    rw [h1]
    exact ⟨fun q => q.1 rfl, fun q => ⟨fun _ => q, fun z => absurd rfl z⟩⟩
  · subst h3
    rw [h2, nI_pred, nI_clamp (by omega)]
    have e : ¬ nI (b + 1) = 0 := nI_ne0 (by omega) (by omega)
    exact ⟨fun q => (q.2 e).2, fun q => ⟨fun z => absurd z e, fun _ => ⟨vp_in_nI h1 (by omega), q⟩⟩⟩
theorem s61_line {L : Int32} (h3 : I 3 = 0) (hv : v = 1 ∨ v = 2) (hL : lbt I A L) (hbad : (I 12 < L ∨ ¬ I 17 ≤ 0) → failed (-5) (I 15) post I A) (hq : ¬ I 12 < L → I 17 ≤ 0 → takes c v post (upd (upd I 16 (I 15)) 20 0) A) : wp_Reader_step_61 post c v I A := by
  have hB : ∀ ib ii, ¬ opB ib ii v := by
    intro ib ii h
    rcases hv with e | e <;> subst e <;> rcases h.2 with h | ⟨-, h | h | h | h | h | h⟩ <;> revert h <;> decide
  have hI : ∀ ii, ¬ opI ii v := fun ii h => by
    rcases hv with e | e <;> subst e <;> rcases h.2 with h | h | h | h | h | h <;> revert h <;> decide
  have hC : ∀ ch st, ¬ opC ch st v := fun ch st h => by
    rcases hv with e | e <;> subst e <;> rcases h.2.1 with h | h | h <;> revert h <;> decide
  have e1 : ∀ ib ii, b2 (opB ib ii v) = 0 := fun ib ii => b2_f (hB ib ii)
  have e2 : ∀ ii, b2 (opI ii v) = 0 := fun ii => b2_f (hI ii)
  have e3 : ∀ ch st, b2 (opC ch st v) = 0 := fun ch st => b2_f (hC ch st)
  have e4 : ¬ b2 (v = 1 ∨ v = 2) = 0 := by rw [b2_0]; exact fun z => z hv
  unfold wp_Reader_step_61 wp_Reader_checkBars wp_Reader_checkBars_43 wp_Reader_checkMany wp_Reader_checkMany_20 wp_Reader_checkMany_40 wp_Reader_step_85 wp_Reader_open wp_Reader_open_20 wp_Reader_open_47 wp_Reader_open_74 wp_Reader_fail
  simp only [opensBar_iff, opensItem_iff, opensChordNote_iff, opensLine_iff, latest_of hL, e1, e2, e3, e4, h3, true_implies, false_implies, implies_true, and_true, true_and, not_true_eq_false, not_false_eq_true]
  have f3 : ∀ x : Int32, upd (upd I 3 (-5)) 4 x 3 = -5 := fun _ => rfl
  have f0 : ¬ (-5 : Int32) = 0 := by decide
  simp only [f3, f0, false_implies, true_implies, implies_true, and_true, true_and, not_false_eq_true]
  refine ⟨fun h => hbad (Or.inl h), fun h => ⟨fun h2 => hq h h2, fun h2 => hbad (Or.inr h2)⟩⟩
/-- an item opens, in a bar -/
abbrev itI (I : Nat → Int32) (ic : Nat) : Nat → Int32 := upd (upd (upd (upd (upd I 1 (nI (ic + 1))) 9 1) 10 1) 11 0) 21 1
abbrev itA (I : Nat → Int32) (A : Nat → Nat → Int32) (b ic : Nat) : Nat → Nat → Int32 := upd2 (upd2 (upd2 (upd2 A 11 ic 0) 9 (ic + 1) (I 2)) 8 (b + 1) (nI (ic + 1))) 7 b (A 7 b + 3)
theorem openItem_ok {post : (Nat → Int32) → (Nat → Nat → Int32) → Prop} {b ic : Nat} (hb : I 0 = nI (b + 1)) (hb8 : b < 8) (hi : I 1 = nI ic) (hi8 : ic < 48) (hq : post (upd I 1 (nI (ic + 1))) (itA I A b ic)) : wp_Tune_openItem I A post := by
  unfold wp_Tune_openItem wp_Tune_widen
  rw [show (upd I 1 (I 1 + 1)) 0 = I 0 from rfl, hb, hi, nI_1, nI_clamp (by omega), nI_clamp (by omega), nI_clamp (by omega), nI_pred, nI_clamp (by omega)]
  refine ⟨fun _ => ⟨vp_in_nI hi8 (by omega), vp_in_nI (by omega) (by omega), vp_in_nI (by omega) (by omega), fun z => absurd z (nI_nle (by omega) (by omega)), fun _ => ⟨vp_in_nI hb8 (by omega), vp_in_nI hb8 (by omega), hq⟩⟩, fun z => ?_⟩
  rw [show (48 : Int32) = nI 48 from by decide] at z
  exact absurd (nI_lt hi8 (by omega)) z
theorem s61_item {b ic : Nat} (h3 : I 3 = 0) (h20 : ¬ I 20 = 0) (hI : opI (I 21) v) (h22 : I 22 = 0) (hb : I 0 = nI (b + 1)) (hb8 : b < 8) (hi : I 1 = nI ic) (hi8 : ic ≤ 48) (hbad : ic = 48 → failed (-6) (I 15) post I A) (hq : ic < 48 → takes c v post (itI I ic) (itA I A b ic)) : wp_Reader_step_61 post c v I A := by
  have hv : ¬ (v = 1 ∨ v = 2) := fun h => by
    rcases h with e | e <;> subst e <;> rcases hI.2 with h | h | h | h | h | h <;> revert h <;> decide
  have e4 := b2_f hv
  have e1 : b2 (opB (I 20) (I 21) v) = 0 := b2_f (fun h => h20 h.1)
  have e2 : ¬ b2 (opI (I 21) v) = 0 := by rw [b2_0]; exact fun z => z hI
  have e3 : b2 (opC (I 22) (I 14) v) = 0 := b2_f (fun h => h.1 h22)
  have e5 : b2 (opC (itI I ic 22) (itI I ic 14) v) = 0 := b2_f (fun h => h.1 h22)
  have f3 : upd (upd I 3 (-6)) 4 (I 15) 3 = -6 := rfl
  have f0 : ¬ (-6 : Int32) = 0 := by decide
  unfold wp_Reader_step_61 wp_Reader_checkBars wp_Reader_checkBars_43 wp_Reader_checkMany wp_Reader_checkMany_20 wp_Reader_checkMany_40 wp_Reader_checkMany_56 wp_Reader_fail wp_Reader_step_85 wp_Reader_open wp_Reader_open_20 wp_Reader_open_47 wp_Reader_open_74 wp_ItemLength_restart
  simp only [opensBar_iff, opensItem_iff, opensChordNote_iff, opensLine_iff, e1, e2, e3, e4, h3, f3, f0, true_implies, false_implies, implies_true, and_true, true_and, not_true_eq_false, not_false_eq_true]
  refine ⟨fun z => hbad ?_, fun z => ?_⟩
  · rw [hi, show (48 : Int32) = nI 48 from by decide] at z
    exact (nI_eq (by omega) (by omega)).mp z
  · have hlt : ic < 48 := by
      rw [hi, show (48 : Int32) = nI 48 from by decide] at z
      have := mt (nI_eq (a := ic) (b := 48) (by omega) (by omega)).mpr z
      omega
    refine openItem_ok hb hb8 hi hlt ?_
    rw [e5]
    exact ⟨fun _ => hq hlt, fun z => absurd rfl z⟩
/-- a note opens, in a chord -/
theorem s61_chord (h3 : I 3 = 0) (h20 : ¬ I 20 = 0) (h21 : ¬ I 21 = 0) (hC : opC (I 22) (I 14) v) (hbad : I 18 = 4 → failed (-6) (I 15) post I A) (hq : ¬ I 18 = 4 → takes c v post (upd I 18 (I 18 + 1)) A) : wp_Reader_step_61 post c v I A := by
  have hv : ¬ (v = 1 ∨ v = 2) := fun h => by
    rcases h with e | e <;> subst e <;> rcases hC.2.1 with h | h | h <;> revert h <;> decide
  have e4 := b2_f hv
  have e1 : b2 (opB (I 20) (I 21) v) = 0 := b2_f (fun h => h20 h.1)
  have e2 : b2 (opI (I 21) v) = 0 := b2_f (fun h => h21 h.1)
  have e3 : ¬ b2 (opC (I 22) (I 14) v) = 0 := by rw [b2_0]; exact fun z => z hC
  have f3 : upd (upd I 3 (-6)) 4 (I 15) 3 = -6 := rfl
  have f0 : ¬ (-6 : Int32) = 0 := by decide
  unfold wp_Reader_step_61 wp_Reader_checkBars wp_Reader_checkBars_43 wp_Reader_checkMany wp_Reader_checkMany_20 wp_Reader_checkMany_40 wp_Reader_checkMany_56 wp_Reader_fail wp_Reader_step_85 wp_Reader_open wp_Reader_open_20 wp_Reader_open_47 wp_Reader_open_74
  simp only [opensBar_iff, opensItem_iff, opensChordNote_iff, opensLine_iff, e1, e2, e3, e4, h3, f3, f0, true_implies, false_implies, implies_true, and_true, true_and, not_true_eq_false, not_false_eq_true]
  exact ⟨hbad, hq⟩
/-- a bar opens -/
abbrev brA (I : Nat → Int32) (A : Nat → Nat → Int32) (b : Nat) (e : Int32) : Nat → Nat → Int32 := upd2 (upd2 (upd2 (upd2 A 5 b e) 6 b 0) 7 b 2) 8 (b + 1) (I 1)
theorem openBar_ok {post : (Nat → Int32) → (Nat → Nat → Int32) → Prop} {b : Nat} (hb : I 0 = nI b) (hb8 : b < 8) (hq : post (upd I 0 (nI (b + 1))) (brA I A b (if 0 < b ∧ A 4 b = 0 then A 5 (b - 1) else 0))) : wp_Tune_openBar I A post := by
  have v8 := vp_in_nI (n := b) (N := 8) hb8 (by omega)
  have v9 := vp_in_nI (n := b + 1) (N := 9) (by omega) (by omega)
  unfold wp_Tune_openBar wp_Tune_openBar_34 wp_Tune_openBar_62
  rw [hb, nI_1, nI_clamp (by omega), nI_clamp (by omega)]
  refine ⟨fun _ => ⟨fun z => ?_, fun z => ?_⟩, fun z => ?_⟩
  · have e : b = 0 := by
      rw [show (0 : Int32) = nI 0 from by decide] at z
      have := (nI_leI (a := b) (b := 0) (by omega) (by omega)).mp z
      omega
    rw [if_neg (fun h => by omega)] at hq
    exact ⟨fun _ => ⟨v8, v8, v8, v9, hq⟩, fun z => absurd rfl z⟩
  · have e : 0 < b := by
      rw [show (0 : Int32) = nI 0 from by decide] at z
      have := mt (nI_leI (a := b) (b := 0) (by omega) (by omega)).mpr z
      omega
    refine ⟨vp_in_nI (by omega) (by omega), fun z2 => ⟨fun z3 => absurd z3 (by decide), fun _ => ?_⟩, fun z2 => ⟨fun _ => ⟨v8, v8, v8, v9, ?_⟩, fun z3 => absurd rfl z3⟩⟩
    · obtain ⟨b', rfl⟩ : ∃ b', b = b' + 1 := ⟨b - 1, by omega⟩
      rw [if_pos ⟨e, z2⟩, Nat.add_sub_cancel] at hq
      rw [nI_pred, nI_clamp (by omega)]
      exact ⟨vp_in_nI (by omega) (by omega), v8, v8, v8, v9, hq⟩
    · rw [if_neg (fun h => z2 h.2)] at hq
      exact hq
  · rw [show (8 : Int32) = nI 8 from by decide] at z
    exact absurd (nI_lt hb8 (by omega)) z
end OP

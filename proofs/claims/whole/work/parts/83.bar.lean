/-! a bar opens, and what opens it -/
section OB
variable {I : Nat → Int32} {A : Nat → Nat → Int32} {post : (Nat → Int32) → (Nat → Nat → Int32) → Prop} {c v : Int32}
/-- the new bar's world: A2 is the old one with the bar, and no sign held -/
def barIn (I : Nat → Int32) (A A2 : Nat → Nat → Int32) (b : Nat) : Prop := (∀ a, a ≠ 14 → A2 a = brA I A b (if 0 < b ∧ A 4 b = 0 then A 5 (b - 1) else 0) a) ∧ ∀ x, x < 132 → A2 14 x = 99
abbrev brI (I : Nat → Int32) (b : Nat) : Nat → Int32 := upd (upd I 0 (nI (b + 1))) 20 1
theorem s61_bar {L : Int32} {b ic : Nat} (h3 : I 3 = 0) (h20 : I 20 = 0) (h21 : I 21 = 0) (hv : v = 4 ∨ opI (I 21) v) (h22 : I 22 = 0) (hb : I 0 = nI b) (hb8 : b ≤ 8) (hi : I 1 = nI ic) (hi8 : ic ≤ 48) (hL : lbt I A L)
    (hbars : 2 ≤ b → L < I 12 → failed (-5) (I 16) post I A) (hmany : (b < 2 ∨ ¬ L < I 12) → (b = 8 ∨ (¬ v = 4 ∧ ic = 48)) → failed (-6) (I 15) post I A)
    (hq4 : (b < 2 ∨ ¬ L < I 12) → b < 8 → v = 4 → ∀ A2, barIn I A A2 b → takes c v post (brI I b) A2)
    (hq : (b < 2 ∨ ¬ L < I 12) → b < 8 → ¬ v = 4 → ic < 48 → ∀ A2, barIn I A A2 b → takes c v post (itI (brI I b) ic) (itA (brI I b) A2 b ic)) : wp_Reader_step_61 post c v I A := by
  have hv1 : ¬ (v = 1 ∨ v = 2) := fun h => by
    rcases hv with hv | hv
    · subst hv; revert h; decide
    · rcases h with e | e <;> subst e <;> rcases hv.2 with h | h | h | h | h | h <;> revert h <;> decide
  have e4 := b2_f hv1
  have e1 : ¬ b2 (opB (I 20) (I 21) v) = 0 := by rw [b2_0]; exact fun z => z ⟨h20, hv⟩
  have e3 : ∀ st, b2 (opC (I 22) st v) = 0 := fun st => b2_f (fun h => h.1 h22)
  have f5 : upd (upd I 3 (-5)) 4 (I 16) 3 = -5 := rfl
  have f50 : ¬ (-5 : Int32) = 0 := by decide
  have f6 : upd (upd I 3 (-6)) 4 (I 15) 3 = -6 := rfl
  have f60 : ¬ (-6 : Int32) = 0 := by decide
  -- behind the bars' check
  have mid : (b < 2 ∨ ¬ L < I 12) → wp_Reader_checkMany v I A (fun I82 A82 => wp_Reader_step_85 post c v I82 A82) := by
    intro hok
    have many : (b = 8 ∨ (¬ v = 4 ∧ ic = 48)) → wp_Reader_checkMany_56 (fun I82 A82 => wp_Reader_step_85 post c v I82 A82) I A := by
      intro h
      unfold wp_Reader_checkMany_56 wp_Reader_fail wp_Reader_step_85
      simp only [f6, f60, false_implies, true_implies, not_false_eq_true, true_and]
      exact hmany hok h
    have go : b < 8 → (¬ v = 4 → ic < 48) → wp_Reader_step_85 post c v I A := by
      intro hlt hic
      have w1 : ∀ A2 : Nat → Nat → Int32, ¬ v = 4 → opI (brI I b 21) v := fun A2 h4 => by
        rcases hv with h | h
        · exact absurd h h4
        · exact h
      unfold wp_Reader_step_85 wp_Reader_open wp_Reader_open_20 wp_PitchFinder_startBar
      simp only [opensBar_iff, opensLine_iff, e1, e4, h3, true_implies, false_implies, implies_true, and_true, true_and, not_true_eq_false, not_false_eq_true]
      refine openBar_ok hb hlt ⟨133, ?_⟩
      rw [show (0 : Int32) = nI 0 from by decide]
      refine fill_ok 132 0 _ (by omega) (fun x hx => by omega) (fun A2 g1 g2 => ?_)
      rw [show nI 0 = (0 : Int32) from by decide] at g1
      have hbi : barIn I A A2 b := ⟨g1, g2⟩
      unfold wp_Reader_open_47 wp_Reader_open_74 wp_ItemLength_restart
      simp only [opensItem_iff, opensChordNote_iff]
      have ec : ∀ st, b2 (opC (brI I b 22) st v) = 0 := fun st => b2_f (fun h => h.1 h22)
      by_cases h4 : v = 4
      · have e2 : b2 (opI (brI I b 21) v) = 0 := b2_f (fun h => by subst h4; rcases h.2 with h | h | h | h | h | h <;> revert h <;> decide)
        rw [e2]
        refine ⟨fun _ => ?_, fun z => absurd rfl z⟩
        rw [ec]
        exact ⟨fun _ => hq4 hok hlt h4 A2 hbi, fun z => absurd rfl z⟩
      · have e2 : ¬ b2 (opI (brI I b 21) v) = 0 := by rw [b2_0]; exact fun z => z (w1 A2 h4)
        refine ⟨fun z => absurd z e2, fun _ => ?_⟩
        refine openItem_ok (I := brI I b) (b := b) (ic := ic) rfl hlt hi (hic h4) ?_
        have ed : b2 (opC (itI (brI I b) ic 22) (itI (brI I b) ic 14) v) = 0 := b2_f (fun h => h.1 h22)
        rw [ed]
        exact ⟨fun _ => hq hok hlt h4 (hic h4) A2 hbi, fun z => absurd rfl z⟩
    unfold wp_Reader_checkMany wp_Reader_checkMany_20 wp_Reader_checkMany_40
    simp only [opensBar_iff, opensItem_iff, opensChordNote_iff, e1, e3, true_implies, false_implies, implies_true, and_true, true_and, not_true_eq_false, not_false_eq_true]
    refine ⟨fun z => many (Or.inl ?_), fun z => ?_⟩
    · rw [hb, show (8 : Int32) = nI 8 from by decide] at z
      exact (nI_eq (by omega) (by omega)).mp z
    · have hlt : b < 8 := by
        rw [hb, show (8 : Int32) = nI 8 from by decide] at z
        have := mt (nI_eq (a := b) (b := 8) (by omega) (by omega)).mpr z
        omega
      rw [b2_0]
      refine ⟨fun z2 => go hlt (fun h4 => ?_), fun z2 => ⟨fun z3 => many (Or.inr ⟨fun h4 => ?_, ?_⟩), fun z3 => go hlt (fun _ => ?_)⟩⟩
      · exfalso
        rcases hv with h | h
        · exact h4 h
        · exact z2 h
      · apply z2
        intro h
        subst h4
        rcases h.2 with h | h | h | h | h | h <;> revert h <;> decide
      · rw [hi, show (48 : Int32) = nI 48 from by decide] at z3
        exact (nI_eq (by omega) (by omega)).mp z3
      · rw [hi, show (48 : Int32) = nI 48 from by decide] at z3
        have := mt (nI_eq (a := ic) (b := 48) (by omega) (by omega)).mpr z3
        omega
  unfold wp_Reader_step_61 wp_Reader_checkBars wp_Reader_checkBars_43 wp_Reader_fail
  simp only [opensBar_iff, opensLine_iff, latest_of hL, e1, e4, h3, f5, f50, true_implies, false_implies, implies_true, and_true, true_and, not_true_eq_false, not_false_eq_true]
  refine ⟨fun z => mid (Or.inl ?_), fun z => ⟨fun z2 => mid (Or.inr ?_), fun z2 => ?_⟩⟩
  · rw [hb, show (2 : Int32) = nI 2 from by decide] at z
    exact (nI_ltI (by omega) (by omega)).mp z
  · grind
  · have hlt : 2 ≤ b := by
      rw [hb, show (2 : Int32) = nI 2 from by decide] at z
      have := mt (nI_ltI (a := b) (b := 2) (by omega) (by omega)).mpr z
      omega
    unfold wp_Reader_step_85
    simp only [f5, f50, false_implies, true_implies, not_false_eq_true, true_and]
    exact hbars hlt (by grind)
end OB

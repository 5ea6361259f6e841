/-! what the class takes, by the state that follows -/
section TK
variable {I : Nat → Int32} {A : Nat → Nat → Int32} {post : (Nat → Int32) → (Nat → Nat → Int32) → Prop} {c : Int32}
theorem tk_1 {b : Nat} (hb : I 0 = nI b) (hb8 : b ≤ 8) (hq : post (upd I 14 1) (upd2 A 4 b 0)) : takes c 1 post I A := by
  unfold takes wp_Reader_take wp_Tune_setLine
  simp (decide := true) only [true_implies, false_implies, implies_true, and_true, true_and, not_true_eq_false, not_false_eq_true]
  rw [hb, nI_clamp (by omega)]
  exact ⟨vp_in_nI (by omega) (by omega), hq⟩
theorem tk_2 (hq : post (upd I 14 2) A) : takes c 2 post I A := by
  unfold takes wp_Reader_take wp_Reader_takeInside
  simp (decide := true) only [true_implies, false_implies, implies_true, and_true, true_and, not_true_eq_false, not_false_eq_true]
  exact hq
theorem tk_3s (hq : post (upd I 14 3) A) : takes 32 3 post I A := by
  unfold takes wp_Reader_take wp_Reader_growLine
  simp (decide := true) only [true_implies, false_implies, implies_true, and_true, true_and, not_true_eq_false, not_false_eq_true]
  exact hq
theorem tk_3 {b : Nat} (hb : I 0 = nI b) (hb8 : b ≤ 8) (hc : c = 124 ∨ c = 58) (hq : post (upd I 14 3) (upd2 A 4 b (if I 14 = 2 then (if c = 58 then 3 else 2) else (if c = 58 then 1 else 4)))) : takes c 3 post I A := by
  have v := vp_in_nI (n := b) (N := 9) (by omega) (by omega)
  have e := nI_clamp (n := b) (by omega)
  unfold takes wp_Reader_take wp_Reader_growLine wp_Tune_setLine
  rcases hc with h | h <;> subst h <;> simp (decide := true) only [hb, v, e, true_implies, false_implies, implies_true, and_true, true_and, not_true_eq_false, not_false_eq_true]
  · simp (decide := true) only [if_false] at hq
    by_cases h2 : I 14 = 2
    · rw [if_pos h2] at hq; exact ⟨fun _ => hq, fun z => absurd h2 z⟩
    · rw [if_neg h2] at hq; exact ⟨fun z => absurd z h2, fun _ => hq⟩
  · simp only [if_true] at hq
    by_cases h2 : I 14 = 2
    · rw [if_pos h2] at hq; exact ⟨fun _ => hq, fun z => absurd h2 z⟩
    · rw [if_neg h2] at hq; exact ⟨fun z => absurd z h2, fun _ => hq⟩
theorem tk_4 (hq : post (upd I 14 4) A) : takes c 4 post I A := by
  unfold takes wp_Reader_take wp_Reader_takeInside
  simp (decide := true) only [true_implies, false_implies, implies_true, and_true, true_and, not_true_eq_false, not_false_eq_true]
  exact hq
theorem tk_5s (hq : post (upd I 14 5) A) : takes 32 5 post I A := by
  unfold takes wp_Reader_take
  simp (decide := true) only [true_implies, false_implies, implies_true, and_true, true_and, not_true_eq_false, not_false_eq_true]
  exact hq
theorem tk_5 {b : Nat} (hb : I 0 = nI (b + 1)) (hb8 : b < 8) (hc : ¬ c = 32) (hq : post (upd I 14 5) (upd2 A 5 b (c - 48))) : takes c 5 post I A := by
  unfold takes wp_Reader_take wp_Tune_setEnding
  simp (decide := true) only [hc, true_implies, false_implies, implies_true, and_true, true_and, not_true_eq_false, not_false_eq_true]
  rw [hb, nI_pred, nI_clamp (by omega)]
  exact ⟨fun z => absurd z (nI_nle (by omega) (by omega)), fun _ => ⟨vp_in_nI hb8 (by omega), hq⟩⟩
theorem tk_6 (hq : post (upd I 14 6) A) : takes c 6 post I A := by
  unfold takes wp_Reader_take wp_Reader_takeInside
  simp (decide := true) only [true_implies, false_implies, implies_true, and_true, true_and, not_true_eq_false, not_false_eq_true]
  exact hq
theorem tk_7 (hq : post (upd (upd I 17 3) 14 7) A) : takes c 7 post I A := by
  unfold takes wp_Reader_take
  simp (decide := true) only [true_implies, false_implies, implies_true, and_true, true_and, not_true_eq_false, not_false_eq_true]
  exact hq
theorem tk_8 (hq : post (upd (upd (upd I 22 1) 18 0) 14 8) A) : takes c 8 post I A := by
  unfold takes wp_Reader_take
  simp (decide := true) only [true_implies, false_implies, implies_true, and_true, true_and, not_true_eq_false, not_false_eq_true]
  exact hq
/-- the sign of a character -/
def sgn (c : Int32) : Int := if c = 94 then 1 else if c = 95 then -1 else 0
theorem takeSign_ok {b : Nat} (hb : I 0 = nI (b + 1)) (hb8 : b < 8) (hq : ∀ A1, wid A A1 b 1 → post (upd (upd I 19 c) 6 (zI (sgn c))) A1) : wp_Reader_takeSign c I A post := by
  unfold wp_Reader_takeSign wp_PitchFinder_setSign
  unfold sgn at hq
  refine ⟨fun z => ?_, fun z => ⟨fun z2 => ?_, fun z2 => ?_⟩⟩
  · rw [if_pos z] at hq
    exact widen_ok (I := upd (upd I 19 c) 6 1) hb hb8 hq
  · rw [if_neg z, if_pos z2] at hq
    exact widen_ok (I := upd (upd I 19 c) 6 (-1)) hb hb8 hq
  · rw [if_neg z, if_neg z2] at hq
    exact widen_ok (I := upd (upd I 19 c) 6 0) hb hb8 hq
theorem tk_9 {b : Nat} (hb : I 0 = nI (b + 1)) (hb8 : b < 8) (hq : ∀ A1, wid A A1 b 1 → post (upd (upd (upd I 19 c) 6 (zI (sgn c))) 14 9) A1) : takes c 9 post I A := by
  unfold takes wp_Reader_take wp_Reader_takeInside
  simp (decide := true) only [true_implies, false_implies, implies_true, and_true, true_and, not_true_eq_false, not_false_eq_true]
  exact takeSign_ok hb hb8 hq
theorem tk_10 {b : Nat} (hb : I 0 = nI (b + 1)) (hb8 : b < 8) (h9 : ¬ I 14 = 9) (hq : ∀ A1, wid A A1 b 1 → post (upd (upd (upd I 19 c) 6 (zI (sgn c))) 14 10) A1) : takes c 10 post I A := by
  unfold takes wp_Reader_take wp_Reader_takeInside
  simp (decide := true) only [h9, true_implies, false_implies, implies_true, and_true, true_and, not_true_eq_false, not_false_eq_true]
  exact takeSign_ok hb hb8 hq
theorem tk_10d (h9 : I 14 = 9) (hq : post (upd (upd I 6 ((2 : Int32) * I 6)) 14 10) A) : takes c 10 post I A := by
  unfold takes wp_Reader_take wp_Reader_takeInside wp_PitchFinder_doubleSign
  simp (decide := true) only [h9, true_implies, false_implies, implies_true, and_true, true_and, not_true_eq_false, not_false_eq_true]
  exact hq
theorem ltr_ex {c : Int32} (h : ltr c) : ∃ l : Nat, l < 7 ∧ (c = nI (65 + l) ∨ c = nI (97 + l)) := by
  rcases h with ⟨h1, h2⟩ | ⟨h1, h2⟩
  · obtain ⟨k, k1, k2⟩ := nI_of2 (x := c) (M := 71) (n := 71) (by decide) (by grind) h2
    subst k2
    rw [show (65 : Int32) = nI 65 from by decide] at h1
    have := (nI_leI (a := 65) (b := k) (by omega) (by omega)).mp h1
    exact ⟨k - 65, by omega, Or.inl (by congr 1; omega)⟩
  · obtain ⟨k, k1, k2⟩ := nI_of2 (x := c) (M := 103) (n := 103) (by decide) (by grind) h2
    subst k2
    rw [show (97 : Int32) = nI 97 from by decide] at h1
    have := (nI_leI (a := 97) (b := k) (by omega) (by omega)).mp h1
    exact ⟨k - 97, by omega, Or.inr (by congr 1; omega)⟩
/-- the octave that a letter begins in: 0, or 1 where it is small -/
def oc (c : Int32) : Int := if c < 97 then 0 else 1
theorem tk_11 {l : Nat} (hl : l < 7) (hc : c = nI (65 + l) ∨ c = nI (97 + l)) (hq : post (upd (upd (upd I 7 (nI l)) 8 (zI ((plN l : Int) + 12 * oc c))) 14 11) A) : takes c 11 post I A := by
  have key : ∀ s0 : Int32, s0 = nI l → ∀ y2 : Int32, (y2 = 0 ∧ oc c = 0) ∨ (¬ y2 = 0 ∧ oc c = 1) → wp_PitchFinder_setLetter_28 (fun I1 A1 => post (upd I1 14 11) A1) y2 s0 I A := by
    intro s0 e y2 hy
    unfold wp_PitchFinder_setLetter_28
    rw [e, nI_clamp (by omega), (plN_b hl).2.2]
    have n1 : ¬ nI l < 0 := by
      rw [show (0 : Int32) = nI 0 from by decide]
      intro z
      have := (nI_ltI (a := l) (b := 0) (by omega) (by omega)).mp z
      omega
    have n2 : ¬ 7 ≤ nI l := by
      rw [show (7 : Int32) = nI 7 from by decide]
      intro z
      have := (nI_leI (a := 7) (b := l) (by omega) (by omega)).mp z
      omega
    refine ⟨fun z => absurd z n1, fun _ => ⟨fun z => absurd z n2, fun _ => ⟨vp_in_nI hl (by omega), fun z => ?_, fun z => ?_⟩⟩⟩
    · rcases hy with hy | hy
      · rw [hy.2, Int.mul_zero, Int.add_zero] at hq; exact hq
      · exact absurd z hy.1
    · rcases hy with hy | hy
      · exact absurd hy.1 z
      · rw [hy.2] at hq
        rw [show (12 : Int32) = zI 12 from by decide, zI_add, upd_upd]
        exact hq
  unfold takes wp_Reader_take wp_Reader_takeInside
  simp (decide := true) only [true_implies, false_implies, implies_true, and_true, true_and, not_true_eq_false, not_false_eq_true]
  unfold wp_PitchFinder_setLetter
  unfold oc at key
  rcases hc with h | h
  · have hlt : c < 97 := by
      rw [h, show (97 : Int32) = nI 97 from by decide]
      exact (nI_ltI (by omega) (by omega)).mpr (by omega)
    refine ⟨fun _ => ⟨fun _ => key _ ?_ 0 (Or.inl ⟨rfl, if_pos hlt⟩), fun z => absurd rfl z⟩, fun z => absurd hlt z⟩
    rw [h, show (65 : Int32) = nI 65 from by decide, pk_sub (by omega)]
    congr 1; omega
  · have hlt : ¬ c < 97 := by
      rw [h, show (97 : Int32) = nI 97 from by decide]
      intro z
      have := (nI_ltI (a := 97 + l) (b := 97) (by omega) (by omega)).mp z
      omega
    refine ⟨fun z => absurd z hlt, fun _ => ⟨fun z => absurd z (by decide), fun _ => key _ ?_ 1 (Or.inr ⟨by decide, if_neg hlt⟩)⟩⟩
    rw [h, show (97 : Int32) = nI 97 from by decide, pk_sub (by omega)]
    congr 1; omega
theorem tk_12 (hq : post (upd (upd I 8 (I 8 + 12)) 14 12) A) : takes c 12 post I A := by
  unfold takes wp_Reader_take wp_Reader_takeInside wp_PitchFinder_shift
  simp (decide := true) only [true_implies, false_implies, implies_true, and_true, true_and, not_true_eq_false, not_false_eq_true]
  exact hq
theorem tk_13 (hq : post (upd (upd I 8 (I 8 + -12)) 14 13) A) : takes c 13 post I A := by
  unfold takes wp_Reader_take wp_Reader_takeInside wp_PitchFinder_shift
  simp (decide := true) only [true_implies, false_implies, implies_true, and_true, true_and, not_true_eq_false, not_false_eq_true]
  exact hq
theorem tk_14 (hq : post (upd (upd I 22 0) 14 14) A) : takes c 14 post I A := by
  unfold takes wp_Reader_take
  simp (decide := true) only [true_implies, false_implies, implies_true, and_true, true_and, not_true_eq_false, not_false_eq_true]
  exact hq
theorem tk_15 (hq : post (upd (upd (upd I 9 (if I 11 = 0 then c - 48 else (10 : Int32) * I 9 + (c - 48))) 11 (I 11 + 1)) 14 15) A) : takes c 15 post I A := by
  unfold takes wp_Reader_take wp_Reader_takeInside wp_ItemLength_addTopDigit
  simp (decide := true) only [true_implies, false_implies, implies_true, and_true, true_and, not_true_eq_false, not_false_eq_true]
  refine ⟨fun z => ?_, fun z => ?_⟩
  · rw [if_pos z] at hq; exact hq
  · rw [if_neg z] at hq; exact hq
theorem tk_16 (hq : post (upd (upd (upd I 10 2) 11 0) 14 16) A) : takes c 16 post I A := by
  unfold takes wp_Reader_take wp_Reader_takeInside wp_ItemLength_addSlash
  simp (decide := true) only [true_implies, false_implies, implies_true, and_true, true_and, not_true_eq_false, not_false_eq_true]
  exact hq
theorem tk_17 (hq : post (upd (upd (upd I 10 (if I 11 = 0 then c - 48 else (10 : Int32) * I 10 + (c - 48))) 11 (I 11 + 1)) 14 17) A) : takes c 17 post I A := by
  unfold takes wp_Reader_take wp_Reader_takeInside wp_ItemLength_addBottomDigit
  simp (decide := true) only [true_implies, false_implies, implies_true, and_true, true_and, not_true_eq_false, not_false_eq_true]
  refine ⟨fun z => ?_, fun z => ?_⟩
  · rw [if_pos z] at hq; exact hq
  · rw [if_neg z] at hq; exact hq
theorem tk_18 {n : Nat} (hn : I 1 = nI (n + 1)) (hn8 : n < 48) (hq : post (upd I 14 18) (upd2 A 11 n 1)) : takes c 18 post I A := by
  unfold takes wp_Reader_take wp_Tune_setTie
  simp (decide := true) only [true_implies, false_implies, implies_true, and_true, true_and, not_true_eq_false, not_false_eq_true]
  rw [hn, nI_pred, nI_clamp (by omega)]
  exact ⟨fun z => absurd z (nI_nle (by omega) (by omega)), fun _ => ⟨vp_in_nI hn8 (by omega), hq⟩⟩
theorem tk_x {v : Int32} (hv : v = 0 ∨ v = 19 ∨ v = 20) (hq : post (upd I 14 v) A) : takes c v post I A := by
  rcases hv with e | e | e <;> subst e <;> unfold takes wp_Reader_take wp_Reader_takeInside <;> simp (decide := true) only [true_implies, false_implies, implies_true, and_true, true_and, not_true_eq_false, not_false_eq_true] <;> exact hq
end TK

/-! where a character leads -/
abbrev mv (st ch x : Int32) : Prop := ¬ (mayV st ch &&& x) = 0
section FO
variable {I : Nat → Int32} {A : Nat → Nat → Int32} {post : Int32 → (Nat → Int32) → (Nat → Nat → Int32) → Prop} {f : Int32}
theorem ifp {p : Prop} [Decidable p] {a b : Int32} : ((p → post a I A) ∧ (¬ p → post b I A)) ↔ post (if p then a else b) I A := by
  by_cases h : p
  · rw [if_pos h]; grind
  · rw [if_neg h]; grind
theorem ifn {p : Prop} [Decidable p] {a b : Int32} : ((¬ p → post a I A) ∧ (¬ ¬ p → post b I A)) ↔ post (if p then b else a) I A := by
  by_cases h : p
  · rw [if_pos h]; grind
  · rw [if_neg h]; grind
theorem fol_end (h0 : 0 ≤ I 14) (h1 : I 14 ≤ 20) : wp_Reader_follow 0 f I A post ↔ post (if mv (I 14) (I 22) 32768 then (if I 0 ≤ 0 then -1 else 20) else -1) I A := by
  unfold wp_Reader_follow
  simp (decide := true) only [may_iff _ h0 h1, b2_0, true_implies, false_implies, implies_true, and_true, true_and, not_true_eq_false, not_false_eq_true]
  by_cases h : mv (I 14) (I 22) 32768
  · rw [if_pos h, ← ifp (post := post)]; grind
  · rw [if_neg h]; grind
theorem fol_space (h0 : 0 ≤ I 14) (h1 : I 14 ≤ 20) : wp_Reader_follow 32 f I A post ↔ post (if mv (I 14) (I 22) 1 then (if I 14 = 0 ∨ I 14 = 5 then I 14 else if I 20 = 0 then 3 else 19) else -1) I A := by
  unfold wp_Reader_follow wp_Reader_behindSpace
  simp (decide := true) only [may_iff _ h0 h1, b2_0, true_implies, false_implies, implies_true, and_true, true_and, not_true_eq_false, not_false_eq_true]
  by_cases h : mv (I 14) (I 22) 1
  · rw [if_pos h]
    by_cases h2 : I 14 = 0
    · rw [if_pos (Or.inl h2)]; grind
    · by_cases h3 : I 14 = 5
      · rw [if_pos (Or.inr h3)]; grind
      · rw [if_neg (fun z => by rcases z with e | e; exact h2 e; exact h3 e), ← ifp (post := post)]; grind
  · rw [if_neg h]; grind
theorem fol_bar (h0 : 0 ≤ I 14) (h1 : I 14 ≤ 20) : wp_Reader_follow 124 f I A post ↔ post (if mv (I 14) (I 22) 4 then 3 else if mv (I 14) (I 22) 2 then 1 else -1) I A := by
  unfold wp_Reader_follow
  simp (decide := true) only [may_iff _ h0 h1, b2_0, true_implies, false_implies, implies_true, and_true, true_and, not_true_eq_false, not_false_eq_true]
  by_cases h : mv (I 14) (I 22) 4
  · rw [if_pos h]; grind
  · rw [if_neg h]
    by_cases h2 : mv (I 14) (I 22) 2
    · rw [if_pos h2]; grind
    · rw [if_neg h2]; grind
theorem fol_colon (h0 : 0 ≤ I 14) (h1 : I 14 ≤ 20) : wp_Reader_follow 58 f I A post ↔ post (if mv (I 14) (I 22) 4 then 3 else if mv (I 14) (I 22) 2 then 2 else -1) I A := by
  unfold wp_Reader_follow
  simp (decide := true) only [may_iff _ h0 h1, b2_0, true_implies, false_implies, implies_true, and_true, true_and, not_true_eq_false, not_false_eq_true]
  by_cases h : mv (I 14) (I 22) 4
  · rw [if_pos h]; grind
  · rw [if_neg h]
    by_cases h2 : mv (I 14) (I 22) 2
    · rw [if_pos h2]; grind
    · rw [if_neg h2]; grind
theorem fol_brack (h0 : 0 ≤ I 14) (h1 : I 14 ≤ 20) : wp_Reader_follow 91 f I A post ↔ post (if mv (I 14) (I 22) 8 ∧ (f = 49 ∨ f = 50) then 4 else if mv (I 14) (I 22) 32 then 8 else -1) I A := by
  unfold wp_Reader_follow
  simp (decide := true) only [may_iff _ h0 h1, b2_0, true_implies, false_implies, implies_true, and_true, true_and, not_true_eq_false, not_false_eq_true]
  by_cases h : mv (I 14) (I 22) 8
  · by_cases h3 : f = 49
    · rw [if_pos ⟨h, Or.inl h3⟩]; grind
    · by_cases h4 : f = 50
      · rw [if_pos ⟨h, Or.inr h4⟩]; grind
      · rw [if_neg (fun z => by rcases z.2 with e | e; exact h3 e; exact h4 e), ← ifp (post := post)]; grind
  · rw [if_neg (fun z => h z.1), ← ifp (post := post)]; grind
theorem fol_paren (h0 : 0 ≤ I 14) (h1 : I 14 ≤ 20) : wp_Reader_follow 40 f I A post ↔ post (if mv (I 14) (I 22) 16 ∧ I 17 = 0 then 6 else -1) I A := by
  unfold wp_Reader_follow
  simp (decide := true) only [may_iff _ h0 h1, b2_0, true_implies, false_implies, implies_true, and_true, true_and, not_true_eq_false, not_false_eq_true]
  rw [← ifp (post := post)]; grind
theorem fol_close (h0 : 0 ≤ I 14) (h1 : I 14 ≤ 20) : wp_Reader_follow 93 f I A post ↔ post (if mv (I 14) (I 22) 2048 then 14 else -1) I A := by
  unfold wp_Reader_follow
  simp (decide := true) only [may_iff _ h0 h1, b2_0, true_implies, false_implies, implies_true, and_true, true_and, not_true_eq_false, not_false_eq_true]
  rw [← ifp (post := post)]; grind
theorem fol_z (h0 : 0 ≤ I 14) (h1 : I 14 ≤ 20) : wp_Reader_follow 122 f I A post ↔ post (if mv (I 14) (I 22) 32 then 14 else -1) I A := by
  unfold wp_Reader_follow
  simp (decide := true) only [may_iff _ h0 h1, b2_0, true_implies, false_implies, implies_true, and_true, true_and, not_true_eq_false, not_false_eq_true]
  rw [← ifp (post := post)]; grind
theorem fol_sharp (h0 : 0 ≤ I 14) (h1 : I 14 ≤ 20) : wp_Reader_follow 94 f I A post ↔ post (if mv (I 14) (I 22) 128 ∧ I 19 = 94 then 10 else if mv (I 14) (I 22) 64 then 9 else -1) I A := by
  unfold wp_Reader_follow
  simp (decide := true) only [may_iff _ h0 h1, b2_0, true_implies, false_implies, implies_true, and_true, true_and, not_true_eq_false, not_false_eq_true]
  by_cases h : mv (I 14) (I 22) 128 ∧ I 19 = 94
  · rw [if_pos h]; grind
  · rw [if_neg h, ← ifp (post := post)]; grind
theorem fol_flat (h0 : 0 ≤ I 14) (h1 : I 14 ≤ 20) : wp_Reader_follow 95 f I A post ↔ post (if mv (I 14) (I 22) 128 ∧ I 19 = 95 then 10 else if mv (I 14) (I 22) 64 then 9 else -1) I A := by
  unfold wp_Reader_follow
  simp (decide := true) only [may_iff _ h0 h1, b2_0, true_implies, false_implies, implies_true, and_true, true_and, not_true_eq_false, not_false_eq_true]
  by_cases h : mv (I 14) (I 22) 128 ∧ I 19 = 95
  · rw [if_pos h]; grind
  · rw [if_neg h, ← ifp (post := post)]; grind
theorem fol_eq (h0 : 0 ≤ I 14) (h1 : I 14 ≤ 20) : wp_Reader_follow 61 f I A post ↔ post (if mv (I 14) (I 22) 64 then 10 else -1) I A := by
  unfold wp_Reader_follow
  simp (decide := true) only [may_iff _ h0 h1, b2_0, true_implies, false_implies, implies_true, and_true, true_and, not_true_eq_false, not_false_eq_true]
  rw [← ifp (post := post)]; grind
theorem fol_up (h0 : 0 ≤ I 14) (h1 : I 14 ≤ 20) : wp_Reader_follow 39 f I A post ↔ post (if mv (I 14) (I 22) 512 then 12 else -1) I A := by
  unfold wp_Reader_follow
  simp (decide := true) only [may_iff _ h0 h1, b2_0, true_implies, false_implies, implies_true, and_true, true_and, not_true_eq_false, not_false_eq_true]
  rw [← ifp (post := post)]; grind
theorem fol_down (h0 : 0 ≤ I 14) (h1 : I 14 ≤ 20) : wp_Reader_follow 44 f I A post ↔ post (if mv (I 14) (I 22) 1024 then 13 else -1) I A := by
  unfold wp_Reader_follow
  simp (decide := true) only [may_iff _ h0 h1, b2_0, true_implies, false_implies, implies_true, and_true, true_and, not_true_eq_false, not_false_eq_true]
  rw [← ifp (post := post)]; grind
theorem fol_slash (h0 : 0 ≤ I 14) (h1 : I 14 ≤ 20) : wp_Reader_follow 47 f I A post ↔ post (if mv (I 14) (I 22) 8192 then 16 else -1) I A := by
  unfold wp_Reader_follow
  simp (decide := true) only [may_iff _ h0 h1, b2_0, true_implies, false_implies, implies_true, and_true, true_and, not_true_eq_false, not_false_eq_true]
  rw [← ifp (post := post)]; grind
theorem fol_dash_no (h0 : 0 ≤ I 14) (h1 : I 14 ≤ 20) (h : ¬ mv (I 14) (I 22) 16384) : wp_Reader_follow 45 f I A post ↔ post (-1) I A := by
  unfold wp_Reader_follow
  simp (decide := true) only [may_iff _ h0 h1, b2_0, true_implies, false_implies, implies_true, and_true, true_and, not_true_eq_false, not_false_eq_true]
  grind
theorem fol_dash (h0 : 0 ≤ I 14) (h1 : I 14 ≤ 20) (h : mv (I 14) (I 22) 16384) {ic : Nat} (hi : I 1 = nI (ic + 1)) (hic : ic < 48) : wp_Reader_follow 45 f I A post ↔ post (if A 9 ic = I 2 then -1 else 18) I A := by
  unfold wp_Reader_follow wp_Tune_isRest
  have e1 : ¬ nI (ic + 1) = 0 := nI_ne0 (by omega) (by omega)
  have e2 : vp_in (nI ic) 49 := vp_in_nI (by omega) (by omega)
  have e3 : (nI ic).toNatClampNeg = ic := nI_clamp (by omega)
  simp (decide := true) only [may_iff _ h0 h1, b2_0, hi, nI_pred, e1, e2, e3, true_implies, false_implies, implies_true, and_true, true_and, not_true_eq_false, not_false_eq_true]
  by_cases h2 : A 9 ic = I 2
  · rw [if_pos h2]; grind
  · rw [if_neg h2]; grind
/-- the other characters: digits, letters, what is none of these -/
abbrev oth (c : Int32) : Prop := ¬ c = 0 ∧ ¬ c = 32 ∧ ¬ c = 39 ∧ ¬ c = 40 ∧ ¬ c = 44 ∧ ¬ c = 45 ∧ ¬ c = 47 ∧ ¬ c = 58 ∧ ¬ c = 61 ∧ ¬ c = 91 ∧ ¬ c = 93 ∧ ¬ c = 94 ∧ ¬ c = 95 ∧ ¬ c = 122 ∧ ¬ c = 124
abbrev folD (st dg c : Int32) : Int32 := if st = 4 then (if c = 49 ∨ c = 50 then 5 else -1) else if st = 6 then (if c = 51 then 7 else -1) else if dg < 3 then (if st = 16 ∨ st = 17 then 17 else 15) else -1
theorem fol_dig {c : Int32} (h0 : 0 ≤ I 14) (h1 : I 14 ≤ 20) (hd : dig c) (h : mv (I 14) (I 22) 4096) : wp_Reader_follow c f I A post ↔ post (folD (I 14) (I 11) c) I A := by
  have ho : oth c := by refine ⟨?_, ?_, ?_, ?_, ?_, ?_, ?_, ?_, ?_, ?_, ?_, ?_, ?_, ?_, ?_⟩ <;> grind
  obtain ⟨o1, o2, o3, o4, o5, o6, o7, o8, o9, o10, o11, o12, o13, o14, o15⟩ := ho
  unfold wp_Reader_follow wp_Reader_followOther wp_Reader_followDigit
  have hb : ¬ b2 (dig c) = 0 := by rw [b2_0]; exact fun z => z hd
  have hm : ¬ b2 (mv (I 14) (I 22) 4096) = 0 := by rw [b2_0]; exact fun z => z h
  simp only [isDigit_iff, may_iff _ h0 h1, takesDigit_iff, hb, hm, b2_0, o1, o2, o3, o4, o5, o6, o7, o8, o9, o10, o11, o12, o13, o14, o15, true_implies, false_implies, implies_true, and_true, true_and, not_true_eq_false, not_false_eq_true]
  unfold folD
  by_cases h4 : I 14 = 4
  · rw [if_pos h4]
    by_cases h5 : c = 49
    · rw [if_pos (Or.inl h5)]; grind
    · by_cases h6 : c = 50
      · rw [if_pos (Or.inr h6)]; grind
      · rw [if_neg (fun z => by rcases z with e | e; exact h5 e; exact h6 e)]; grind
  · rw [if_neg h4]
    by_cases h6 : I 14 = 6
    · rw [if_pos h6, ← ifp (post := post)]; grind
    · rw [if_neg h6]
      by_cases h7 : I 11 < 3
      · rw [if_pos h7]
        by_cases h8 : I 14 = 16
        · rw [if_pos (Or.inl h8)]; grind
        · by_cases h9 : I 14 = 17
          · rw [if_pos (Or.inr h9)]; grind
          · rw [if_neg (fun z => by rcases z with e | e; exact h8 e; exact h9 e)]; grind
      · rw [if_neg h7]; grind
theorem fol_dig_no {c : Int32} (h0 : 0 ≤ I 14) (h1 : I 14 ≤ 20) (hd : dig c) (h : ¬ mv (I 14) (I 22) 4096) : wp_Reader_follow c f I A post ↔ post (-1) I A := by
  have ho : oth c := by refine ⟨?_, ?_, ?_, ?_, ?_, ?_, ?_, ?_, ?_, ?_, ?_, ?_, ?_, ?_, ?_⟩ <;> grind
  obtain ⟨o1, o2, o3, o4, o5, o6, o7, o8, o9, o10, o11, o12, o13, o14, o15⟩ := ho
  unfold wp_Reader_follow wp_Reader_followOther wp_Reader_followOther_23
  have hb : ¬ b2 (dig c) = 0 := by rw [b2_0]; exact fun z => z hd
  have hm : b2 (mv (I 14) (I 22) 4096) = 0 := by rw [b2_0]; exact h
  have hl : b2 (ltr c) = 0 := by rw [b2_0]; intro z; rcases z with z | z <;> grind
  simp only [isDigit_iff, isNoteLetter_iff, may_iff _ h0 h1, hb, hm, hl, o1, o2, o3, o4, o5, o6, o7, o8, o9, o10, o11, o12, o13, o14, o15, true_implies, false_implies, implies_true, and_true, true_and, not_true_eq_false, not_false_eq_true]
theorem fol_ltr {c : Int32} (h0 : 0 ≤ I 14) (h1 : I 14 ≤ 20) (hl : ltr c) : wp_Reader_follow c f I A post ↔ post (if mv (I 14) (I 22) 320 then 11 else -1) I A := by
  have ho : oth c := by rcases hl with hl | hl <;> (refine ⟨?_, ?_, ?_, ?_, ?_, ?_, ?_, ?_, ?_, ?_, ?_, ?_, ?_, ?_, ?_⟩ <;> grind)
  obtain ⟨o1, o2, o3, o4, o5, o6, o7, o8, o9, o10, o11, o12, o13, o14, o15⟩ := ho
  unfold wp_Reader_follow wp_Reader_followOther wp_Reader_followOther_23
  have hb : b2 (dig c) = 0 := by rw [b2_0]; intro z; rcases hl with hl | hl <;> grind
  have hl : ¬ b2 (ltr c) = 0 := by rw [b2_0]; exact fun z => z hl
  simp only [isDigit_iff, isNoteLetter_iff, may_iff _ h0 h1, hb, hl, b2_0, o1, o2, o3, o4, o5, o6, o7, o8, o9, o10, o11, o12, o13, o14, o15, true_implies, false_implies, implies_true, and_true, true_and, not_true_eq_false, not_false_eq_true]
  rw [← ifp (post := post)]; grind
theorem fol_none {c : Int32} (h0 : 0 ≤ I 14) (h1 : I 14 ≤ 20) (ho : oth c) (hd : ¬ dig c) (hl : ¬ ltr c) : wp_Reader_follow c f I A post ↔ post (-1) I A := by
  obtain ⟨o1, o2, o3, o4, o5, o6, o7, o8, o9, o10, o11, o12, o13, o14, o15⟩ := ho
  unfold wp_Reader_follow wp_Reader_followOther wp_Reader_followOther_23
  have hb : b2 (dig c) = 0 := by rw [b2_0]; exact hd
  have hl : b2 (ltr c) = 0 := by rw [b2_0]; exact hl
  simp only [isDigit_iff, isNoteLetter_iff, may_iff _ h0 h1, hb, hl, o1, o2, o3, o4, o5, o6, o7, o8, o9, o10, o11, o12, o13, o14, o15, true_implies, false_implies, implies_true, and_true, true_and, not_true_eq_false, not_false_eq_true]
end FO

/-! where a character leads, by the state -/
def nv (c : Int32) : Int32 := if c = 94 then 9 else if c = 95 then 9 else if c = 61 then 10 else 11
def cv (c : Int32) : Int32 := if c = 91 then 8 else if c = 122 then 14 else nv c
def bv (c : Int32) : Int32 := if c = 40 then 6 else cv c
def insF (tl c : Int32) : Int32 := if c = 32 then 19 else if c = 124 then 1 else if c = 58 then 2 else if biE c ∧ ¬ (c = 40 ∧ ¬ tl = 0) then bv c else -1
theorem oth_dig {c : Int32} (hd : dig c) : oth c := by refine ⟨?_, ?_, ?_, ?_, ?_, ?_, ?_, ?_, ?_, ?_, ?_, ?_, ?_, ?_, ?_⟩ <;> grind
theorem oth_ltr {c : Int32} (hl : ltr c) : oth c := by rcases hl with hl | hl <;> (refine ⟨?_, ?_, ?_, ?_, ?_, ?_, ?_, ?_, ?_, ?_, ?_, ?_, ?_, ?_, ?_⟩ <;> grind)
theorem ltr_dig {c : Int32} (hl : ltr c) : ¬ dig c := by intro z; rcases hl with hl | hl <;> grind
theorem bnE_l {c : Int32} (hl : ltr c) : bnE c := Or.inr (Or.inr (Or.inr hl))
theorem biE_n {c : Int32} (h : bnE c) : biE c := Or.inr (Or.inr (Or.inr h))
theorem nv_l {c : Int32} (hl : ltr c) : nv c = 11 := by
  obtain ⟨o1, o2, o3, o4, o5, o6, o7, o8, o9, o10, o11, o12, o13, o14, o15⟩ := oth_ltr hl
  unfold nv; rw [if_neg o12, if_neg o13, if_neg o9]
theorem cv_n {c : Int32} (h : bnE c) : cv c = nv c := by
  unfold cv
  rw [if_neg (fun z => by subst z; revert h; decide), if_neg (fun z => by subst z; revert h; decide)]
theorem bv_c {c : Int32} (h : ¬ c = 40) : bv c = cv c := if_neg h
theorem bv_l {c : Int32} (hl : ltr c) : bv c = 11 := by
  rw [bv_c (oth_ltr hl).2.2.2.1, cv_n (bnE_l hl), nv_l hl]
theorem bnE_oth {c : Int32} (ho : oth c) (hl : ¬ ltr c) : ¬ bnE c := by
  obtain ⟨o1, o2, o3, o4, o5, o6, o7, o8, o9, o10, o11, o12, o13, o14, o15⟩ := ho
  intro h; rcases h with h | h | h | h
  · exact o12 h
  · exact o13 h
  · exact o9 h
  · exact hl h
theorem biE_oth {c : Int32} (ho : oth c) (hl : ¬ ltr c) : ¬ biE c := by
  have hb := bnE_oth ho hl
  obtain ⟨o1, o2, o3, o4, o5, o6, o7, o8, o9, o10, o11, o12, o13, o14, o15⟩ := ho
  intro h; rcases h with h | h | h | h
  · exact o4 h
  · exact o10 h
  · exact o14 h
  · exact hb h
section FS
variable {ch ib tl ls dg b0 rs c f : Int32}
theorem F_0  : folF 0 ch ib 0 ls dg b0 rs c f = if c = 32 then 0 else if c = 124 then 1 else if c = 58 then 2 else if biE c then (if c = 91 ∧ (f = 49 ∨ f = 50) then 4 else bv c) else -1 := by
  have hm : mayV 0 ch = 123 := by unfold mayV; rw [if_neg (by decide)]; decide
  unfold folF 
  simp (decide := true) only [mv, hm, not_false_eq_true, not_true_eq_false, true_and, false_and, and_true, and_false, if_true, if_false]
  by_cases c0 : c = 0
  · subst c0; simp (decide := true) [bv, cv, nv, insF, folD]
  by_cases c1 : c = 32
  · subst c1; simp (decide := true) [bv, cv, nv, insF, folD]
  by_cases c2 : c = 124
  · subst c2; simp (decide := true) [bv, cv, nv, insF, folD]
  by_cases c3 : c = 58
  · subst c3; simp (decide := true) [bv, cv, nv, insF, folD]
  by_cases c4 : c = 91
  · subst c4; simp (decide := true) [bv, cv, nv, insF, folD]
  by_cases c5 : c = 40
  · subst c5; simp (decide := true) [bv, cv, nv, insF, folD]
  by_cases c6 : c = 93
  · subst c6; simp (decide := true) [bv, cv, nv, insF, folD]
  by_cases c7 : c = 122
  · subst c7; simp (decide := true) [bv, cv, nv, insF, folD]
  by_cases c8 : c = 94
  · subst c8; simp (decide := true) [bv, cv, nv, insF, folD]
  by_cases c9 : c = 95
  · subst c9; simp (decide := true) [bv, cv, nv, insF, folD]
  by_cases c10 : c = 61
  · subst c10; simp (decide := true) [bv, cv, nv, insF, folD]
  by_cases c11 : c = 39
  · subst c11; simp (decide := true) [bv, cv, nv, insF, folD]
  by_cases c12 : c = 44
  · subst c12; simp (decide := true) [bv, cv, nv, insF, folD]
  by_cases c13 : c = 47
  · subst c13; simp (decide := true) [bv, cv, nv, insF, folD]
  by_cases c14 : c = 45
  · subst c14; simp (decide := true) [bv, cv, nv, insF, folD]
  have ho : oth c := ⟨c0, c1, c11, c5, c12, c14, c13, c3, c10, c4, c6, c8, c9, c7, c2⟩
  simp only [c0, c1, c2, c3, c4, c5, c6, c7, c8, c9, c10, c11, c12, c13, c14, if_false, false_and, or_false, false_or, ite_self]
  by_cases d : dig c
  · have l : ¬ ltr c := fun l => ltr_dig l d
    have e1 := bnE_oth ho l
    have e2 := biE_oth ho l
    simp (decide := true) [d, l, e1, e2, insF, folD, c1, c2, c3] <;> grind
  · by_cases l : ltr c
    · have e1 := bnE_l l
      have e2 := biE_n e1
      have e3 := bv_l l
      simp (decide := true) [d, l, e1, e2, e3, insF, c1, c2, c3, c4, c5] <;> grind
    · have e1 := bnE_oth ho l
      have e2 := biE_oth ho l
      simp (decide := true) [d, l, e1, e2, insF, c1, c2, c3, c4, c5] <;> grind
theorem F_1  : folF 1 ch 0 0 ls dg b0 rs c f = if c = 0 then (if b0 ≤ 0 then -1 else 20) else if c = 32 then 3 else if c = 124 ∨ c = 58 then 3 else if biE c then (if c = 91 ∧ (f = 49 ∨ f = 50) then 4 else bv c) else -1 := by
  have hm : mayV 1 ch = 32893 := by unfold mayV; rw [if_neg (by decide)]; decide
  unfold folF 
  simp (decide := true) only [mv, hm, not_false_eq_true, not_true_eq_false, true_and, false_and, and_true, and_false, if_true, if_false]
  by_cases c0 : c = 0
  · subst c0; simp (decide := true) [bv, cv, nv, insF, folD]
  by_cases c1 : c = 32
  · subst c1; simp (decide := true) [bv, cv, nv, insF, folD]
  by_cases c2 : c = 124
  · subst c2; simp (decide := true) [bv, cv, nv, insF, folD]
  by_cases c3 : c = 58
  · subst c3; simp (decide := true) [bv, cv, nv, insF, folD]
  by_cases c4 : c = 91
  · subst c4; simp (decide := true) [bv, cv, nv, insF, folD]
  by_cases c5 : c = 40
  · subst c5; simp (decide := true) [bv, cv, nv, insF, folD]
  by_cases c6 : c = 93
  · subst c6; simp (decide := true) [bv, cv, nv, insF, folD]
  by_cases c7 : c = 122
  · subst c7; simp (decide := true) [bv, cv, nv, insF, folD]
  by_cases c8 : c = 94
  · subst c8; simp (decide := true) [bv, cv, nv, insF, folD]
  by_cases c9 : c = 95
  · subst c9; simp (decide := true) [bv, cv, nv, insF, folD]
  by_cases c10 : c = 61
  · subst c10; simp (decide := true) [bv, cv, nv, insF, folD]
  by_cases c11 : c = 39
  · subst c11; simp (decide := true) [bv, cv, nv, insF, folD]
  by_cases c12 : c = 44
  · subst c12; simp (decide := true) [bv, cv, nv, insF, folD]
  by_cases c13 : c = 47
  · subst c13; simp (decide := true) [bv, cv, nv, insF, folD]
  by_cases c14 : c = 45
  · subst c14; simp (decide := true) [bv, cv, nv, insF, folD]
  have ho : oth c := ⟨c0, c1, c11, c5, c12, c14, c13, c3, c10, c4, c6, c8, c9, c7, c2⟩
  simp only [c0, c1, c2, c3, c4, c5, c6, c7, c8, c9, c10, c11, c12, c13, c14, if_false, false_and, or_false, false_or, ite_self]
  by_cases d : dig c
  · have l : ¬ ltr c := fun l => ltr_dig l d
    have e1 := bnE_oth ho l
    have e2 := biE_oth ho l
    simp (decide := true) [d, l, e1, e2, insF, folD, c1, c2, c3] <;> grind
  · by_cases l : ltr c
    · have e1 := bnE_l l
      have e2 := biE_n e1
      have e3 := bv_l l
      simp (decide := true) [d, l, e1, e2, e3, insF, c1, c2, c3, c4, c5] <;> grind
    · have e1 := bnE_oth ho l
      have e2 := biE_oth ho l
      simp (decide := true) [d, l, e1, e2, insF, c1, c2, c3, c4, c5] <;> grind
theorem F_3  : folF 3 ch 0 0 ls dg b0 rs c f = if c = 0 then (if b0 ≤ 0 then -1 else 20) else if c = 32 then 3 else if biE c then (if c = 91 ∧ (f = 49 ∨ f = 50) then 4 else bv c) else -1 := by
  have hm : mayV 3 ch = 32889 := by unfold mayV; rw [if_neg (by decide)]; decide
  unfold folF 
  simp (decide := true) only [mv, hm, not_false_eq_true, not_true_eq_false, true_and, false_and, and_true, and_false, if_true, if_false]
  by_cases c0 : c = 0
  · subst c0; simp (decide := true) [bv, cv, nv, insF, folD]
  by_cases c1 : c = 32
  · subst c1; simp (decide := true) [bv, cv, nv, insF, folD]
  by_cases c2 : c = 124
  · subst c2; simp (decide := true) [bv, cv, nv, insF, folD]
  by_cases c3 : c = 58
  · subst c3; simp (decide := true) [bv, cv, nv, insF, folD]
  by_cases c4 : c = 91
  · subst c4; simp (decide := true) [bv, cv, nv, insF, folD]
  by_cases c5 : c = 40
  · subst c5; simp (decide := true) [bv, cv, nv, insF, folD]
  by_cases c6 : c = 93
  · subst c6; simp (decide := true) [bv, cv, nv, insF, folD]
  by_cases c7 : c = 122
  · subst c7; simp (decide := true) [bv, cv, nv, insF, folD]
  by_cases c8 : c = 94
  · subst c8; simp (decide := true) [bv, cv, nv, insF, folD]
  by_cases c9 : c = 95
  · subst c9; simp (decide := true) [bv, cv, nv, insF, folD]
  by_cases c10 : c = 61
  · subst c10; simp (decide := true) [bv, cv, nv, insF, folD]
  by_cases c11 : c = 39
  · subst c11; simp (decide := true) [bv, cv, nv, insF, folD]
  by_cases c12 : c = 44
  · subst c12; simp (decide := true) [bv, cv, nv, insF, folD]
  by_cases c13 : c = 47
  · subst c13; simp (decide := true) [bv, cv, nv, insF, folD]
  by_cases c14 : c = 45
  · subst c14; simp (decide := true) [bv, cv, nv, insF, folD]
  have ho : oth c := ⟨c0, c1, c11, c5, c12, c14, c13, c3, c10, c4, c6, c8, c9, c7, c2⟩
  simp only [c0, c1, c2, c3, c4, c5, c6, c7, c8, c9, c10, c11, c12, c13, c14, if_false, false_and, or_false, false_or, ite_self]
  by_cases d : dig c
  · have l : ¬ ltr c := fun l => ltr_dig l d
    have e1 := bnE_oth ho l
    have e2 := biE_oth ho l
    simp (decide := true) [d, l, e1, e2, insF, folD, c1, c2, c3] <;> grind
  · by_cases l : ltr c
    · have e1 := bnE_l l
      have e2 := biE_n e1
      have e3 := bv_l l
      simp (decide := true) [d, l, e1, e2, e3, insF, c1, c2, c3, c4, c5] <;> grind
    · have e1 := bnE_oth ho l
      have e2 := biE_oth ho l
      simp (decide := true) [d, l, e1, e2, insF, c1, c2, c3, c4, c5] <;> grind
theorem F_2  : folF 2 ch ib tl ls dg b0 rs c f = if c = 124 ∨ c = 58 then 3 else -1 := by
  have hm : mayV 2 ch = 4 := by unfold mayV; rw [if_neg (by decide)]; decide
  unfold folF 
  simp (decide := true) only [mv, hm, not_false_eq_true, not_true_eq_false, true_and, false_and, and_true, and_false, if_true, if_false]
  by_cases c0 : c = 0
  · subst c0; simp (decide := true) [bv, cv, nv, insF, folD]
  by_cases c1 : c = 32
  · subst c1; simp (decide := true) [bv, cv, nv, insF, folD]
  by_cases c2 : c = 124
  · subst c2; simp (decide := true) [bv, cv, nv, insF, folD]
  by_cases c3 : c = 58
  · subst c3; simp (decide := true) [bv, cv, nv, insF, folD]
  by_cases c4 : c = 91
  · subst c4; simp (decide := true) [bv, cv, nv, insF, folD]
  by_cases c5 : c = 40
  · subst c5; simp (decide := true) [bv, cv, nv, insF, folD]
  by_cases c6 : c = 93
  · subst c6; simp (decide := true) [bv, cv, nv, insF, folD]
  by_cases c7 : c = 122
  · subst c7; simp (decide := true) [bv, cv, nv, insF, folD]
  by_cases c8 : c = 94
  · subst c8; simp (decide := true) [bv, cv, nv, insF, folD]
  by_cases c9 : c = 95
  · subst c9; simp (decide := true) [bv, cv, nv, insF, folD]
  by_cases c10 : c = 61
  · subst c10; simp (decide := true) [bv, cv, nv, insF, folD]
  by_cases c11 : c = 39
  · subst c11; simp (decide := true) [bv, cv, nv, insF, folD]
  by_cases c12 : c = 44
  · subst c12; simp (decide := true) [bv, cv, nv, insF, folD]
  by_cases c13 : c = 47
  · subst c13; simp (decide := true) [bv, cv, nv, insF, folD]
  by_cases c14 : c = 45
  · subst c14; simp (decide := true) [bv, cv, nv, insF, folD]
  have ho : oth c := ⟨c0, c1, c11, c5, c12, c14, c13, c3, c10, c4, c6, c8, c9, c7, c2⟩
  simp only [c0, c1, c2, c3, c4, c5, c6, c7, c8, c9, c10, c11, c12, c13, c14, if_false, false_and, or_false, false_or, ite_self]
theorem F_5  : folF 5 ch ib 0 ls dg b0 rs c f = if c = 32 then 5 else if biE c then bv c else -1 := by
  have hm : mayV 5 ch = 113 := by unfold mayV; rw [if_neg (by decide)]; decide
  unfold folF 
  simp (decide := true) only [mv, hm, not_false_eq_true, not_true_eq_false, true_and, false_and, and_true, and_false, if_true, if_false]
  by_cases c0 : c = 0
  · subst c0; simp (decide := true) [bv, cv, nv, insF, folD]
  by_cases c1 : c = 32
  · subst c1; simp (decide := true) [bv, cv, nv, insF, folD]
  by_cases c2 : c = 124
  · subst c2; simp (decide := true) [bv, cv, nv, insF, folD]
  by_cases c3 : c = 58
  · subst c3; simp (decide := true) [bv, cv, nv, insF, folD]
  by_cases c4 : c = 91
  · subst c4; simp (decide := true) [bv, cv, nv, insF, folD]
  by_cases c5 : c = 40
  · subst c5; simp (decide := true) [bv, cv, nv, insF, folD]
  by_cases c6 : c = 93
  · subst c6; simp (decide := true) [bv, cv, nv, insF, folD]
  by_cases c7 : c = 122
  · subst c7; simp (decide := true) [bv, cv, nv, insF, folD]
  by_cases c8 : c = 94
  · subst c8; simp (decide := true) [bv, cv, nv, insF, folD]
  by_cases c9 : c = 95
  · subst c9; simp (decide := true) [bv, cv, nv, insF, folD]
  by_cases c10 : c = 61
  · subst c10; simp (decide := true) [bv, cv, nv, insF, folD]
  by_cases c11 : c = 39
  · subst c11; simp (decide := true) [bv, cv, nv, insF, folD]
  by_cases c12 : c = 44
  · subst c12; simp (decide := true) [bv, cv, nv, insF, folD]
  by_cases c13 : c = 47
  · subst c13; simp (decide := true) [bv, cv, nv, insF, folD]
  by_cases c14 : c = 45
  · subst c14; simp (decide := true) [bv, cv, nv, insF, folD]
  have ho : oth c := ⟨c0, c1, c11, c5, c12, c14, c13, c3, c10, c4, c6, c8, c9, c7, c2⟩
  simp only [c0, c1, c2, c3, c4, c5, c6, c7, c8, c9, c10, c11, c12, c13, c14, if_false, false_and, or_false, false_or, ite_self]
  by_cases d : dig c
  · have l : ¬ ltr c := fun l => ltr_dig l d
    have e1 := bnE_oth ho l
    have e2 := biE_oth ho l
    simp (decide := true) [d, l, e1, e2, insF, folD, c1, c2, c3] <;> grind
  · by_cases l : ltr c
    · have e1 := bnE_l l
      have e2 := biE_n e1
      have e3 := bv_l l
      simp (decide := true) [d, l, e1, e2, e3, insF, c1, c2, c3, c4, c5] <;> grind
    · have e1 := bnE_oth ho l
      have e2 := biE_oth ho l
      simp (decide := true) [d, l, e1, e2, insF, c1, c2, c3, c4, c5] <;> grind
theorem F_6  : folF 6 ch ib tl ls dg b0 rs c f = if c = 51 then 7 else -1 := by
  have hm : mayV 6 ch = 4096 := by unfold mayV; rw [if_neg (by decide)]; decide
  unfold folF 
  simp (decide := true) only [mv, hm, not_false_eq_true, not_true_eq_false, true_and, false_and, and_true, and_false, if_true, if_false]
  by_cases c0 : c = 0
  · subst c0; simp (decide := true) [bv, cv, nv, insF, folD]
  by_cases c1 : c = 32
  · subst c1; simp (decide := true) [bv, cv, nv, insF, folD]
  by_cases c2 : c = 124
  · subst c2; simp (decide := true) [bv, cv, nv, insF, folD]
  by_cases c3 : c = 58
  · subst c3; simp (decide := true) [bv, cv, nv, insF, folD]
  by_cases c4 : c = 91
  · subst c4; simp (decide := true) [bv, cv, nv, insF, folD]
  by_cases c5 : c = 40
  · subst c5; simp (decide := true) [bv, cv, nv, insF, folD]
  by_cases c6 : c = 93
  · subst c6; simp (decide := true) [bv, cv, nv, insF, folD]
  by_cases c7 : c = 122
  · subst c7; simp (decide := true) [bv, cv, nv, insF, folD]
  by_cases c8 : c = 94
  · subst c8; simp (decide := true) [bv, cv, nv, insF, folD]
  by_cases c9 : c = 95
  · subst c9; simp (decide := true) [bv, cv, nv, insF, folD]
  by_cases c10 : c = 61
  · subst c10; simp (decide := true) [bv, cv, nv, insF, folD]
  by_cases c11 : c = 39
  · subst c11; simp (decide := true) [bv, cv, nv, insF, folD]
  by_cases c12 : c = 44
  · subst c12; simp (decide := true) [bv, cv, nv, insF, folD]
  by_cases c13 : c = 47
  · subst c13; simp (decide := true) [bv, cv, nv, insF, folD]
  by_cases c14 : c = 45
  · subst c14; simp (decide := true) [bv, cv, nv, insF, folD]
  have ho : oth c := ⟨c0, c1, c11, c5, c12, c14, c13, c3, c10, c4, c6, c8, c9, c7, c2⟩
  simp only [c0, c1, c2, c3, c4, c5, c6, c7, c8, c9, c10, c11, c12, c13, c14, if_false, false_and, or_false, false_or, ite_self]
  by_cases d : dig c
  · have l : ¬ ltr c := fun l => ltr_dig l d
    have e1 := bnE_oth ho l
    have e2 := biE_oth ho l
    simp (decide := true) [d, l, e1, e2, insF, folD, c1, c2, c3] <;> grind
  · by_cases l : ltr c
    · have e1 := bnE_l l
      have e2 := biE_n e1
      have e3 := bv_l l
      simp (decide := true) [d, l, e1, e2, e3, insF, c1, c2, c3, c4, c5] <;> grind
    · have e1 := bnE_oth ho l
      have e2 := biE_oth ho l
      simp (decide := true) [d, l, e1, e2, insF, c1, c2, c3, c4, c5] <;> grind
theorem F_7  : folF 7 ch ib tl ls dg b0 rs c f = if c = 91 ∨ c = 122 ∨ bnE c then bv c else -1 := by
  have hm : mayV 7 ch = 96 := by unfold mayV; rw [if_neg (by decide)]; decide
  unfold folF 
  simp (decide := true) only [mv, hm, not_false_eq_true, not_true_eq_false, true_and, false_and, and_true, and_false, if_true, if_false]
  by_cases c0 : c = 0
  · subst c0; simp (decide := true) [bv, cv, nv, insF, folD]
  by_cases c1 : c = 32
  · subst c1; simp (decide := true) [bv, cv, nv, insF, folD]
  by_cases c2 : c = 124
  · subst c2; simp (decide := true) [bv, cv, nv, insF, folD]
  by_cases c3 : c = 58
  · subst c3; simp (decide := true) [bv, cv, nv, insF, folD]
  by_cases c4 : c = 91
  · subst c4; simp (decide := true) [bv, cv, nv, insF, folD]
  by_cases c5 : c = 40
  · subst c5; simp (decide := true) [bv, cv, nv, insF, folD]
  by_cases c6 : c = 93
  · subst c6; simp (decide := true) [bv, cv, nv, insF, folD]
  by_cases c7 : c = 122
  · subst c7; simp (decide := true) [bv, cv, nv, insF, folD]
  by_cases c8 : c = 94
  · subst c8; simp (decide := true) [bv, cv, nv, insF, folD]
  by_cases c9 : c = 95
  · subst c9; simp (decide := true) [bv, cv, nv, insF, folD]
  by_cases c10 : c = 61
  · subst c10; simp (decide := true) [bv, cv, nv, insF, folD]
  by_cases c11 : c = 39
  · subst c11; simp (decide := true) [bv, cv, nv, insF, folD]
  by_cases c12 : c = 44
  · subst c12; simp (decide := true) [bv, cv, nv, insF, folD]
  by_cases c13 : c = 47
  · subst c13; simp (decide := true) [bv, cv, nv, insF, folD]
  by_cases c14 : c = 45
  · subst c14; simp (decide := true) [bv, cv, nv, insF, folD]
  have ho : oth c := ⟨c0, c1, c11, c5, c12, c14, c13, c3, c10, c4, c6, c8, c9, c7, c2⟩
  simp only [c0, c1, c2, c3, c4, c5, c6, c7, c8, c9, c10, c11, c12, c13, c14, if_false, false_and, or_false, false_or, ite_self]
  by_cases d : dig c
  · have l : ¬ ltr c := fun l => ltr_dig l d
    have e1 := bnE_oth ho l
    have e2 := biE_oth ho l
    simp (decide := true) [d, l, e1, e2, insF, folD, c1, c2, c3] <;> grind
  · by_cases l : ltr c
    · have e1 := bnE_l l
      have e2 := biE_n e1
      have e3 := bv_l l
      simp (decide := true) [d, l, e1, e2, e3, insF, c1, c2, c3, c4, c5] <;> grind
    · have e1 := bnE_oth ho l
      have e2 := biE_oth ho l
      simp (decide := true) [d, l, e1, e2, insF, c1, c2, c3, c4, c5] <;> grind
theorem F_8  : folF 8 ch ib tl ls dg b0 rs c f = if bnE c then bv c else -1 := by
  have hm : mayV 8 ch = 64 := by unfold mayV; rw [if_neg (by decide)]; decide
  unfold folF 
  simp (decide := true) only [mv, hm, not_false_eq_true, not_true_eq_false, true_and, false_and, and_true, and_false, if_true, if_false]
  by_cases c0 : c = 0
  · subst c0; simp (decide := true) [bv, cv, nv, insF, folD]
  by_cases c1 : c = 32
  · subst c1; simp (decide := true) [bv, cv, nv, insF, folD]
  by_cases c2 : c = 124
  · subst c2; simp (decide := true) [bv, cv, nv, insF, folD]
  by_cases c3 : c = 58
  · subst c3; simp (decide := true) [bv, cv, nv, insF, folD]
  by_cases c4 : c = 91
  · subst c4; simp (decide := true) [bv, cv, nv, insF, folD]
  by_cases c5 : c = 40
  · subst c5; simp (decide := true) [bv, cv, nv, insF, folD]
  by_cases c6 : c = 93
  · subst c6; simp (decide := true) [bv, cv, nv, insF, folD]
  by_cases c7 : c = 122
  · subst c7; simp (decide := true) [bv, cv, nv, insF, folD]
  by_cases c8 : c = 94
  · subst c8; simp (decide := true) [bv, cv, nv, insF, folD]
  by_cases c9 : c = 95
  · subst c9; simp (decide := true) [bv, cv, nv, insF, folD]
  by_cases c10 : c = 61
  · subst c10; simp (decide := true) [bv, cv, nv, insF, folD]
  by_cases c11 : c = 39
  · subst c11; simp (decide := true) [bv, cv, nv, insF, folD]
  by_cases c12 : c = 44
  · subst c12; simp (decide := true) [bv, cv, nv, insF, folD]
  by_cases c13 : c = 47
  · subst c13; simp (decide := true) [bv, cv, nv, insF, folD]
  by_cases c14 : c = 45
  · subst c14; simp (decide := true) [bv, cv, nv, insF, folD]
  have ho : oth c := ⟨c0, c1, c11, c5, c12, c14, c13, c3, c10, c4, c6, c8, c9, c7, c2⟩
  simp only [c0, c1, c2, c3, c4, c5, c6, c7, c8, c9, c10, c11, c12, c13, c14, if_false, false_and, or_false, false_or, ite_self]
  by_cases d : dig c
  · have l : ¬ ltr c := fun l => ltr_dig l d
    have e1 := bnE_oth ho l
    have e2 := biE_oth ho l
    simp (decide := true) [d, l, e1, e2, insF, folD, c1, c2, c3] <;> grind
  · by_cases l : ltr c
    · have e1 := bnE_l l
      have e2 := biE_n e1
      have e3 := bv_l l
      simp (decide := true) [d, l, e1, e2, e3, insF, c1, c2, c3, c4, c5] <;> grind
    · have e1 := bnE_oth ho l
      have e2 := biE_oth ho l
      simp (decide := true) [d, l, e1, e2, insF, c1, c2, c3, c4, c5] <;> grind
theorem F_9  : folF 9 ch ib tl ls dg b0 rs c f = if (c = 94 ∨ c = 95) ∧ ls = c then 10 else if ltr c then 11 else -1 := by
  have hm : mayV 9 ch = 384 := by unfold mayV; rw [if_neg (by decide)]; decide
  unfold folF 
  simp (decide := true) only [mv, hm, not_false_eq_true, not_true_eq_false, true_and, false_and, and_true, and_false, if_true, if_false]
  by_cases c0 : c = 0
  · subst c0; simp (decide := true) [bv, cv, nv, insF, folD]
  by_cases c1 : c = 32
  · subst c1; simp (decide := true) [bv, cv, nv, insF, folD]
  by_cases c2 : c = 124
  · subst c2; simp (decide := true) [bv, cv, nv, insF, folD]
  by_cases c3 : c = 58
  · subst c3; simp (decide := true) [bv, cv, nv, insF, folD]
  by_cases c4 : c = 91
  · subst c4; simp (decide := true) [bv, cv, nv, insF, folD]
  by_cases c5 : c = 40
  · subst c5; simp (decide := true) [bv, cv, nv, insF, folD]
  by_cases c6 : c = 93
  · subst c6; simp (decide := true) [bv, cv, nv, insF, folD]
  by_cases c7 : c = 122
  · subst c7; simp (decide := true) [bv, cv, nv, insF, folD]
  by_cases c8 : c = 94
  · subst c8; simp (decide := true) [bv, cv, nv, insF, folD]
  by_cases c9 : c = 95
  · subst c9; simp (decide := true) [bv, cv, nv, insF, folD]
  by_cases c10 : c = 61
  · subst c10; simp (decide := true) [bv, cv, nv, insF, folD]
  by_cases c11 : c = 39
  · subst c11; simp (decide := true) [bv, cv, nv, insF, folD]
  by_cases c12 : c = 44
  · subst c12; simp (decide := true) [bv, cv, nv, insF, folD]
  by_cases c13 : c = 47
  · subst c13; simp (decide := true) [bv, cv, nv, insF, folD]
  by_cases c14 : c = 45
  · subst c14; simp (decide := true) [bv, cv, nv, insF, folD]
  have ho : oth c := ⟨c0, c1, c11, c5, c12, c14, c13, c3, c10, c4, c6, c8, c9, c7, c2⟩
  simp only [c0, c1, c2, c3, c4, c5, c6, c7, c8, c9, c10, c11, c12, c13, c14, if_false, false_and, or_false, false_or, ite_self]
  by_cases d : dig c
  · have l : ¬ ltr c := fun l => ltr_dig l d
    have e1 := bnE_oth ho l
    have e2 := biE_oth ho l
    simp (decide := true) [d, l, e1, e2, insF, folD, c1, c2, c3] <;> grind
  · by_cases l : ltr c
    · have e1 := bnE_l l
      have e2 := biE_n e1
      have e3 := bv_l l
      simp (decide := true) [d, l, e1, e2, e3, insF, c1, c2, c3, c4, c5] <;> grind
    · have e1 := bnE_oth ho l
      have e2 := biE_oth ho l
      simp (decide := true) [d, l, e1, e2, insF, c1, c2, c3, c4, c5] <;> grind
theorem F_10  : folF 10 ch ib tl ls dg b0 rs c f = if ltr c then 11 else -1 := by
  have hm : mayV 10 ch = 256 := by unfold mayV; rw [if_neg (by decide)]; decide
  unfold folF 
  simp (decide := true) only [mv, hm, not_false_eq_true, not_true_eq_false, true_and, false_and, and_true, and_false, if_true, if_false]
  by_cases c0 : c = 0
  · subst c0; simp (decide := true) [bv, cv, nv, insF, folD]
  by_cases c1 : c = 32
  · subst c1; simp (decide := true) [bv, cv, nv, insF, folD]
  by_cases c2 : c = 124
  · subst c2; simp (decide := true) [bv, cv, nv, insF, folD]
  by_cases c3 : c = 58
  · subst c3; simp (decide := true) [bv, cv, nv, insF, folD]
  by_cases c4 : c = 91
  · subst c4; simp (decide := true) [bv, cv, nv, insF, folD]
  by_cases c5 : c = 40
  · subst c5; simp (decide := true) [bv, cv, nv, insF, folD]
  by_cases c6 : c = 93
  · subst c6; simp (decide := true) [bv, cv, nv, insF, folD]
  by_cases c7 : c = 122
  · subst c7; simp (decide := true) [bv, cv, nv, insF, folD]
  by_cases c8 : c = 94
  · subst c8; simp (decide := true) [bv, cv, nv, insF, folD]
  by_cases c9 : c = 95
  · subst c9; simp (decide := true) [bv, cv, nv, insF, folD]
  by_cases c10 : c = 61
  · subst c10; simp (decide := true) [bv, cv, nv, insF, folD]
  by_cases c11 : c = 39
  · subst c11; simp (decide := true) [bv, cv, nv, insF, folD]
  by_cases c12 : c = 44
  · subst c12; simp (decide := true) [bv, cv, nv, insF, folD]
  by_cases c13 : c = 47
  · subst c13; simp (decide := true) [bv, cv, nv, insF, folD]
  by_cases c14 : c = 45
  · subst c14; simp (decide := true) [bv, cv, nv, insF, folD]
  have ho : oth c := ⟨c0, c1, c11, c5, c12, c14, c13, c3, c10, c4, c6, c8, c9, c7, c2⟩
  simp only [c0, c1, c2, c3, c4, c5, c6, c7, c8, c9, c10, c11, c12, c13, c14, if_false, false_and, or_false, false_or, ite_self]
  by_cases d : dig c
  · have l : ¬ ltr c := fun l => ltr_dig l d
    have e1 := bnE_oth ho l
    have e2 := biE_oth ho l
    simp (decide := true) [d, l, e1, e2, insF, folD, c1, c2, c3] <;> grind
  · by_cases l : ltr c
    · have e1 := bnE_l l
      have e2 := biE_n e1
      have e3 := bv_l l
      simp (decide := true) [d, l, e1, e2, e3, insF, c1, c2, c3, c4, c5] <;> grind
    · have e1 := bnE_oth ho l
      have e2 := biE_oth ho l
      simp (decide := true) [d, l, e1, e2, insF, c1, c2, c3, c4, c5] <;> grind
theorem F_18  : folF 18 ch 1 tl ls dg b0 rs c f = insF tl c := by
  have hm : mayV 18 ch = 115 := by unfold mayV; rw [if_neg (by decide)]; decide
  unfold folF 
  simp (decide := true) only [mv, hm, not_false_eq_true, not_true_eq_false, true_and, false_and, and_true, and_false, if_true, if_false]
  by_cases c0 : c = 0
  · subst c0; simp (decide := true) [bv, cv, nv, insF, folD]
  by_cases c1 : c = 32
  · subst c1; simp (decide := true) [bv, cv, nv, insF, folD]
  by_cases c2 : c = 124
  · subst c2; simp (decide := true) [bv, cv, nv, insF, folD]
  by_cases c3 : c = 58
  · subst c3; simp (decide := true) [bv, cv, nv, insF, folD]
  by_cases c4 : c = 91
  · subst c4; simp (decide := true) [bv, cv, nv, insF, folD]
  by_cases c5 : c = 40
  · subst c5; simp (decide := true) [bv, cv, nv, insF, folD]
  by_cases c6 : c = 93
  · subst c6; simp (decide := true) [bv, cv, nv, insF, folD]
  by_cases c7 : c = 122
  · subst c7; simp (decide := true) [bv, cv, nv, insF, folD]
  by_cases c8 : c = 94
  · subst c8; simp (decide := true) [bv, cv, nv, insF, folD]
  by_cases c9 : c = 95
  · subst c9; simp (decide := true) [bv, cv, nv, insF, folD]
  by_cases c10 : c = 61
  · subst c10; simp (decide := true) [bv, cv, nv, insF, folD]
  by_cases c11 : c = 39
  · subst c11; simp (decide := true) [bv, cv, nv, insF, folD]
  by_cases c12 : c = 44
  · subst c12; simp (decide := true) [bv, cv, nv, insF, folD]
  by_cases c13 : c = 47
  · subst c13; simp (decide := true) [bv, cv, nv, insF, folD]
  by_cases c14 : c = 45
  · subst c14; simp (decide := true) [bv, cv, nv, insF, folD]
  have ho : oth c := ⟨c0, c1, c11, c5, c12, c14, c13, c3, c10, c4, c6, c8, c9, c7, c2⟩
  simp only [c0, c1, c2, c3, c4, c5, c6, c7, c8, c9, c10, c11, c12, c13, c14, if_false, false_and, or_false, false_or, ite_self]
  by_cases d : dig c
  · have l : ¬ ltr c := fun l => ltr_dig l d
    have e1 := bnE_oth ho l
    have e2 := biE_oth ho l
    simp (decide := true) [d, l, e1, e2, insF, folD, c1, c2, c3] <;> grind
  · by_cases l : ltr c
    · have e1 := bnE_l l
      have e2 := biE_n e1
      have e3 := bv_l l
      simp (decide := true) [d, l, e1, e2, e3, insF, c1, c2, c3, c4, c5] <;> grind
    · have e1 := bnE_oth ho l
      have e2 := biE_oth ho l
      simp (decide := true) [d, l, e1, e2, insF, c1, c2, c3, c4, c5] <;> grind
theorem F_19  : folF 19 ch 1 tl ls dg b0 rs c f = insF tl c := by
  have hm : mayV 19 ch = 115 := by unfold mayV; rw [if_neg (by decide)]; decide
  unfold folF 
  simp (decide := true) only [mv, hm, not_false_eq_true, not_true_eq_false, true_and, false_and, and_true, and_false, if_true, if_false]
  by_cases c0 : c = 0
  · subst c0; simp (decide := true) [bv, cv, nv, insF, folD]
  by_cases c1 : c = 32
  · subst c1; simp (decide := true) [bv, cv, nv, insF, folD]
  by_cases c2 : c = 124
  · subst c2; simp (decide := true) [bv, cv, nv, insF, folD]
  by_cases c3 : c = 58
  · subst c3; simp (decide := true) [bv, cv, nv, insF, folD]
  by_cases c4 : c = 91
  · subst c4; simp (decide := true) [bv, cv, nv, insF, folD]
  by_cases c5 : c = 40
  · subst c5; simp (decide := true) [bv, cv, nv, insF, folD]
  by_cases c6 : c = 93
  · subst c6; simp (decide := true) [bv, cv, nv, insF, folD]
  by_cases c7 : c = 122
  · subst c7; simp (decide := true) [bv, cv, nv, insF, folD]
  by_cases c8 : c = 94
  · subst c8; simp (decide := true) [bv, cv, nv, insF, folD]
  by_cases c9 : c = 95
  · subst c9; simp (decide := true) [bv, cv, nv, insF, folD]
  by_cases c10 : c = 61
  · subst c10; simp (decide := true) [bv, cv, nv, insF, folD]
  by_cases c11 : c = 39
  · subst c11; simp (decide := true) [bv, cv, nv, insF, folD]
  by_cases c12 : c = 44
  · subst c12; simp (decide := true) [bv, cv, nv, insF, folD]
  by_cases c13 : c = 47
  · subst c13; simp (decide := true) [bv, cv, nv, insF, folD]
  by_cases c14 : c = 45
  · subst c14; simp (decide := true) [bv, cv, nv, insF, folD]
  have ho : oth c := ⟨c0, c1, c11, c5, c12, c14, c13, c3, c10, c4, c6, c8, c9, c7, c2⟩
  simp only [c0, c1, c2, c3, c4, c5, c6, c7, c8, c9, c10, c11, c12, c13, c14, if_false, false_and, or_false, false_or, ite_self]
  by_cases d : dig c
  · have l : ¬ ltr c := fun l => ltr_dig l d
    have e1 := bnE_oth ho l
    have e2 := biE_oth ho l
    simp (decide := true) [d, l, e1, e2, insF, folD, c1, c2, c3] <;> grind
  · by_cases l : ltr c
    · have e1 := bnE_l l
      have e2 := biE_n e1
      have e3 := bv_l l
      simp (decide := true) [d, l, e1, e2, e3, insF, c1, c2, c3, c4, c5] <;> grind
    · have e1 := bnE_oth ho l
      have e2 := biE_oth ho l
      simp (decide := true) [d, l, e1, e2, insF, c1, c2, c3, c4, c5] <;> grind
theorem F_4  : folF 4 ch ib tl ls dg b0 rs c f = if c = 49 ∨ c = 50 then 5 else -1 := by
  have hm : mayV 4 ch = 4096 := by unfold mayV; rw [if_neg (by decide)]; decide
  unfold folF 
  simp (decide := true) only [mv, hm, not_false_eq_true, not_true_eq_false, true_and, false_and, and_true, and_false, if_true, if_false]
  by_cases c0 : c = 0
  · subst c0; simp (decide := true) [bv, cv, nv, insF, folD]
  by_cases c1 : c = 32
  · subst c1; simp (decide := true) [bv, cv, nv, insF, folD]
  by_cases c2 : c = 124
  · subst c2; simp (decide := true) [bv, cv, nv, insF, folD]
  by_cases c3 : c = 58
  · subst c3; simp (decide := true) [bv, cv, nv, insF, folD]
  by_cases c4 : c = 91
  · subst c4; simp (decide := true) [bv, cv, nv, insF, folD]
  by_cases c5 : c = 40
  · subst c5; simp (decide := true) [bv, cv, nv, insF, folD]
  by_cases c6 : c = 93
  · subst c6; simp (decide := true) [bv, cv, nv, insF, folD]
  by_cases c7 : c = 122
  · subst c7; simp (decide := true) [bv, cv, nv, insF, folD]
  by_cases c8 : c = 94
  · subst c8; simp (decide := true) [bv, cv, nv, insF, folD]
  by_cases c9 : c = 95
  · subst c9; simp (decide := true) [bv, cv, nv, insF, folD]
  by_cases c10 : c = 61
  · subst c10; simp (decide := true) [bv, cv, nv, insF, folD]
  by_cases c11 : c = 39
  · subst c11; simp (decide := true) [bv, cv, nv, insF, folD]
  by_cases c12 : c = 44
  · subst c12; simp (decide := true) [bv, cv, nv, insF, folD]
  by_cases c13 : c = 47
  · subst c13; simp (decide := true) [bv, cv, nv, insF, folD]
  by_cases c14 : c = 45
  · subst c14; simp (decide := true) [bv, cv, nv, insF, folD]
  have ho : oth c := ⟨c0, c1, c11, c5, c12, c14, c13, c3, c10, c4, c6, c8, c9, c7, c2⟩
  simp only [c0, c1, c2, c3, c4, c5, c6, c7, c8, c9, c10, c11, c12, c13, c14, if_false, false_and, or_false, false_or, ite_self]
  by_cases d : dig c
  · have l : ¬ ltr c := fun l => ltr_dig l d
    have e1 := bnE_oth ho l
    have e2 := biE_oth ho l
    simp (decide := true) [d, l, e1, e2, insF, folD, c1, c2, c3] <;> grind
  · by_cases l : ltr c
    · have e1 := bnE_l l
      have e2 := biE_n e1
      have e3 := bv_l l
      simp (decide := true) [d, l, e1, e2, e3, insF, c1, c2, c3, c4, c5] <;> grind
    · have e1 := bnE_oth ho l
      have e2 := biE_oth ho l
      simp (decide := true) [d, l, e1, e2, insF, c1, c2, c3, c4, c5] <;> grind
theorem F_c11 (h39 : ¬ c = 39) (h44 : ¬ c = 44) : folF 11 1 ib tl ls dg b0 rs c f = if c = 93 then 14 else if bnE c then bv c else -1 := by
  have hm : mayV 11 1 = 3648 := by decide
  unfold folF 
  simp (decide := true) only [mv, hm, not_false_eq_true, not_true_eq_false, true_and, false_and, and_true, and_false, if_true, if_false]
  by_cases c0 : c = 0
  · subst c0; simp (decide := true) [bv, cv, nv, insF, folD]
  by_cases c1 : c = 32
  · subst c1; simp (decide := true) [bv, cv, nv, insF, folD]
  by_cases c2 : c = 124
  · subst c2; simp (decide := true) [bv, cv, nv, insF, folD]
  by_cases c3 : c = 58
  · subst c3; simp (decide := true) [bv, cv, nv, insF, folD]
  by_cases c4 : c = 91
  · subst c4; simp (decide := true) [bv, cv, nv, insF, folD]
  by_cases c5 : c = 40
  · subst c5; simp (decide := true) [bv, cv, nv, insF, folD]
  by_cases c6 : c = 93
  · subst c6; simp (decide := true) [bv, cv, nv, insF, folD]
  by_cases c7 : c = 122
  · subst c7; simp (decide := true) [bv, cv, nv, insF, folD]
  by_cases c8 : c = 94
  · subst c8; simp (decide := true) [bv, cv, nv, insF, folD]
  by_cases c9 : c = 95
  · subst c9; simp (decide := true) [bv, cv, nv, insF, folD]
  by_cases c10 : c = 61
  · subst c10; simp (decide := true) [bv, cv, nv, insF, folD]
  by_cases c11 : c = 39
  · exact absurd c11 (by assumption)
  by_cases c12 : c = 44
  · exact absurd c12 (by assumption)
  by_cases c13 : c = 47
  · subst c13; simp (decide := true) [bv, cv, nv, insF, folD]
  by_cases c14 : c = 45
  · subst c14; simp (decide := true) [bv, cv, nv, insF, folD]
  have ho : oth c := ⟨c0, c1, c11, c5, c12, c14, c13, c3, c10, c4, c6, c8, c9, c7, c2⟩
  simp only [c0, c1, c2, c3, c4, c5, c6, c7, c8, c9, c10, c11, c12, c13, c14, if_false, false_and, or_false, false_or, ite_self]
  by_cases d : dig c
  · have l : ¬ ltr c := fun l => ltr_dig l d
    have e1 := bnE_oth ho l
    have e2 := biE_oth ho l
    simp (decide := true) [d, l, e1, e2, insF, folD, c1, c2, c3] <;> grind
  · by_cases l : ltr c
    · have e1 := bnE_l l
      have e2 := biE_n e1
      have e3 := bv_l l
      simp (decide := true) [d, l, e1, e2, e3, insF, c1, c2, c3, c4, c5] <;> grind
    · have e1 := bnE_oth ho l
      have e2 := biE_oth ho l
      simp (decide := true) [d, l, e1, e2, insF, c1, c2, c3, c4, c5] <;> grind
theorem F_n11 (h39 : ¬ c = 39) (h44 : ¬ c = 44) (hd : ¬ dig c) (h47 : ¬ c = 47) : folF 11 0 1 tl ls dg b0 rs c f = if c = 45 ∧ rs = 0 then 18 else insF tl c := by
  have hm : mayV 11 0 = 30323 := by decide
  unfold folF 
  simp (decide := true) only [mv, hm, not_false_eq_true, not_true_eq_false, true_and, false_and, and_true, and_false, if_true, if_false]
  by_cases c0 : c = 0
  · subst c0; simp (decide := true) [bv, cv, nv, insF, folD]
  by_cases c1 : c = 32
  · subst c1; simp (decide := true) [bv, cv, nv, insF, folD]
  by_cases c2 : c = 124
  · subst c2; simp (decide := true) [bv, cv, nv, insF, folD]
  by_cases c3 : c = 58
  · subst c3; simp (decide := true) [bv, cv, nv, insF, folD]
  by_cases c4 : c = 91
  · subst c4; simp (decide := true) [bv, cv, nv, insF, folD]
  by_cases c5 : c = 40
  · subst c5; simp (decide := true) [bv, cv, nv, insF, folD]
  by_cases c6 : c = 93
  · subst c6; simp (decide := true) [bv, cv, nv, insF, folD]
  by_cases c7 : c = 122
  · subst c7; simp (decide := true) [bv, cv, nv, insF, folD]
  by_cases c8 : c = 94
  · subst c8; simp (decide := true) [bv, cv, nv, insF, folD]
  by_cases c9 : c = 95
  · subst c9; simp (decide := true) [bv, cv, nv, insF, folD]
  by_cases c10 : c = 61
  · subst c10; simp (decide := true) [bv, cv, nv, insF, folD]
  by_cases c11 : c = 39
  · exact absurd c11 (by assumption)
  by_cases c12 : c = 44
  · exact absurd c12 (by assumption)
  by_cases c13 : c = 47
  · exact absurd c13 (by assumption)
  by_cases c14 : c = 45
  · subst c14; simp (decide := true) [bv, cv, nv, insF, folD]
  have ho : oth c := ⟨c0, c1, c11, c5, c12, c14, c13, c3, c10, c4, c6, c8, c9, c7, c2⟩
  simp only [c0, c1, c2, c3, c4, c5, c6, c7, c8, c9, c10, c11, c12, c13, c14, if_false, false_and, or_false, false_or, ite_self]
  by_cases d : dig c
  · exact absurd d (by assumption)
  · by_cases l : ltr c
    · have e1 := bnE_l l
      have e2 := biE_n e1
      have e3 := bv_l l
      simp (decide := true) [d, l, e1, e2, e3, insF, c1, c2, c3, c4, c5] <;> grind
    · have e1 := bnE_oth ho l
      have e2 := biE_oth ho l
      simp (decide := true) [d, l, e1, e2, insF, c1, c2, c3, c4, c5] <;> grind
theorem F_c12 (h39 : ¬ c = 39) : folF 12 1 ib tl ls dg b0 rs c f = if c = 93 then 14 else if bnE c then bv c else -1 := by
  have hm : mayV 12 1 = 2624 := by decide
  unfold folF 
  simp (decide := true) only [mv, hm, not_false_eq_true, not_true_eq_false, true_and, false_and, and_true, and_false, if_true, if_false]
  by_cases c0 : c = 0
  · subst c0; simp (decide := true) [bv, cv, nv, insF, folD]
  by_cases c1 : c = 32
  · subst c1; simp (decide := true) [bv, cv, nv, insF, folD]
  by_cases c2 : c = 124
  · subst c2; simp (decide := true) [bv, cv, nv, insF, folD]
  by_cases c3 : c = 58
  · subst c3; simp (decide := true) [bv, cv, nv, insF, folD]
  by_cases c4 : c = 91
  · subst c4; simp (decide := true) [bv, cv, nv, insF, folD]
  by_cases c5 : c = 40
  · subst c5; simp (decide := true) [bv, cv, nv, insF, folD]
  by_cases c6 : c = 93
  · subst c6; simp (decide := true) [bv, cv, nv, insF, folD]
  by_cases c7 : c = 122
  · subst c7; simp (decide := true) [bv, cv, nv, insF, folD]
  by_cases c8 : c = 94
  · subst c8; simp (decide := true) [bv, cv, nv, insF, folD]
  by_cases c9 : c = 95
  · subst c9; simp (decide := true) [bv, cv, nv, insF, folD]
  by_cases c10 : c = 61
  · subst c10; simp (decide := true) [bv, cv, nv, insF, folD]
  by_cases c11 : c = 39
  · exact absurd c11 (by assumption)
  by_cases c12 : c = 44
  · subst c12; simp (decide := true) [bv, cv, nv, insF, folD]
  by_cases c13 : c = 47
  · subst c13; simp (decide := true) [bv, cv, nv, insF, folD]
  by_cases c14 : c = 45
  · subst c14; simp (decide := true) [bv, cv, nv, insF, folD]
  have ho : oth c := ⟨c0, c1, c11, c5, c12, c14, c13, c3, c10, c4, c6, c8, c9, c7, c2⟩
  simp only [c0, c1, c2, c3, c4, c5, c6, c7, c8, c9, c10, c11, c12, c13, c14, if_false, false_and, or_false, false_or, ite_self]
  by_cases d : dig c
  · have l : ¬ ltr c := fun l => ltr_dig l d
    have e1 := bnE_oth ho l
    have e2 := biE_oth ho l
    simp (decide := true) [d, l, e1, e2, insF, folD, c1, c2, c3] <;> grind
  · by_cases l : ltr c
    · have e1 := bnE_l l
      have e2 := biE_n e1
      have e3 := bv_l l
      simp (decide := true) [d, l, e1, e2, e3, insF, c1, c2, c3, c4, c5] <;> grind
    · have e1 := bnE_oth ho l
      have e2 := biE_oth ho l
      simp (decide := true) [d, l, e1, e2, insF, c1, c2, c3, c4, c5] <;> grind
theorem F_n12 (h39 : ¬ c = 39) (hd : ¬ dig c) (h47 : ¬ c = 47) : folF 12 0 1 tl ls dg b0 rs c f = if c = 45 ∧ rs = 0 then 18 else insF tl c := by
  have hm : mayV 12 0 = 29299 := by decide
  unfold folF 
  simp (decide := true) only [mv, hm, not_false_eq_true, not_true_eq_false, true_and, false_and, and_true, and_false, if_true, if_false]
  by_cases c0 : c = 0
  · subst c0; simp (decide := true) [bv, cv, nv, insF, folD]
  by_cases c1 : c = 32
  · subst c1; simp (decide := true) [bv, cv, nv, insF, folD]
  by_cases c2 : c = 124
  · subst c2; simp (decide := true) [bv, cv, nv, insF, folD]
  by_cases c3 : c = 58
  · subst c3; simp (decide := true) [bv, cv, nv, insF, folD]
  by_cases c4 : c = 91
  · subst c4; simp (decide := true) [bv, cv, nv, insF, folD]
  by_cases c5 : c = 40
  · subst c5; simp (decide := true) [bv, cv, nv, insF, folD]
  by_cases c6 : c = 93
  · subst c6; simp (decide := true) [bv, cv, nv, insF, folD]
  by_cases c7 : c = 122
  · subst c7; simp (decide := true) [bv, cv, nv, insF, folD]
  by_cases c8 : c = 94
  · subst c8; simp (decide := true) [bv, cv, nv, insF, folD]
  by_cases c9 : c = 95
  · subst c9; simp (decide := true) [bv, cv, nv, insF, folD]
  by_cases c10 : c = 61
  · subst c10; simp (decide := true) [bv, cv, nv, insF, folD]
  by_cases c11 : c = 39
  · exact absurd c11 (by assumption)
  by_cases c12 : c = 44
  · subst c12; simp (decide := true) [bv, cv, nv, insF, folD]
  by_cases c13 : c = 47
  · exact absurd c13 (by assumption)
  by_cases c14 : c = 45
  · subst c14; simp (decide := true) [bv, cv, nv, insF, folD]
  have ho : oth c := ⟨c0, c1, c11, c5, c12, c14, c13, c3, c10, c4, c6, c8, c9, c7, c2⟩
  simp only [c0, c1, c2, c3, c4, c5, c6, c7, c8, c9, c10, c11, c12, c13, c14, if_false, false_and, or_false, false_or, ite_self]
  by_cases d : dig c
  · exact absurd d (by assumption)
  · by_cases l : ltr c
    · have e1 := bnE_l l
      have e2 := biE_n e1
      have e3 := bv_l l
      simp (decide := true) [d, l, e1, e2, e3, insF, c1, c2, c3, c4, c5] <;> grind
    · have e1 := bnE_oth ho l
      have e2 := biE_oth ho l
      simp (decide := true) [d, l, e1, e2, insF, c1, c2, c3, c4, c5] <;> grind
theorem F_c13 (h44 : ¬ c = 44) : folF 13 1 ib tl ls dg b0 rs c f = if c = 93 then 14 else if bnE c then bv c else -1 := by
  have hm : mayV 13 1 = 3136 := by decide
  unfold folF 
  simp (decide := true) only [mv, hm, not_false_eq_true, not_true_eq_false, true_and, false_and, and_true, and_false, if_true, if_false]
  by_cases c0 : c = 0
  · subst c0; simp (decide := true) [bv, cv, nv, insF, folD]
  by_cases c1 : c = 32
  · subst c1; simp (decide := true) [bv, cv, nv, insF, folD]
  by_cases c2 : c = 124
  · subst c2; simp (decide := true) [bv, cv, nv, insF, folD]
  by_cases c3 : c = 58
  · subst c3; simp (decide := true) [bv, cv, nv, insF, folD]
  by_cases c4 : c = 91
  · subst c4; simp (decide := true) [bv, cv, nv, insF, folD]
  by_cases c5 : c = 40
  · subst c5; simp (decide := true) [bv, cv, nv, insF, folD]
  by_cases c6 : c = 93
  · subst c6; simp (decide := true) [bv, cv, nv, insF, folD]
  by_cases c7 : c = 122
  · subst c7; simp (decide := true) [bv, cv, nv, insF, folD]
  by_cases c8 : c = 94
  · subst c8; simp (decide := true) [bv, cv, nv, insF, folD]
  by_cases c9 : c = 95
  · subst c9; simp (decide := true) [bv, cv, nv, insF, folD]
  by_cases c10 : c = 61
  · subst c10; simp (decide := true) [bv, cv, nv, insF, folD]
  by_cases c11 : c = 39
  · subst c11; simp (decide := true) [bv, cv, nv, insF, folD]
  by_cases c12 : c = 44
  · exact absurd c12 (by assumption)
  by_cases c13 : c = 47
  · subst c13; simp (decide := true) [bv, cv, nv, insF, folD]
  by_cases c14 : c = 45
  · subst c14; simp (decide := true) [bv, cv, nv, insF, folD]
  have ho : oth c := ⟨c0, c1, c11, c5, c12, c14, c13, c3, c10, c4, c6, c8, c9, c7, c2⟩
  simp only [c0, c1, c2, c3, c4, c5, c6, c7, c8, c9, c10, c11, c12, c13, c14, if_false, false_and, or_false, false_or, ite_self]
  by_cases d : dig c
  · have l : ¬ ltr c := fun l => ltr_dig l d
    have e1 := bnE_oth ho l
    have e2 := biE_oth ho l
    simp (decide := true) [d, l, e1, e2, insF, folD, c1, c2, c3] <;> grind
  · by_cases l : ltr c
    · have e1 := bnE_l l
      have e2 := biE_n e1
      have e3 := bv_l l
      simp (decide := true) [d, l, e1, e2, e3, insF, c1, c2, c3, c4, c5] <;> grind
    · have e1 := bnE_oth ho l
      have e2 := biE_oth ho l
      simp (decide := true) [d, l, e1, e2, insF, c1, c2, c3, c4, c5] <;> grind
theorem F_n13 (h44 : ¬ c = 44) (hd : ¬ dig c) (h47 : ¬ c = 47) : folF 13 0 1 tl ls dg b0 rs c f = if c = 45 ∧ rs = 0 then 18 else insF tl c := by
  have hm : mayV 13 0 = 29811 := by decide
  unfold folF 
  simp (decide := true) only [mv, hm, not_false_eq_true, not_true_eq_false, true_and, false_and, and_true, and_false, if_true, if_false]
  by_cases c0 : c = 0
  · subst c0; simp (decide := true) [bv, cv, nv, insF, folD]
  by_cases c1 : c = 32
  · subst c1; simp (decide := true) [bv, cv, nv, insF, folD]
  by_cases c2 : c = 124
  · subst c2; simp (decide := true) [bv, cv, nv, insF, folD]
  by_cases c3 : c = 58
  · subst c3; simp (decide := true) [bv, cv, nv, insF, folD]
  by_cases c4 : c = 91
  · subst c4; simp (decide := true) [bv, cv, nv, insF, folD]
  by_cases c5 : c = 40
  · subst c5; simp (decide := true) [bv, cv, nv, insF, folD]
  by_cases c6 : c = 93
  · subst c6; simp (decide := true) [bv, cv, nv, insF, folD]
  by_cases c7 : c = 122
  · subst c7; simp (decide := true) [bv, cv, nv, insF, folD]
  by_cases c8 : c = 94
  · subst c8; simp (decide := true) [bv, cv, nv, insF, folD]
  by_cases c9 : c = 95
  · subst c9; simp (decide := true) [bv, cv, nv, insF, folD]
  by_cases c10 : c = 61
  · subst c10; simp (decide := true) [bv, cv, nv, insF, folD]
  by_cases c11 : c = 39
  · subst c11; simp (decide := true) [bv, cv, nv, insF, folD]
  by_cases c12 : c = 44
  · exact absurd c12 (by assumption)
  by_cases c13 : c = 47
  · exact absurd c13 (by assumption)
  by_cases c14 : c = 45
  · subst c14; simp (decide := true) [bv, cv, nv, insF, folD]
  have ho : oth c := ⟨c0, c1, c11, c5, c12, c14, c13, c3, c10, c4, c6, c8, c9, c7, c2⟩
  simp only [c0, c1, c2, c3, c4, c5, c6, c7, c8, c9, c10, c11, c12, c13, c14, if_false, false_and, or_false, false_or, ite_self]
  by_cases d : dig c
  · exact absurd d (by assumption)
  · by_cases l : ltr c
    · have e1 := bnE_l l
      have e2 := biE_n e1
      have e3 := bv_l l
      simp (decide := true) [d, l, e1, e2, e3, insF, c1, c2, c3, c4, c5] <;> grind
    · have e1 := bnE_oth ho l
      have e2 := biE_oth ho l
      simp (decide := true) [d, l, e1, e2, insF, c1, c2, c3, c4, c5] <;> grind
theorem F_n14 (hd : ¬ dig c) (h47 : ¬ c = 47) : folF 14 ch 1 tl ls dg b0 rs c f = if c = 45 ∧ rs = 0 then 18 else insF tl c := by
  have hm : mayV 14 ch = 28787 := by unfold mayV; rw [if_neg (by decide)]; decide
  unfold folF 
  simp (decide := true) only [mv, hm, not_false_eq_true, not_true_eq_false, true_and, false_and, and_true, and_false, if_true, if_false]
  by_cases c0 : c = 0
  · subst c0; simp (decide := true) [bv, cv, nv, insF, folD]
  by_cases c1 : c = 32
  · subst c1; simp (decide := true) [bv, cv, nv, insF, folD]
  by_cases c2 : c = 124
  · subst c2; simp (decide := true) [bv, cv, nv, insF, folD]
  by_cases c3 : c = 58
  · subst c3; simp (decide := true) [bv, cv, nv, insF, folD]
  by_cases c4 : c = 91
  · subst c4; simp (decide := true) [bv, cv, nv, insF, folD]
  by_cases c5 : c = 40
  · subst c5; simp (decide := true) [bv, cv, nv, insF, folD]
  by_cases c6 : c = 93
  · subst c6; simp (decide := true) [bv, cv, nv, insF, folD]
  by_cases c7 : c = 122
  · subst c7; simp (decide := true) [bv, cv, nv, insF, folD]
  by_cases c8 : c = 94
  · subst c8; simp (decide := true) [bv, cv, nv, insF, folD]
  by_cases c9 : c = 95
  · subst c9; simp (decide := true) [bv, cv, nv, insF, folD]
  by_cases c10 : c = 61
  · subst c10; simp (decide := true) [bv, cv, nv, insF, folD]
  by_cases c11 : c = 39
  · subst c11; simp (decide := true) [bv, cv, nv, insF, folD]
  by_cases c12 : c = 44
  · subst c12; simp (decide := true) [bv, cv, nv, insF, folD]
  by_cases c13 : c = 47
  · exact absurd c13 (by assumption)
  by_cases c14 : c = 45
  · subst c14; simp (decide := true) [bv, cv, nv, insF, folD]
  have ho : oth c := ⟨c0, c1, c11, c5, c12, c14, c13, c3, c10, c4, c6, c8, c9, c7, c2⟩
  simp only [c0, c1, c2, c3, c4, c5, c6, c7, c8, c9, c10, c11, c12, c13, c14, if_false, false_and, or_false, false_or, ite_self]
  by_cases d : dig c
  · exact absurd d (by assumption)
  · by_cases l : ltr c
    · have e1 := bnE_l l
      have e2 := biE_n e1
      have e3 := bv_l l
      simp (decide := true) [d, l, e1, e2, e3, insF, c1, c2, c3, c4, c5] <;> grind
    · have e1 := bnE_oth ho l
      have e2 := biE_oth ho l
      simp (decide := true) [d, l, e1, e2, insF, c1, c2, c3, c4, c5] <;> grind
theorem F_n15 (hd : ¬ dig c) (h47 : ¬ c = 47) : folF 15 ch 1 tl ls dg b0 rs c f = if c = 45 ∧ rs = 0 then 18 else insF tl c := by
  have hm : mayV 15 ch = 28787 := by unfold mayV; rw [if_neg (by decide)]; decide
  unfold folF 
  simp (decide := true) only [mv, hm, not_false_eq_true, not_true_eq_false, true_and, false_and, and_true, and_false, if_true, if_false]
  by_cases c0 : c = 0
  · subst c0; simp (decide := true) [bv, cv, nv, insF, folD]
  by_cases c1 : c = 32
  · subst c1; simp (decide := true) [bv, cv, nv, insF, folD]
  by_cases c2 : c = 124
  · subst c2; simp (decide := true) [bv, cv, nv, insF, folD]
  by_cases c3 : c = 58
  · subst c3; simp (decide := true) [bv, cv, nv, insF, folD]
  by_cases c4 : c = 91
  · subst c4; simp (decide := true) [bv, cv, nv, insF, folD]
  by_cases c5 : c = 40
  · subst c5; simp (decide := true) [bv, cv, nv, insF, folD]
  by_cases c6 : c = 93
  · subst c6; simp (decide := true) [bv, cv, nv, insF, folD]
  by_cases c7 : c = 122
  · subst c7; simp (decide := true) [bv, cv, nv, insF, folD]
  by_cases c8 : c = 94
  · subst c8; simp (decide := true) [bv, cv, nv, insF, folD]
  by_cases c9 : c = 95
  · subst c9; simp (decide := true) [bv, cv, nv, insF, folD]
  by_cases c10 : c = 61
  · subst c10; simp (decide := true) [bv, cv, nv, insF, folD]
  by_cases c11 : c = 39
  · subst c11; simp (decide := true) [bv, cv, nv, insF, folD]
  by_cases c12 : c = 44
  · subst c12; simp (decide := true) [bv, cv, nv, insF, folD]
  by_cases c13 : c = 47
  · exact absurd c13 (by assumption)
  by_cases c14 : c = 45
  · subst c14; simp (decide := true) [bv, cv, nv, insF, folD]
  have ho : oth c := ⟨c0, c1, c11, c5, c12, c14, c13, c3, c10, c4, c6, c8, c9, c7, c2⟩
  simp only [c0, c1, c2, c3, c4, c5, c6, c7, c8, c9, c10, c11, c12, c13, c14, if_false, false_and, or_false, false_or, ite_self]
  by_cases d : dig c
  · exact absurd d (by assumption)
  · by_cases l : ltr c
    · have e1 := bnE_l l
      have e2 := biE_n e1
      have e3 := bv_l l
      simp (decide := true) [d, l, e1, e2, e3, insF, c1, c2, c3, c4, c5] <;> grind
    · have e1 := bnE_oth ho l
      have e2 := biE_oth ho l
      simp (decide := true) [d, l, e1, e2, insF, c1, c2, c3, c4, c5] <;> grind
theorem F_n16 (hd : ¬ dig c) : folF 16 ch 1 tl ls dg b0 rs c f = if c = 45 ∧ rs = 0 then 18 else insF tl c := by
  have hm : mayV 16 ch = 20595 := by unfold mayV; rw [if_neg (by decide)]; decide
  unfold folF 
  simp (decide := true) only [mv, hm, not_false_eq_true, not_true_eq_false, true_and, false_and, and_true, and_false, if_true, if_false]
  by_cases c0 : c = 0
  · subst c0; simp (decide := true) [bv, cv, nv, insF, folD]
  by_cases c1 : c = 32
  · subst c1; simp (decide := true) [bv, cv, nv, insF, folD]
  by_cases c2 : c = 124
  · subst c2; simp (decide := true) [bv, cv, nv, insF, folD]
  by_cases c3 : c = 58
  · subst c3; simp (decide := true) [bv, cv, nv, insF, folD]
  by_cases c4 : c = 91
  · subst c4; simp (decide := true) [bv, cv, nv, insF, folD]
  by_cases c5 : c = 40
  · subst c5; simp (decide := true) [bv, cv, nv, insF, folD]
  by_cases c6 : c = 93
  · subst c6; simp (decide := true) [bv, cv, nv, insF, folD]
  by_cases c7 : c = 122
  · subst c7; simp (decide := true) [bv, cv, nv, insF, folD]
  by_cases c8 : c = 94
  · subst c8; simp (decide := true) [bv, cv, nv, insF, folD]
  by_cases c9 : c = 95
  · subst c9; simp (decide := true) [bv, cv, nv, insF, folD]
  by_cases c10 : c = 61
  · subst c10; simp (decide := true) [bv, cv, nv, insF, folD]
  by_cases c11 : c = 39
  · subst c11; simp (decide := true) [bv, cv, nv, insF, folD]
  by_cases c12 : c = 44
  · subst c12; simp (decide := true) [bv, cv, nv, insF, folD]
  by_cases c13 : c = 47
  · subst c13; simp (decide := true) [bv, cv, nv, insF, folD]
  by_cases c14 : c = 45
  · subst c14; simp (decide := true) [bv, cv, nv, insF, folD]
  have ho : oth c := ⟨c0, c1, c11, c5, c12, c14, c13, c3, c10, c4, c6, c8, c9, c7, c2⟩
  simp only [c0, c1, c2, c3, c4, c5, c6, c7, c8, c9, c10, c11, c12, c13, c14, if_false, false_and, or_false, false_or, ite_self]
  by_cases d : dig c
  · exact absurd d (by assumption)
  · by_cases l : ltr c
    · have e1 := bnE_l l
      have e2 := biE_n e1
      have e3 := bv_l l
      simp (decide := true) [d, l, e1, e2, e3, insF, c1, c2, c3, c4, c5] <;> grind
    · have e1 := bnE_oth ho l
      have e2 := biE_oth ho l
      simp (decide := true) [d, l, e1, e2, insF, c1, c2, c3, c4, c5] <;> grind
theorem F_n17 (hd : ¬ dig c) : folF 17 ch 1 tl ls dg b0 rs c f = if c = 45 ∧ rs = 0 then 18 else insF tl c := by
  have hm : mayV 17 ch = 20595 := by unfold mayV; rw [if_neg (by decide)]; decide
  unfold folF 
  simp (decide := true) only [mv, hm, not_false_eq_true, not_true_eq_false, true_and, false_and, and_true, and_false, if_true, if_false]
  by_cases c0 : c = 0
  · subst c0; simp (decide := true) [bv, cv, nv, insF, folD]
  by_cases c1 : c = 32
  · subst c1; simp (decide := true) [bv, cv, nv, insF, folD]
  by_cases c2 : c = 124
  · subst c2; simp (decide := true) [bv, cv, nv, insF, folD]
  by_cases c3 : c = 58
  · subst c3; simp (decide := true) [bv, cv, nv, insF, folD]
  by_cases c4 : c = 91
  · subst c4; simp (decide := true) [bv, cv, nv, insF, folD]
  by_cases c5 : c = 40
  · subst c5; simp (decide := true) [bv, cv, nv, insF, folD]
  by_cases c6 : c = 93
  · subst c6; simp (decide := true) [bv, cv, nv, insF, folD]
  by_cases c7 : c = 122
  · subst c7; simp (decide := true) [bv, cv, nv, insF, folD]
  by_cases c8 : c = 94
  · subst c8; simp (decide := true) [bv, cv, nv, insF, folD]
  by_cases c9 : c = 95
  · subst c9; simp (decide := true) [bv, cv, nv, insF, folD]
  by_cases c10 : c = 61
  · subst c10; simp (decide := true) [bv, cv, nv, insF, folD]
  by_cases c11 : c = 39
  · subst c11; simp (decide := true) [bv, cv, nv, insF, folD]
  by_cases c12 : c = 44
  · subst c12; simp (decide := true) [bv, cv, nv, insF, folD]
  by_cases c13 : c = 47
  · subst c13; simp (decide := true) [bv, cv, nv, insF, folD]
  by_cases c14 : c = 45
  · subst c14; simp (decide := true) [bv, cv, nv, insF, folD]
  have ho : oth c := ⟨c0, c1, c11, c5, c12, c14, c13, c3, c10, c4, c6, c8, c9, c7, c2⟩
  simp only [c0, c1, c2, c3, c4, c5, c6, c7, c8, c9, c10, c11, c12, c13, c14, if_false, false_and, or_false, false_or, ite_self]
  by_cases d : dig c
  · exact absurd d (by assumption)
  · by_cases l : ltr c
    · have e1 := bnE_l l
      have e2 := biE_n e1
      have e3 := bv_l l
      simp (decide := true) [d, l, e1, e2, e3, insF, c1, c2, c3, c4, c5] <;> grind
    · have e1 := bnE_oth ho l
      have e2 := biE_oth ho l
      simp (decide := true) [d, l, e1, e2, insF, c1, c2, c3, c4, c5] <;> grind
theorem F_d11 (d : dig c) : folF 11 0 ib tl ls dg b0 rs c f = if dg < 3 then 15 else -1 := by
  have hm : mayV 11 0 = 30323 := by decide
  obtain ⟨o1, o2, o3, o4, o5, o6, o7, o8, o9, o10, o11, o12, o13, o14, o15⟩ := oth_dig d
  unfold folF folD
  simp (decide := true) only [mv, hm, o1, o2, o3, o4, o5, o6, o7, o8, o9, o10, o11, o12, o13, o14, o15, not_false_eq_true, not_true_eq_false, true_and, false_and, and_true, and_false, if_true, if_false]
  rw [if_pos d]
theorem F_s11 : folF 11 0 ib tl ls dg b0 rs 47 f = 16 := by
  have hm : mayV 11 0 = 30323 := by decide
  unfold folF
  simp (decide := true) only [mv, hm, not_false_eq_true, not_true_eq_false, true_and, false_and, and_true, and_false, if_true, if_false]
theorem F_d12 (d : dig c) : folF 12 0 ib tl ls dg b0 rs c f = if dg < 3 then 15 else -1 := by
  have hm : mayV 12 0 = 29299 := by decide
  obtain ⟨o1, o2, o3, o4, o5, o6, o7, o8, o9, o10, o11, o12, o13, o14, o15⟩ := oth_dig d
  unfold folF folD
  simp (decide := true) only [mv, hm, o1, o2, o3, o4, o5, o6, o7, o8, o9, o10, o11, o12, o13, o14, o15, not_false_eq_true, not_true_eq_false, true_and, false_and, and_true, and_false, if_true, if_false]
  rw [if_pos d]
theorem F_s12 : folF 12 0 ib tl ls dg b0 rs 47 f = 16 := by
  have hm : mayV 12 0 = 29299 := by decide
  unfold folF
  simp (decide := true) only [mv, hm, not_false_eq_true, not_true_eq_false, true_and, false_and, and_true, and_false, if_true, if_false]
theorem F_d13 (d : dig c) : folF 13 0 ib tl ls dg b0 rs c f = if dg < 3 then 15 else -1 := by
  have hm : mayV 13 0 = 29811 := by decide
  obtain ⟨o1, o2, o3, o4, o5, o6, o7, o8, o9, o10, o11, o12, o13, o14, o15⟩ := oth_dig d
  unfold folF folD
  simp (decide := true) only [mv, hm, o1, o2, o3, o4, o5, o6, o7, o8, o9, o10, o11, o12, o13, o14, o15, not_false_eq_true, not_true_eq_false, true_and, false_and, and_true, and_false, if_true, if_false]
  rw [if_pos d]
theorem F_s13 : folF 13 0 ib tl ls dg b0 rs 47 f = 16 := by
  have hm : mayV 13 0 = 29811 := by decide
  unfold folF
  simp (decide := true) only [mv, hm, not_false_eq_true, not_true_eq_false, true_and, false_and, and_true, and_false, if_true, if_false]
theorem F_d14 (d : dig c) : folF 14 ch ib tl ls dg b0 rs c f = if dg < 3 then 15 else -1 := by
  have hm : mayV 14 ch = 28787 := by unfold mayV; rw [if_neg (by decide)]; decide
  obtain ⟨o1, o2, o3, o4, o5, o6, o7, o8, o9, o10, o11, o12, o13, o14, o15⟩ := oth_dig d
  unfold folF folD
  simp (decide := true) only [mv, hm, o1, o2, o3, o4, o5, o6, o7, o8, o9, o10, o11, o12, o13, o14, o15, not_false_eq_true, not_true_eq_false, true_and, false_and, and_true, and_false, if_true, if_false]
  rw [if_pos d]
theorem F_s14 : folF 14 ch ib tl ls dg b0 rs 47 f = 16 := by
  have hm : mayV 14 ch = 28787 := by unfold mayV; rw [if_neg (by decide)]; decide
  unfold folF
  simp (decide := true) only [mv, hm, not_false_eq_true, not_true_eq_false, true_and, false_and, and_true, and_false, if_true, if_false]
theorem F_d15 (d : dig c) : folF 15 ch ib tl ls dg b0 rs c f = if dg < 3 then 15 else -1 := by
  have hm : mayV 15 ch = 28787 := by unfold mayV; rw [if_neg (by decide)]; decide
  obtain ⟨o1, o2, o3, o4, o5, o6, o7, o8, o9, o10, o11, o12, o13, o14, o15⟩ := oth_dig d
  unfold folF folD
  simp (decide := true) only [mv, hm, o1, o2, o3, o4, o5, o6, o7, o8, o9, o10, o11, o12, o13, o14, o15, not_false_eq_true, not_true_eq_false, true_and, false_and, and_true, and_false, if_true, if_false]
  rw [if_pos d]
theorem F_s15 : folF 15 ch ib tl ls dg b0 rs 47 f = 16 := by
  have hm : mayV 15 ch = 28787 := by unfold mayV; rw [if_neg (by decide)]; decide
  unfold folF
  simp (decide := true) only [mv, hm, not_false_eq_true, not_true_eq_false, true_and, false_and, and_true, and_false, if_true, if_false]
theorem F_d16 (d : dig c) : folF 16 ch ib tl ls dg b0 rs c f = if dg < 3 then 17 else -1 := by
  have hm : mayV 16 ch = 20595 := by unfold mayV; rw [if_neg (by decide)]; decide
  obtain ⟨o1, o2, o3, o4, o5, o6, o7, o8, o9, o10, o11, o12, o13, o14, o15⟩ := oth_dig d
  unfold folF folD
  simp (decide := true) only [mv, hm, o1, o2, o3, o4, o5, o6, o7, o8, o9, o10, o11, o12, o13, o14, o15, not_false_eq_true, not_true_eq_false, true_and, false_and, and_true, and_false, if_true, if_false]
  rw [if_pos d]
theorem F_d17 (d : dig c) : folF 17 ch ib tl ls dg b0 rs c f = if dg < 3 then 17 else -1 := by
  have hm : mayV 17 ch = 20595 := by unfold mayV; rw [if_neg (by decide)]; decide
  obtain ⟨o1, o2, o3, o4, o5, o6, o7, o8, o9, o10, o11, o12, o13, o14, o15⟩ := oth_dig d
  unfold folF folD
  simp (decide := true) only [mv, hm, o1, o2, o3, o4, o5, o6, o7, o8, o9, o10, o11, o12, o13, o14, o15, not_false_eq_true, not_true_eq_false, true_and, false_and, and_true, and_false, if_true, if_false]
  rw [if_pos d]
theorem F_o11_39_0 : folF 11 0 ib tl ls dg b0 rs 39 f = 12 := by
  have hm : mayV 11 0 = 30323 := by decide
  unfold folF
  simp (decide := true) only [mv, hm, not_false_eq_true, not_true_eq_false, true_and, false_and, and_true, and_false, if_true, if_false]
theorem F_o11_39_1 : folF 11 1 ib tl ls dg b0 rs 39 f = 12 := by
  have hm : mayV 11 1 = 3648 := by decide
  unfold folF
  simp (decide := true) only [mv, hm, not_false_eq_true, not_true_eq_false, true_and, false_and, and_true, and_false, if_true, if_false]
theorem F_o11_44_0 : folF 11 0 ib tl ls dg b0 rs 44 f = 13 := by
  have hm : mayV 11 0 = 30323 := by decide
  unfold folF
  simp (decide := true) only [mv, hm, not_false_eq_true, not_true_eq_false, true_and, false_and, and_true, and_false, if_true, if_false]
theorem F_o11_44_1 : folF 11 1 ib tl ls dg b0 rs 44 f = 13 := by
  have hm : mayV 11 1 = 3648 := by decide
  unfold folF
  simp (decide := true) only [mv, hm, not_false_eq_true, not_true_eq_false, true_and, false_and, and_true, and_false, if_true, if_false]
theorem F_o12_39_0 : folF 12 0 ib tl ls dg b0 rs 39 f = 12 := by
  have hm : mayV 12 0 = 29299 := by decide
  unfold folF
  simp (decide := true) only [mv, hm, not_false_eq_true, not_true_eq_false, true_and, false_and, and_true, and_false, if_true, if_false]
theorem F_o12_39_1 : folF 12 1 ib tl ls dg b0 rs 39 f = 12 := by
  have hm : mayV 12 1 = 2624 := by decide
  unfold folF
  simp (decide := true) only [mv, hm, not_false_eq_true, not_true_eq_false, true_and, false_and, and_true, and_false, if_true, if_false]
theorem F_o13_44_0 : folF 13 0 ib tl ls dg b0 rs 44 f = 13 := by
  have hm : mayV 13 0 = 29811 := by decide
  unfold folF
  simp (decide := true) only [mv, hm, not_false_eq_true, not_true_eq_false, true_and, false_and, and_true, and_false, if_true, if_false]
theorem F_o13_44_1 : folF 13 1 ib tl ls dg b0 rs 44 f = 13 := by
  have hm : mayV 13 1 = 3136 := by decide
  unfold folF
  simp (decide := true) only [mv, hm, not_false_eq_true, not_true_eq_false, true_and, false_and, and_true, and_false, if_true, if_false]
end FS

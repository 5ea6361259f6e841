/-! the reader's questions, answered -/
def b2 (p : Prop) [Decidable p] : Int32 := if p then 1 else 0
theorem b2_t {p : Prop} [Decidable p] (h : p) : b2 p = 1 := if_pos h
theorem b2_f {p : Prop} [Decidable p] (h : ¬ p) : b2 p = 0 := if_neg h
theorem b2_0 (p : Prop) [Decidable p] : b2 p = 0 ↔ ¬ p := by unfold b2; split <;> simp_all
abbrev dig (x : Int32) : Prop := 48 ≤ x ∧ x ≤ 57
abbrev ltr (x : Int32) : Prop := (65 ≤ x ∧ x ≤ 71) ∨ (97 ≤ x ∧ x ≤ 103)
abbrev octE (st x : Int32) : Prop := (st = 11 ∧ x ≠ 39 ∧ x ≠ 44) ∨ (st = 12 ∧ x ≠ 39) ∨ (st = 13 ∧ x ≠ 44)
abbrev lenE (st ch x : Int32) : Prop := ((st = 16 ∨ st = 17) ∧ ¬ dig x) ∨ ((st = 14 ∨ st = 15 ∨ (octE st x ∧ ch = 0)) ∧ ¬ dig x ∧ x ≠ 47)
abbrev ntS (v : Int32) : Prop := v = 9 ∨ v = 10 ∨ v = 11
abbrev opI (ii v : Int32) : Prop := ii = 0 ∧ (v = 6 ∨ v = 8 ∨ v = 14 ∨ ntS v)
abbrev opB (ib ii v : Int32) : Prop := ib = 0 ∧ (v = 4 ∨ opI ii v)
abbrev opC (ch st v : Int32) : Prop := ¬ ch = 0 ∧ ntS v ∧ ¬ st = 9 ∧ ¬ st = 10
section CF
variable {I : Nat → Int32} {A : Nat → Nat → Int32} {post : Int32 → (Nat → Int32) → (Nat → Nat → Int32) → Prop}
theorem isDigit_iff (x : Int32) : wp_Reader_isDigit x I A post ↔ post (b2 (dig x)) I A := by
  unfold wp_Reader_isDigit
  by_cases h : dig x
  · rw [b2_t h]; grind
  · rw [b2_f h]; grind
theorem octavesEnd_iff (x : Int32) : wp_Reader_octavesEnd x I A post ↔ post (b2 (octE (I 14) x)) I A := by
  unfold wp_Reader_octavesEnd
  generalize I 14 = st
  by_cases h1 : st = 11
  · subst h1
    by_cases h : octE 11 x
    · rw [b2_t h]; grind
    · rw [b2_f h]; grind
  · by_cases h2 : st = 12
    · subst h2
      by_cases h : octE 12 x
      · rw [b2_t h]; grind
      · rw [b2_f h]; grind
    · by_cases h3 : st = 13
      · subst h3
        by_cases h : octE 13 x
        · rw [b2_t h]; grind
        · rw [b2_f h]; grind
      · rw [b2_f (show ¬ octE st x from fun h => by rcases h with h | h | h <;> simp_all)]; grind
theorem lengthEnds_iff (x : Int32) : wp_Reader_lengthEnds x I A post ↔ post (b2 (lenE (I 14) (I 22) x)) I A := by
  unfold wp_Reader_lengthEnds wp_Reader_lengthEnds_69
  simp only [isDigit_iff, octavesEnd_iff, b2_0]
  generalize I 14 = st
  generalize I 22 = ch
  by_cases hd : dig x
  · by_cases h16 : st = 16 ∨ st = 17
    · rw [b2_f (show ¬ lenE st ch x from fun h => by rcases h with h | h; exact h.2 hd; exact h.2.1 hd)]
      grind
    · rw [b2_f (show ¬ lenE st ch x from fun h => by rcases h with h | h; exact h.2 hd; exact h.2.1 hd)]
      have h1 : ¬ st = 16 := fun h => h16 (Or.inl h)
      have h2 : ¬ st = 17 := fun h => h16 (Or.inr h)
      by_cases h3 : st = 14
      · grind
      · by_cases h4 : st = 15
        · grind
        · by_cases h5 : octE st x
          · by_cases h6 : ch = 0
            · grind
            · grind
          · grind
  · by_cases h16 : st = 16
    · rw [b2_t (show lenE st ch x from Or.inl ⟨Or.inl h16, hd⟩)]; grind
    · by_cases h17 : st = 17
      · rw [b2_t (show lenE st ch x from Or.inl ⟨Or.inr h17, hd⟩)]; grind
      · by_cases h47 : x = 47
        · rw [b2_f (show ¬ lenE st ch x from fun h => by
            rcases h with h | h
            · rcases h.1 with e | e
              · exact h16 e
              · exact h17 e
            · exact h.2.2 h47)]
          by_cases h3 : st = 14
          · grind
          · by_cases h4 : st = 15
            · grind
            · by_cases h5 : octE st x
              · by_cases h6 : ch = 0
                · grind
                · grind
              · grind
        · by_cases h3 : st = 14
          · rw [b2_t (show lenE st ch x from Or.inr ⟨Or.inl h3, hd, h47⟩)]; grind
          · by_cases h4 : st = 15
            · rw [b2_t (show lenE st ch x from Or.inr ⟨Or.inr (Or.inl h4), hd, h47⟩)]; grind
            · by_cases h5 : octE st x
              · by_cases h6 : ch = 0
                · rw [b2_t (show lenE st ch x from Or.inr ⟨Or.inr (Or.inr ⟨h5, h6⟩), hd, h47⟩)]; grind
                · rw [b2_f (show ¬ lenE st ch x from fun h => by
                    rcases h with h | h
                    · rcases h.1 with e | e
                      · exact h16 e
                      · exact h17 e
                    · rcases h.1 with e | e | e
                      · exact h3 e
                      · exact h4 e
                      · exact h6 e.2)]
                  grind
              · rw [b2_f (show ¬ lenE st ch x from fun h => by
                  rcases h with h | h
                  · rcases h.1 with e | e
                    · exact h16 e
                    · exact h17 e
                  · rcases h.1 with e | e | e
                    · exact h3 e
                    · exact h4 e
                    · exact h5 e.1)]
                grind
theorem isNoteLetter_iff (x : Int32) : wp_Reader_isNoteLetter x I A post ↔ post (b2 (ltr x)) I A := by
  unfold wp_Reader_isNoteLetter
  by_cases h : ltr x
  · rw [b2_t h]
    rcases h with h | h <;> grind
  · rw [b2_f h]; grind
theorem isNoteState_iff (v : Int32) : wp_Reader_isNoteState v I A post ↔ post (b2 (ntS v)) I A := by
  unfold wp_Reader_isNoteState
  by_cases h : ntS v
  · rw [b2_t h]; rcases h with h | h | h <;> subst h <;> grind
  · rw [b2_f h]; grind
theorem opensItem_iff (v : Int32) : wp_Reader_opensItem v I A post ↔ post (b2 (opI (I 21) v)) I A := by
  unfold wp_Reader_opensItem
  simp only [isNoteState_iff, b2_0]
  generalize I 21 = ii
  by_cases h0 : ii = 0
  · by_cases h : opI ii v
    · rw [b2_t h]; grind
    · rw [b2_f h]; grind
  · rw [b2_f (show ¬ opI ii v from fun h => h0 h.1)]; grind
theorem opensBar_iff (v : Int32) : wp_Reader_opensBar v I A post ↔ post (b2 (opB (I 20) (I 21) v)) I A := by
  unfold wp_Reader_opensBar
  simp only [opensItem_iff, b2_0]
  generalize I 20 = ib
  generalize I 21 = ii
  by_cases h0 : ib = 0
  · by_cases h4 : v = 4
    · rw [b2_t (show opB ib ii v from ⟨h0, Or.inl h4⟩)]; grind
    · by_cases h : opI ii v
      · rw [b2_t (show opB ib ii v from ⟨h0, Or.inr h⟩)]; grind
      · rw [b2_f (show ¬ opB ib ii v from fun z => by rcases z.2 with e | e; exact h4 e; exact h e)]; grind
  · rw [b2_f (show ¬ opB ib ii v from fun h => h0 h.1)]; grind
theorem opensChordNote_iff (v : Int32) : wp_Reader_opensChordNote v I A post ↔ post (b2 (opC (I 22) (I 14) v)) I A := by
  unfold wp_Reader_opensChordNote
  simp only [isNoteState_iff, b2_0]
  generalize I 22 = ch
  generalize I 14 = st
  by_cases h0 : ch = 0
  · rw [b2_f (show ¬ opC ch st v from fun h => h.1 h0)]; grind
  · by_cases h1 : ntS v
    · by_cases h2 : st = 9
      · rw [b2_f (show ¬ opC ch st v from fun h => h.2.2.1 h2)]; grind
      · by_cases h3 : st = 10
        · rw [b2_f (show ¬ opC ch st v from fun h => h.2.2.2 h3)]; grind
        · rw [b2_t (show opC ch st v from ⟨h0, h1, h2, h3⟩)]; grind
    · rw [b2_f (show ¬ opC ch st v from fun h => h1 h.2.1)]; grind
theorem opensLine_iff (v : Int32) : wp_Reader_opensLine v I A post ↔ post (b2 (v = 1 ∨ v = 2)) I A := by
  unfold wp_Reader_opensLine
  by_cases h : v = 1 ∨ v = 2
  · rw [b2_t h]; rcases h with h | h <;> subst h <;> grind
  · rw [b2_f h]; grind
theorem takesDigit_iff : wp_ItemLength_takesDigit I A post ↔ post (b2 (I 11 < 3)) I A := by
  unfold wp_ItemLength_takesDigit
  by_cases h : I 11 < 3
  · rw [b2_t h]; grind
  · rw [b2_f h]; grind
/-- what may come next -/
def mayV (st ch : Int32) : Int32 := if st = 11 ∨ st = 12 ∨ st = 13 then tb_MAY st.toNatClampNeg ||| (if ch = 0 then 28787 else 2112) else tb_MAY st.toNatClampNeg
theorem may_iff (x : Int32) (h0 : 0 ≤ I 14) (h1 : I 14 ≤ 20) : wp_Reader_may x I A post ↔ post (b2 (¬ (mayV (I 14) (I 22) &&& x) = 0)) I A := by
  unfold wp_Reader_may wp_Reader_may_30 wp_Reader_may_58 mayV
  have hin : vp_in (I 14) 21 := by
    obtain ⟨j, hj, e⟩ := nI_of2 (x := I 14) (M := 20) (n := 20) (by decide) (by grind) h1
    rw [e]; exact vp_in_nI (by omega) (by omega)
  generalize I 14 = st at *
  generalize I 22 = ch
  have n1 : ¬ st < 0 := by grind
  have n2 : ¬ 21 ≤ st := by grind
  simp only [n1, n2, hin, false_implies, true_implies, not_false_eq_true, true_and]
  by_cases hs : st = 11 ∨ st = 12 ∨ st = 13
  · rw [if_pos hs]
    by_cases hc : ch = 0
    · rw [if_pos hc]
      by_cases hz : (tb_MAY st.toNatClampNeg ||| 28787) &&& x = 0
      · rw [b2_f (fun q => q hz)]; grind
      · rw [b2_t hz]; grind
    · rw [if_neg hc]
      by_cases hz : (tb_MAY st.toNatClampNeg ||| 2112) &&& x = 0
      · rw [b2_f (fun q => q hz)]; grind
      · rw [b2_t hz]; grind
  · rw [if_neg hs]
    by_cases hz : tb_MAY st.toNatClampNeg &&& x = 0
    · rw [b2_f (fun q => q hz)]; grind
    · rw [b2_t hz]; grind
end CF

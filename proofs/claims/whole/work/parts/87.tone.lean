/-! the pitch of a note, on the reference's side -/
section TN
variable {J : Nat → Int32} {B : Nat → Nat → Int32} {l : Nat} {o : Int}
theorem plainOf_ok {post : Int32 → (Nat → Int32) → (Nat → Nat → Int32) → Prop} (hl : l < 7) (hq : post (tb_NATURAL l) J B) : wp_TuneSetterModel_plainOf (nI l) J B post := by
  have key : l = 0 ∨ l = 1 ∨ l = 2 ∨ l = 3 ∨ l = 4 ∨ l = 5 ∨ l = 6 := by omega
  unfold wp_TuneSetterModel_plainOf
  rcases key with e | e | e | e | e | e | e <;> subst e <;> simp (decide := true) only [true_implies, false_implies, implies_true, and_true, true_and, not_true_eq_false, not_false_eq_true] <;> exact hq
theorem placeOf_ok {post : Int32 → (Nat → Int32) → (Nat → Nat → Int32) → Prop} (hl : l < 7) (hq : post (tb_PLACE_AMONG_SHARPS l) J B) : wp_TuneSetterModel_placeOf (nI l) J B post := by
  have key : l = 0 ∨ l = 1 ∨ l = 2 ∨ l = 3 ∨ l = 4 ∨ l = 5 ∨ l = 6 := by omega
  unfold wp_TuneSetterModel_placeOf
  rcases key with e | e | e | e | e | e | e <;> subst e <;> simp (decide := true) only [true_implies, false_implies, implies_true, and_true, true_and, not_true_eq_false, not_false_eq_true] <;> exact hq
/-- where the bar's sign of a letter in an octave stands -/
abbrev hix (l : Nat) (o : Int) : Nat := 16 * l + (o + 8).toNat
theorem hix_eq (h16 : J 16 = nI l) (h17 : J 17 = zI o) (o1 : -8 ≤ o) (o2 : o ≤ 7) : (((16 : Int32) * (J 16)) + (J 17)) + 8 = nI (hix l o) := by
  rw [h16, h17, ← zI_nat, ← zI_nat, show (16 : Int32) = zI 16 from by decide, show (8 : Int32) = zI 8 from by decide, zI_mul, zI_add, zI_add]
  congr 1; unfold hix; omega
theorem tone57 {post : Int32 → (Nat → Int32) → (Nat → Nat → Int32) → Prop} {s0 : Int32} {s : Int} (hl : l < 7) (h16 : J 16 = nI l) (h17 : J 17 = zI o) (o1 : -8 ≤ o) (o2 : o ≤ 7) (hs : (¬ J 15 = 0 ∧ J 14 = zI s) ∨ (J 15 = 0 ∧ ((9 ≤ B 11 (hix l o) ∧ s0 = zI s) ∨ (¬ 9 ≤ B 11 (hix l o) ∧ B 11 (hix l o) = zI s)))) (hq : post (zI ((plN l : Int) + 12 * o + s)) J B) : wp_TuneSetterModel_toneOf_57 post s0 J B := by
  unfold wp_TuneSetterModel_toneOf_57
  rw [hix_eq h16 h17 o1 o2, nI_clamp (by unfold hix; omega), h16]
  refine ⟨vp_in_nI (by unfold hix; omega) (by omega), fun v hv => plainOf_ok hl ?_⟩
  rw [h17, (plN_b hl).2.2, show (12 : Int32) = zI 12 from by decide, zI_mul, zI_add, hv]
  refine ⟨fun z => ⟨fun z2 => ?_, fun z2 => ?_⟩, fun z => ?_⟩
  · rcases hs with hs | ⟨-, hs | hs⟩
    · exact absurd z hs.1
    · rw [hs.2, zI_add]; exact hq
    · exact absurd z2 hs.1
  · rcases hs with hs | ⟨-, hs | hs⟩
    · exact absurd z hs.1
    · exact absurd hs.1 z2
    · rw [hs.2, zI_add]; exact hq
  · rcases hs with hs | ⟨h, -⟩
    · rw [hs.2, zI_add]; exact hq
    · exact absurd h z
theorem zI_9 {s : Int} (h1 : -2 ≤ s) (h2 : s ≤ 2) : ¬ 9 ≤ zI s := by
  rw [show (9 : Int32) = zI 9 from by decide, zI_le (by omega) (by omega) (by omega) (by omega)]; omega
theorem toneOf_own {post : Int32 → (Nat → Int32) → (Nat → Nat → Int32) → Prop} (hl : l < 7) (h16 : J 16 = nI l) (h17 : J 17 = zI o) (o1 : -8 ≤ o) (o2 : o ≤ 7) (hq : wp_TuneSetterModel_toneOf_57 post (ownE (J 3) l) J B) : wp_TuneSetterModel_toneOf J B post := by
  unfold wp_TuneSetterModel_toneOf
  rw [h17, h16, show (-8 : Int32) = zI (-8) from by decide, show (7 : Int32) = zI 7 from by decide, zI_lt (by omega) (by omega) (by omega) (by omega), zI_le (by omega) (by omega) (by omega) (by omega)]
  refine ⟨fun z => by omega, fun _ => ⟨fun _ => placeOf_ok hl ?_, fun z => by omega⟩⟩
  unfold ownE at hq
  refine ⟨fun z => ⟨fun z2 => ?_, fun z2 => ?_⟩, fun z => ?_⟩
  · rw [if_pos z, if_pos z2] at hq; exact hq
  · rw [if_pos z, if_neg z2] at hq; exact hq
  · rw [if_neg z] at hq; exact hq
theorem toneOf_in {post : Int32 → (Nat → Int32) → (Nat → Nat → Int32) → Prop} {s : Int} (hl : l < 7) (h16 : J 16 = nI l) (h17 : J 17 = zI o) (o1 : -8 ≤ o) (o2 : o ≤ 7) (s1 : -2 ≤ s) (s2 : s ≤ 2) (hs : (¬ J 15 = 0 ∧ J 14 = zI s) ∨ (J 15 = 0 ∧ ((B 11 (hix l o) = 9 ∧ ownE (J 3) l = zI s) ∨ B 11 (hix l o) = zI s))) (hq : post (zI ((plN l : Int) + 12 * o + s)) J B) : wp_TuneSetterModel_toneOf J B post := by
  refine toneOf_own hl h16 h17 o1 o2 (tone57 (s := s) hl h16 h17 o1 o2 ?_ hq)
  rcases hs with hs | ⟨h, hs | hs⟩
  · exact Or.inl hs
  · exact Or.inr ⟨h, Or.inl ⟨by rw [hs.1]; decide, hs.2⟩⟩
  · exact Or.inr ⟨h, Or.inr ⟨by rw [hs]; exact zI_9 s1 s2, hs⟩⟩
/-- every sign that the bar holds is one, or none -/
def HB (B : Nat → Nat → Int32) : Prop := ∀ x, x < 112 → B 11 x = 9 ∨ ∃ s : Int, -2 ≤ s ∧ s ≤ 2 ∧ B 11 x = zI s
theorem toneOf_out {post : Int32 → (Nat → Int32) → (Nat → Nat → Int32) → Prop} (hl : l < 7) (h16 : J 16 = nI l) (h17 : J 17 = zI o) (o1 : -200 ≤ o) (o2 : o ≤ 200) (hsg : J 15 = 0 ∨ (¬ J 15 = 0 ∧ ∃ s : Int, -2 ≤ s ∧ s ≤ 2 ∧ J 14 = zI s)) (hB : HB B) (hout : (plN l : Int) + 12 * o < -2 ∨ 129 < (plN l : Int) + 12 * o) (hq : ∀ r : Int32, (r < 0 ∨ (¬ r < 0 ∧ ¬ r ≤ 127)) → post r J B) : wp_TuneSetterModel_toneOf J B post := by
  have hb := plN_b hl
  by_cases ho : -8 ≤ o ∧ o ≤ 7
  · have key : ∃ s : Int, -2 ≤ s ∧ s ≤ 2 ∧ ((¬ J 15 = 0 ∧ J 14 = zI s) ∨ (J 15 = 0 ∧ ((B 11 (hix l o) = 9 ∧ ownE (J 3) l = zI s) ∨ B 11 (hix l o) = zI s))) := by
      rcases hsg with h | ⟨h, s, s1, s2, s3⟩
      · rcases hB (hix l o) (by unfold hix; omega) with e | ⟨s, s1, s2, s3⟩
        · obtain ⟨s, s1, s2, s3⟩ := ownE_z (J 3) l
          exact ⟨s, s1, s2, Or.inr ⟨h, Or.inl ⟨e, s3⟩⟩⟩
        · exact ⟨s, s1, s2, Or.inr ⟨h, Or.inr s3⟩⟩
      · exact ⟨s, s1, s2, Or.inl ⟨h, s3⟩⟩
    obtain ⟨s, s1, s2, hs⟩ := key
    refine toneOf_in hl h16 h17 ho.1 ho.2 s1 s2 hs (hq _ ?_)
    rw [show (0 : Int32) = zI 0 from by decide, show (127 : Int32) = zI 127 from by decide, zI_lt (by omega) (by omega) (by omega) (by omega), zI_le (by omega) (by omega) (by omega) (by omega)]
    omega
  · unfold wp_TuneSetterModel_toneOf
    rw [h17, show (-8 : Int32) = zI (-8) from by decide, show (7 : Int32) = zI 7 from by decide, zI_lt (by omega) (by omega) (by omega) (by omega), zI_le (by omega) (by omega) (by omega) (by omega)]
    exact ⟨fun _ => hq _ (by decide), fun z => ⟨fun z2 => by omega, fun _ => hq _ (by decide)⟩⟩
theorem noteDone_ok {post : (Nat → Int32) → (Nat → Nat → Int32) → Prop} {x : Int32} {n m : Nat} (hl : l < 7) (h16 : J 16 = nI l) (h17 : J 17 = zI o) (o1 : -8 ≤ o) (o2 : o ≤ 7) (h8 : J 8 = nI (n + 1)) (hn : n < 48) (hm : B 9 n = nI m) (hm4 : m < 4) (hq : post J (if J 15 = 0 then upd2 (upd2 B 10 (4 * n + m) x) 9 n (nI (m + 1)) else upd2 (upd2 (upd2 B 10 (4 * n + m) x) 9 n (nI (m + 1))) 11 (hix l o) (J 14))) : wp_TuneSetterModel_noteDone x J B post := by
  unfold wp_TuneSetterModel_noteDone
  rw [hix_eq h16 h17 o1 o2, nI_clamp (by unfold hix; omega), h8, nI_pred, nI_clamp (by omega), hm, x4, nI_add, nI_clamp (by omega), nI_1]
  refine ⟨vp_in_nI hn (by omega), vp_in_nI (by omega) (by omega), vp_in_nI hn (by omega), vp_in_nI hn (by omega), fun z => ?_, fun z => ⟨vp_in_nI (by unfold hix; omega) (by omega), ?_⟩⟩
  · rw [if_pos z] at hq; exact hq
  · rw [if_neg z] at hq; exact hq
end TN

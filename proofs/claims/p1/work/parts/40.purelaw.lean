/-! the law, pure: written by wip/gen/purelaw.py -/
abbrev Prel : Type := (Nat → Int32) → (Nat → Nat → Int32) → (Nat → Int32) → (Nat → Nat → Int32) → Prop
def T_metre (P : Prel) (I : Nat → Int32) (A : Nat → Nat → Int32) (J : Nat → Int32) (B : Nat → Nat → Int32) : Prop := ∀ (x y : Int32) (post : Int32 → Int32 → Prel), (∀ (r : Int32) (I : Nat → Int32) (A : Nat → Nat → Int32) (J : Nat → Int32) (B : Nat → Nat → Int32), P I A J B → post r r I A J B) → wp_TuneSetter_metre x y I A (fun r I1 A1 => wp_TuneSetterModel_metre x y J B (fun r1 J1 B1 => post r r1 I1 A1 J1 B1))
def T_unit (P : Prel) (I : Nat → Int32) (A : Nat → Nat → Int32) (J : Nat → Int32) (B : Nat → Nat → Int32) : Prop := ∀ (x : Int32) (post : Int32 → Int32 → Prel), (∀ (r : Int32) (I : Nat → Int32) (A : Nat → Nat → Int32) (J : Nat → Int32) (B : Nat → Nat → Int32), P I A J B → post r r I A J B) → wp_TuneSetter_unit x I A (fun r I1 A1 => wp_TuneSetterModel_unit x J B (fun r1 J1 B1 => post r r1 I1 A1 J1 B1))
def T_key (P : Prel) (I : Nat → Int32) (A : Nat → Nat → Int32) (J : Nat → Int32) (B : Nat → Nat → Int32) : Prop := ∀ (x : Int32) (post : Int32 → Int32 → Prel), (∀ (r : Int32) (I : Nat → Int32) (A : Nat → Nat → Int32) (J : Nat → Int32) (B : Nat → Nat → Int32), P I A J B → post r r I A J B) → wp_TuneSetter_key x I A (fun r I1 A1 => wp_TuneSetterModel_key x J B (fun r1 J1 B1 => post r r1 I1 A1 J1 B1))
def T_type (P : Prel) (I : Nat → Int32) (A : Nat → Nat → Int32) (J : Nat → Int32) (B : Nat → Nat → Int32) : Prop := ∀ (x : Int32) (post : Int32 → Int32 → Prel), (∀ (r : Int32) (I : Nat → Int32) (A : Nat → Nat → Int32) (J : Nat → Int32) (B : Nat → Nat → Int32), P I A J B → post r r I A J B) → wp_TuneSetter_type ((x.toUInt32 % 65536).toInt32) I A (fun r I1 A1 => wp_TuneSetterModel_type ((x.toUInt32 % 65536).toInt32) J B (fun r1 J1 B1 => post r r1 I1 A1 J1 B1))
def T_clear (P : Prel) (I : Nat → Int32) (A : Nat → Nat → Int32) (J : Nat → Int32) (B : Nat → Nat → Int32) : Prop := ∀ (post : Int32 → Int32 → Prel), (∀ (r : Int32) (I : Nat → Int32) (A : Nat → Nat → Int32) (J : Nat → Int32) (B : Nat → Nat → Int32), P I A J B → post r r I A J B) → wp_TuneSetter_clear I A (fun r I1 A1 => wp_TuneSetterModel_clear J B (fun r1 J1 B1 => post r r1 I1 A1 J1 B1))
def T_read (P : Prel) (I : Nat → Int32) (A : Nat → Nat → Int32) (J : Nat → Int32) (B : Nat → Nat → Int32) : Prop := ∀ (post : Int32 → Int32 → Prel), (∀ (r : Int32) (I : Nat → Int32) (A : Nat → Nat → Int32) (J : Nat → Int32) (B : Nat → Nat → Int32), P I A J B → post r r I A J B) → wp_TuneSetter_read I A (fun r I1 A1 => wp_TuneSetterModel_read J B (fun r1 J1 B1 => post r r1 I1 A1 J1 B1))
def T_place (P : Prel) (I : Nat → Int32) (A : Nat → Nat → Int32) (J : Nat → Int32) (B : Nat → Nat → Int32) : Prop := ∀ (post : Int32 → Int32 → Prel), (∀ (r : Int32) (I : Nat → Int32) (A : Nat → Nat → Int32) (J : Nat → Int32) (B : Nat → Nat → Int32), P I A J B → post r r I A J B) → wp_TuneSetter_place I A (fun r I1 A1 => wp_TuneSetterModel_place J B (fun r1 J1 B1 => post r r1 I1 A1 J1 B1))
def T_bars (P : Prel) (I : Nat → Int32) (A : Nat → Nat → Int32) (J : Nat → Int32) (B : Nat → Nat → Int32) : Prop := ∀ (post : Int32 → Int32 → Prel), (∀ (r : Int32) (I : Nat → Int32) (A : Nat → Nat → Int32) (J : Nat → Int32) (B : Nat → Nat → Int32), P I A J B → post r r I A J B) → wp_TuneSetter_bars I A (fun r I1 A1 => wp_TuneSetterModel_bars J B (fun r1 J1 B1 => post r r1 I1 A1 J1 B1))
def T_notes (P : Prel) (I : Nat → Int32) (A : Nat → Nat → Int32) (J : Nat → Int32) (B : Nat → Nat → Int32) : Prop := ∀ (post : Int32 → Int32 → Prel), (∀ (r : Int32) (I : Nat → Int32) (A : Nat → Nat → Int32) (J : Nat → Int32) (B : Nat → Nat → Int32), P I A J B → post r r I A J B) → wp_TuneSetter_notes I A (fun r I1 A1 => wp_TuneSetterModel_notes J B (fun r1 J1 B1 => post r r1 I1 A1 J1 B1))
def T_note (P : Prel) (I : Nat → Int32) (A : Nat → Nat → Int32) (J : Nat → Int32) (B : Nat → Nat → Int32) : Prop := ∀ (x y : Int32) (post : Int32 → Int32 → Prel), (∀ (r : Int32) (I : Nat → Int32) (A : Nat → Nat → Int32) (J : Nat → Int32) (B : Nat → Nat → Int32), P I A J B → post r r I A J B) → wp_TuneSetter_note x y I A (fun r I1 A1 => wp_TuneSetterModel_note x y J B (fun r1 J1 B1 => post r r1 I1 A1 J1 B1))
def T_width (P : Prel) (I : Nat → Int32) (A : Nat → Nat → Int32) (J : Nat → Int32) (B : Nat → Nat → Int32) : Prop := ∀ (x : Int32) (post : Int32 → Int32 → Prel), (∀ (r : Int32) (I : Nat → Int32) (A : Nat → Nat → Int32) (J : Nat → Int32) (B : Nat → Nat → Int32), P I A J B → post r r I A J B) → wp_TuneSetter_width x I A (fun r I1 A1 => wp_TuneSetterModel_width x J B (fun r1 J1 B1 => post r r1 I1 A1 J1 B1))
def T_write (P : Prel) (I : Nat → Int32) (A : Nat → Nat → Int32) (J : Nat → Int32) (B : Nat → Nat → Int32) : Prop := ∀ (post : Int32 → Int32 → Prel), (∀ (r : Int32) (I : Nat → Int32) (A : Nat → Nat → Int32) (J : Nat → Int32) (B : Nat → Nat → Int32), P I A J B → post r r I A J B) → wp_TuneSetter_write I A (fun r I1 A1 => wp_TuneSetterModel_write J B (fun r1 J1 B1 => post r r1 I1 A1 J1 B1))
def T_byteAt (P : Prel) (I : Nat → Int32) (A : Nat → Nat → Int32) (J : Nat → Int32) (B : Nat → Nat → Int32) : Prop := ∀ (x : Int32) (post : Int32 → Int32 → Prel), (∀ (r : Int32) (I : Nat → Int32) (A : Nat → Nat → Int32) (J : Nat → Int32) (B : Nat → Nat → Int32), P I A J B → post r r I A J B) → wp_TuneSetter_byteAt x I A (fun r I1 A1 => wp_TuneSetterModel_byteAt x J B (fun r1 J1 B1 => post r r1 I1 A1 J1 B1))
def T_breaking (P : Prel) (I : Nat → Int32) (A : Nat → Nat → Int32) (J : Nat → Int32) (B : Nat → Nat → Int32) : Prop := ∀ (x : Int32) (post : Int32 → Int32 → Prel), (∀ (r : Int32) (I : Nat → Int32) (A : Nat → Nat → Int32) (J : Nat → Int32) (B : Nat → Nat → Int32), P I A J B → post r r I A J B) → wp_TuneSetter_breaking x I A (fun r I1 A1 => wp_TuneSetterModel_breaking x J B (fun r1 J1 B1 => post r r1 I1 A1 J1 B1))
def T_lines (P : Prel) (I : Nat → Int32) (A : Nat → Nat → Int32) (J : Nat → Int32) (B : Nat → Nat → Int32) : Prop := ∀ (x : Int32) (post : Int32 → Int32 → Prel), (∀ (r : Int32) (I : Nat → Int32) (A : Nat → Nat → Int32) (J : Nat → Int32) (B : Nat → Nat → Int32), P I A J B → post r r I A J B) → wp_TuneSetter_lines x I A (fun r I1 A1 => wp_TuneSetterModel_lines x J B (fun r1 J1 B1 => post r r1 I1 A1 J1 B1))
def T_all (P : Prel) (I : Nat → Int32) (A : Nat → Nat → Int32) (J : Nat → Int32) (B : Nat → Nat → Int32) : Prop := T_metre P I A J B ∧ T_unit P I A J B ∧ T_key P I A J B ∧ T_type P I A J B ∧ T_clear P I A J B ∧ T_read P I A J B ∧ T_place P I A J B ∧ T_bars P I A J B ∧ T_notes P I A J B ∧ T_note P I A J B ∧ T_width P I A J B ∧ T_write P I A J B ∧ T_byteAt P I A J B ∧ T_breaking P I A J B ∧ T_lines P I A J B ∧ P I A J B
theorem ofNat_nI (n : Nat) : Int32.ofNat n = nI n := rfl
theorem law_exit {L k : Nat} (hL : L ≤ 1536) (h : L < 3 * k + 3) : Int32.ofNat L - 3 < nI (3 * k) ∨ 3 * k + 3 ≤ L ∨ 1536 < 3 * k := by
  by_cases hk : 1536 < 3 * k
  · exact Or.inr (Or.inr hk)
  · left
    rw [ofNat_nI]
    by_cases h3 : 3 ≤ L
    · rw [show (3 : Int32) = nI 3 from by decide, pk_sub h3]
      exact nI_lt (by omega) (by omega)
    · have h0 := pk_sneg (a := L) (b := 3) (by omega) (by omega)
      rw [show (3 : Int32) = nI 3 from by decide]
      have h1 := nI_pos' (n := 3 * k) (by omega)
      rw [Int32.lt_iff_toInt_lt] at h0 ⊢
      rw [Int32.le_iff_toInt_le] at h1
      omega
set_option maxHeartbeats 4000000 in
theorem law_step {L : Nat} {xs : Nat → Int32} {n k : Nat} {P : Prel} (I : Nat → Int32) (A : Nat → Nat → Int32) (J : Nat → Int32) (B : Nat → Nat → Int32) (hL : L ≤ 1536) (hk : 3 * k + 3 ≤ L) (h : T_all P I A J B) (hn : ∀ (I : Nat → Int32) (A : Nat → Nat → Int32) (J : Nat → Int32) (B : Nat → Nat → Int32), P I A J B → wp_law_18 L xs n (nI (3 * (k + 1))) I A J B) : wp_law_18 L xs (n + 1) (nI (3 * k)) I A J B := by
  obtain ⟨h0, h1, h2, h3, h4, h5, h6, h7, h8, h9, h10, h11, h12, h13, h14, hd⟩ := h
  have e0 : vp_in (nI (3 * k)) L := vp_in_nI (by omega) (by omega)
  have e1 : vp_in (nI (3 * k) + 1) L := by rw [nI_1]; exact vp_in_nI (by omega) (by omega)
  have e2 : vp_in (nI (3 * k) + 2) L := by rw [show (2 : Int32) = nI 2 from by decide, nI_add]; exact vp_in_nI (by omega) (by omega)
  have k4 : ∀ (I : Nat → Int32) (A : Nat → Nat → Int32) (J : Nat → Int32) (B : Nat → Nat → Int32), P I A J B → wp_law_415 L xs (fun y3 I A J B => wp_law_18 L xs n y3 I A J B) (nI (3 * k)) I A J B := by
    intro I A J B hP v hv
    rw [show (3 : Int32) = nI 3 from by decide, nI_add, show 3 * k + 3 = 3 * (k + 1) by omega] at hv
    rw [hv]
    exact hn I A J B hP
  have kq : ∀ (r : Int32) (I : Nat → Int32) (A : Nat → Nat → Int32) (J : Nat → Int32) (B : Nat → Nat → Int32), P I A J B → ((r = r → wp_law_415 L xs (fun y3 I A J B => wp_law_18 L xs n y3 I A J B) (nI (3 * k)) I A J B) ∧ (¬ r = r → False)) := fun r I A J B hP => ⟨fun _ => k4 I A J B hP, fun q => q rfl⟩
  unfold wp_law_18
  refine ⟨fun _ => trivial, fun _ => ⟨e0, ?_⟩⟩
  refine ⟨?_, ?_, ?_, ?_, ?_, ?_, ?_, ?_, ?_, ?_, ?_, ?_, ?_, ?_, ?_, ?_⟩
  · intro _
    refine ⟨e1, e2, ?_⟩
    simp only [e1, e2, true_and]
    exact h0 _ _ _ kq
  · intro _
    refine ⟨e1, ?_⟩
    simp only [e1, true_and]
    exact h1 _ _ kq
  · intro _
    refine ⟨e1, ?_⟩
    simp only [e1, true_and]
    exact h2 _ _ kq
  · intro _
    refine ⟨e1, ?_⟩
    simp only [e1, true_and]
    exact h3 _ _ kq
  · intro _
    exact h4 _ kq
  · intro _
    exact h5 _ kq
  · intro _
    exact h6 _ kq
  · intro _
    exact h7 _ kq
  · intro _
    exact h8 _ kq
  · intro _
    refine ⟨e1, e2, ?_⟩
    simp only [e1, e2, true_and]
    exact h9 _ _ _ kq
  · intro _
    refine ⟨e1, ?_⟩
    simp only [e1, true_and]
    exact h10 _ _ kq
  · intro _
    exact h11 _ kq
  · intro _
    refine ⟨e1, ?_⟩
    simp only [e1, true_and]
    exact h12 _ _ kq
  · intro _
    refine ⟨e1, ?_⟩
    simp only [e1, true_and]
    exact h13 _ _ kq
  · intro _
    refine ⟨e1, ?_⟩
    simp only [e1, true_and]
    exact h14 _ _ kq
  · intro _ _ _ _ _ _ _ _ _ _ _ _ _ _ _
    exact k4 I A J B hd
theorem law_pure {L : Nat} {xs : Nat → Int32} (Rel : Nat → Prel) (hL : L ≤ 1536) (hs : ∀ k, 3 * k + 3 ≤ L → ∀ (I : Nat → Int32) (A : Nat → Nat → Int32) (J : Nat → Int32) (B : Nat → Nat → Int32), Rel k I A J B → T_all (Rel (k + 1)) I A J B) : ∀ (m k : Nat) (I : Nat → Int32) (A : Nat → Nat → Int32) (J : Nat → Int32) (B : Nat → Nat → Int32), L < 3 * (k + m) + 3 → 3 * k ≤ 1536 → Rel k I A J B → wp_law_18 L xs (m + 1) (nI (3 * k)) I A J B := by
  intro m
  induction m with
  | zero =>
    intro k I A J B h1 h2 hR
    unfold wp_law_18
    rcases law_exit (k := k) hL (by omega) with h | h | h
    · exact ⟨fun _ => trivial, fun q => absurd h q⟩
    · omega
    · omega
  | succ m ih =>
    intro k I A J B h1 h2 hR
    by_cases hk : 3 * k + 3 ≤ L
    · exact law_step I A J B hL hk (hs k hk I A J B hR) (fun I A J B hP => ih (k + 1) I A J B (by omega) (by omega) hP)
    · unfold wp_law_18
      rcases law_exit (k := k) hL (by omega) with h | h | h
      · exact ⟨fun _ => trivial, fun q => absurd h q⟩
      · omega
      · omega
theorem law_all {L : Nat} {xs : Nat → Int32} (Rel : Nat → Prel) (hL : L ≤ 1536) (h0 : Rel 0 I0C A0 I0R A0) (hs : ∀ k, 3 * k + 3 ≤ L → ∀ (I : Nat → Int32) (A : Nat → Nat → Int32) (J : Nat → Int32) (B : Nat → Nat → Int32), Rel k I A J B → T_all (Rel (k + 1)) I A J B) : ∃ n, wp_law_18 L xs n 0 I0C A0 I0R A0 := by
  refine ⟨L + 1, ?_⟩
  have h := law_pure (xs := xs) Rel hL hs L 0 I0C A0 I0R A0 (by omega) (by omega) h0
  rw [show (0 : Int32) = nI (3 * 0) from by decide]
  exact h

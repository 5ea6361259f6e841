/-! what class and reference have in common between two calls -/
def RelSet (I J : Nat → Int32) : Prop := (1 ≤ J 0 ∧ J 0 ≤ 12) ∧ (J 1 = 2 ∨ J 1 = 4 ∨ J 1 = 8) ∧ (J 2 = 4 ∨ J 2 = 8 ∨ J 2 = 16) ∧ (-7 ≤ J 3 ∧ J 3 ≤ 7) ∧ I 31 = 384 * J 0 / J 1 ∧ I 32 = 384 / J 2 ∧ I 33 = J 3
def RelText (I : Nat → Int32) (A : Nat → Nat → Int32) (J : Nat → Int32) (B : Nat → Nat → Int32) : Prop := ∃ s : Nat, s ≤ 120 ∧ I 30 = nI s ∧ J 4 = nI s ∧ ∀ k, k < s → A 1 k = B 1 k ∧ 32 ≤ A 1 k ∧ A 1 k ≤ 126
def RelFile (I : Nat → Int32) (A : Nat → Nat → Int32) (J : Nat → Int32) (B : Nat → Nat → Int32) : Prop := ∃ n : Nat, n ≤ 794 ∧ I 28 = nI n ∧ J 26 = nI n ∧ ∀ k, k < n → A 23 k = B 17 k
/-- how often 48 can be doubled within t -/
def lgw (t : Nat) : Nat := if t < 48 then 0 else if t < 96 then 1 else if t < 192 then 2 else if t < 384 then 3 else if t < 768 then 4 else if t < 1536 then 5 else 6
/-- the width of the items from i on, n of them -/
def wsum (sg tk : Nat → Nat) (i : Nat) : Nat → Nat
  | 0 => 0
  | n + 1 => wsum sg tk i n + (3 + sg (i + n) + lgw (tk (i + n)))
/-- the notes: c of them, alike on both sides -/
def RelNotes (c : Nat) (A B : Nat → Nat → Int32) : Prop := ∀ i, i < c → A 17 i = B 13 i ∧ A 18 i = B 14 i ∧ A 19 i = B 15 i ∧ ∃ o d p : Nat, A 17 i = nI o ∧ A 18 i = nI d ∧ A 19 i = nI p ∧ o + d ≤ 800000 ∧ 0 < d ∧ p < 128
/-- the bars' widths: b bars; bar k has the items from it k up to it (k + 1) -/
def RelBars (b : Nat) (A : Nat → Nat → Int32) (J : Nat → Int32) (B : Nat → Nat → Int32) : Prop := ∃ it sg tk : Nat → Nat, (∀ k, k < b → it k ≤ it (k + 1)) ∧ it b ≤ 48 ∧ (∀ k, k < b → B 2 k = nI (it k)) ∧ J 8 = nI (it b) ∧ (∀ i, i < it b → B 8 i = nI (sg i) ∧ sg i ≤ 120 ∧ B 6 i = nI (tk i) ∧ 0 < tk i ∧ tk i ≤ 1536) ∧ ∀ k, k < b → A 7 k = nI (2 + wsum sg tk (it k) (it (k + 1) - it k))
def RelTune (I : Nat → Int32) (A : Nat → Nat → Int32) (J : Nat → Int32) (B : Nat → Nat → Int32) : Prop := ∃ b c : Nat, 1 ≤ b ∧ b ≤ 8 ∧ c ≤ 64 ∧ I 0 = nI b ∧ J 5 = nI b ∧ I 23 = nI c ∧ J 25 = nI c ∧ RelNotes c A B ∧ RelBars b A J B
def Rel : Prel := fun I A J B => RelSet I J ∧ RelText I A J B ∧ RelFile I A J B ∧ I 35 = J 7 ∧ I 34 = J 6 ∧ (I 34 = 0 ∨ (I 34 = 1 ∧ RelTune I A J B))
theorem upd_eq (f : Nat → Int32) (k : Nat) (x : Int32) : upd f k x k = x := if_pos rfl
theorem upd_ne {f : Nat → Int32} {k j : Nat} {x : Int32} (h : j ≠ k) : upd f k x j = f j := if_neg h
theorem upd2_eq (A : Nat → Nat → Int32) (k i : Nat) (v : Int32) : upd2 A k i v k = upd (A k) i v := if_pos rfl
theorem upd2_ne {A : Nat → Nat → Int32} {k i j : Nat} {v : Int32} (h : j ≠ k) : upd2 A k i v j = A j := if_neg h
theorem Rel0 : Rel I0C A0 I0R A0 := by
  refine ⟨⟨⟨by decide, by decide⟩, by decide, by decide, ⟨by decide, by decide⟩, by decide, by decide, by decide⟩, ⟨0, by decide, by decide, by decide, fun k hk => absurd hk (Nat.not_lt_zero k)⟩, ⟨0, by decide, by decide, by decide, fun k hk => absurd hk (Nat.not_lt_zero k)⟩, by decide, by decide, Or.inl (by decide)⟩
/-- what is told of the settings alone leaves the rest as it is -/
theorem Rel_set {I I1 : Nat → Int32} {A : Nat → Nat → Int32} {J J1 : Nat → Int32} {B : Nat → Nat → Int32} (h : Rel I A J B) (hs : RelSet I1 J1) (hI : ∀ k, k ≠ 31 → k ≠ 32 → k ≠ 33 → I1 k = I k) (hJ : ∀ k, 3 < k → J1 k = J k) : Rel I1 A J1 B := by
  obtain ⟨-, ⟨s, t1, t2, t3, t4⟩, ⟨n, f1, f2, f3, f4⟩, h4, h5, h6⟩ := h
  refine ⟨hs, ⟨s, t1, by rw [hI 30 (by decide) (by decide) (by decide)]; exact t2, by rw [hJ 4 (by decide)]; exact t3, t4⟩, ⟨n, f1, by rw [hI 28 (by decide) (by decide) (by decide)]; exact f2, by rw [hJ 26 (by decide)]; exact f3, f4⟩, ?_, ?_, ?_⟩
  · rw [hI 35 (by decide) (by decide) (by decide), hJ 7 (by decide)]; exact h4
  · rw [hI 34 (by decide) (by decide) (by decide), hJ 6 (by decide)]; exact h5
  · rw [hI 34 (by decide) (by decide) (by decide)]
    rcases h6 with h6 | ⟨h6, b, c, q1, q2, q3, q4, q5, q6, q7, q8, it, sg, tk, r1, r2, r3, r4, r5⟩
    · exact Or.inl h6
    · exact Or.inr ⟨h6, b, c, q1, q2, q3, by rw [hI 0 (by decide) (by decide) (by decide)]; exact q4, by rw [hJ 5 (by decide)]; exact q5, by rw [hI 23 (by decide) (by decide) (by decide)]; exact q6, by rw [hJ 25 (by decide)]; exact q7, q8, it, sg, tk, r1, r2, r3, by rw [hJ 8 (by decide)]; exact r4, r5⟩
theorem ok_metre {I : Nat → Int32} {A : Nat → Nat → Int32} {J : Nat → Int32} {B : Nat → Nat → Int32} (h : Rel I A J B) : T_metre Rel I A J B := by
  intro x y post hp
  have bad : ∀ s0 : Int32, s0 = 0 → wp_TuneSetterModel_metre_32 (fun r1 J1 B1 => post 0 r1 I A J1 B1) x y s0 J B := by
    intro s0 e
    subst e
    refine ⟨fun _ => ⟨fun _ => ⟨vz0, hp _ _ _ _ _ (Rel_set h ?_ (fun _ _ _ _ => rfl) (fun k hk => ?_))⟩, fun q => absurd rfl q⟩, fun q => absurd rfl q⟩
    · have hs := h.1
      unfold RelSet at hs ⊢
      simpa [upd] using hs
    · rw [upd_ne (by omega), upd_ne (by omega)]
  have good : ¬ x < 1 → ¬ 12 < x → (y = 2 ∨ y = 4 ∨ y = 8) → wp_TuneSetter_metre_29 (fun r I1 A1 => wp_TuneSetterModel_metre_32 (fun r1 J1 B1 => post r r1 I1 A1 J1 B1) x y 1 J B) x y I A := by
    intro h1 h2 hy
    refine ⟨by rcases hy with e | e | e <;> subst e <;> decide, fun q => absurd q (by decide), fun _ => ⟨fun q => absurd q (by decide), fun _ => ⟨vz1, hp _ _ _ _ _ (Rel_set h ?_ (fun k k1 k2 k3 => ?_) (fun k hk => ?_))⟩⟩⟩
    · have hs := h.1
      unfold RelSet at hs ⊢
      obtain ⟨-, -, s3, s4, -, s6, s7⟩ := hs
      refine ⟨⟨?_, ?_⟩, hy, s3, s4, rfl, s6, s7⟩
      · show 1 ≤ x
        grind
      · show x ≤ 12
        grind
    · rw [upd_ne k1]
    · rw [upd_ne (by omega), upd_ne (by omega)]
  unfold wp_TuneSetter_metre wp_TuneSetterModel_metre
  refine ⟨fun h1 => ⟨fun _ => bad 0 rfl, fun q => absurd h1 q⟩, fun h1 => ⟨fun h2 => ⟨fun q => absurd q h1, fun _ => ⟨fun _ => bad 0 rfl, fun q => absurd h2 q⟩⟩, fun h2 => ⟨fun h3 => ?_, fun h3 => ⟨fun h4 => ?_, fun h4 => ⟨fun h5 => ?_, fun h5 => ?_⟩⟩⟩⟩⟩
  · have := good h1 h2 (Or.inl h3)
    refine ⟨this.1, fun q => absurd q h1, fun _ => ⟨fun q => absurd q h2, fun _ => ⟨fun _ => this.2, fun q => absurd h3 q⟩⟩⟩
  · have := good h1 h2 (Or.inr (Or.inl h4))
    refine ⟨this.1, fun q => absurd q h1, fun _ => ⟨fun q => absurd q h2, fun _ => ⟨fun q => absurd q h3, fun _ => ⟨fun _ => this.2, fun q => absurd h4 q⟩⟩⟩⟩
  · have := good h1 h2 (Or.inr (Or.inr h5))
    refine ⟨this.1, fun q => absurd q h1, fun _ => ⟨fun q => absurd q h2, fun _ => ⟨fun q => absurd q h3, fun _ => ⟨fun q => absurd q h4, fun _ => ⟨fun _ => this.2, fun q => absurd h5 q⟩⟩⟩⟩⟩
  · exact ⟨fun q => absurd q h1, fun _ => ⟨fun q => absurd q h2, fun _ => ⟨fun q => absurd q h3, fun _ => ⟨fun q => absurd q h4, fun _ => ⟨fun q => absurd q h5, fun _ => bad 0 rfl⟩⟩⟩⟩⟩
theorem ok_unit {I : Nat → Int32} {A : Nat → Nat → Int32} {J : Nat → Int32} {B : Nat → Nat → Int32} (h : Rel I A J B) : T_unit Rel I A J B := by
  intro x post hp
  have bad : post 0 0 I A (upd J 2 (J 2)) B := hp _ _ _ _ _ (Rel_set h (by have hs := h.1; unfold RelSet at hs ⊢; simpa [upd] using hs) (fun _ _ _ _ => rfl) (fun k hk => upd_ne (by omega)))
  have good : (x = 4 ∨ x = 8 ∨ x = 16) → post 1 1 (upd I 32 (384 / x)) A (upd J 2 x) B := by
    intro hx
    refine hp _ _ _ _ _ (Rel_set h ?_ (fun k k1 k2 k3 => upd_ne k2) (fun k hk => upd_ne (by omega)))
    have hs := h.1
    unfold RelSet at hs ⊢
    obtain ⟨s1, s2, -, s4, s5, -, s7⟩ := hs
    exact ⟨s1, s2, hx, s4, s5, rfl, s7⟩
  have nz : (x = 4 ∨ x = 8 ∨ x = 16) → ¬ x = 0 := by grind
  unfold wp_TuneSetter_unit wp_TuneSetterModel_unit wp_TuneSetterModel_unit_17
  clear hp h
  by_cases e1 : x = 4
  · grind
  · by_cases e2 : x = 8
    · grind
    · by_cases e3 : x = 16
      · grind
      · grind
theorem ok_key {I : Nat → Int32} {A : Nat → Nat → Int32} {J : Nat → Int32} {B : Nat → Nat → Int32} (h : Rel I A J B) : T_key Rel I A J B := by
  intro x post hp
  have bad : post 0 0 I A (upd J 3 (J 3)) B := hp _ _ _ _ _ (Rel_set h (by have hs := h.1; unfold RelSet at hs ⊢; simpa [upd] using hs) (fun _ _ _ _ => rfl) (fun k hk => upd_ne (by omega)))
  have good : -7 ≤ x → x ≤ 7 → post 1 1 (upd I 33 x) A (upd J 3 x) B := by
    intro h1 h2
    refine hp _ _ _ _ _ (Rel_set h ?_ (fun k k1 k2 k3 => upd_ne k3) (fun k hk => upd_ne (by omega)))
    have hs := h.1
    unfold RelSet at hs ⊢
    obtain ⟨s1, s2, s3, -, s5, s6, -⟩ := hs
    exact ⟨s1, s2, s3, ⟨h1, h2⟩, s5, s6, rfl⟩
  unfold wp_TuneSetter_key wp_TuneSetterModel_key wp_TuneSetterModel_key_16
  grind

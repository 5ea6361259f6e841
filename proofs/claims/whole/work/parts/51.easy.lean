/-! the small calls -/
theorem Rel_text {I I1 : Nat → Int32} {A A1 : Nat → Nat → Int32} {J J1 : Nat → Int32} {B B1 : Nat → Nat → Int32} (h : Rel I A J B) (ht : RelText I1 A1 J1 B1) (hI : ∀ k, k ≠ 30 → I1 k = I k) (hJ : ∀ k, k ≠ 4 → J1 k = J k) (hA : ∀ k, k ≠ 1 → A1 k = A k) (hB : ∀ k, k ≠ 1 → B1 k = B k) : Rel I1 A1 J1 B1 := by
  obtain ⟨⟨s1, s2, s3, s4, s5, s6, s7⟩, -, ⟨n, f1, f2, f3, f4⟩, h4, h5, h6⟩ := h
  refine ⟨?_, ht, ⟨n, f1, by rw [hI 28 (by decide)]; exact f2, by rw [hJ 26 (by decide)]; exact f3, by rw [hA 23 (by decide), hB 17 (by decide)]; exact f4⟩, ?_, ?_, ?_⟩
  · unfold RelSet
    rw [hI 31 (by decide), hI 32 (by decide), hI 33 (by decide), hJ 0 (by decide), hJ 1 (by decide), hJ 2 (by decide), hJ 3 (by decide)]
    exact ⟨s1, s2, s3, s4, s5, s6, s7⟩
  · rw [hI 35 (by decide), hJ 7 (by decide)]; exact h4
  · rw [hI 34 (by decide), hJ 6 (by decide)]; exact h5
  · rw [hI 34 (by decide)]
    rcases h6 with h6 | ⟨h6, b, c, q1, q2, q3, q4, q5, q6, q7, q8, it, sg, tk, r1, r2, r3, r4, r5, r6⟩
    · exact Or.inl h6
    · refine Or.inr ⟨h6, b, c, q1, q2, q3, by rw [hI 0 (by decide)]; exact q4, by rw [hJ 5 (by decide)]; exact q5, by rw [hI 23 (by decide)]; exact q6, by rw [hJ 25 (by decide)]; exact q7, ?_, it, sg, tk, r1, r2, ?_, by rw [hJ 8 (by decide)]; exact r4, ?_, ?_⟩
      · unfold RelNotes
        rw [hA 17 (by decide), hA 18 (by decide), hA 19 (by decide), hB 13 (by decide), hB 14 (by decide), hB 15 (by decide)]
        exact q8
      · rw [hB 2 (by decide)]; exact r3
      · rw [hB 8 (by decide), hB 6 (by decide)]; exact r5
      · rw [hA 7 (by decide)]; exact r6
theorem nI_lt_lit {s : Nat} (h : s < 2 ^ 31) (k : Nat) (hk : k < 2 ^ 31) (z : Int32) (e : z = nI k) : nI s < z ↔ s < k := by rw [e]; exact nI_ltI h hk
theorem ok_type {I : Nat → Int32} {A : Nat → Nat → Int32} {J : Nat → Int32} {B : Nat → Nat → Int32} (h : Rel I A J B) : T_type Rel I A J B := by
  intro x post hp
  have hc : vch ((x.toUInt32 % 65536).toInt32) := pk_vc x
  generalize (x.toUInt32 % 65536).toInt32 = z at hc ⊢
  obtain ⟨s, t1, t2, t3, t4⟩ := h.2.1
  have no : post 0 0 I A J B := hp _ _ _ _ _ h
  have c1 : I 30 < 120 ↔ s < 120 := by rw [t2]; exact nI_lt_lit (by omega) 120 (by omega) 120 (by decide)
  have c2 : J 4 = 120 ↔ s = 120 := by rw [t3, show (120 : Int32) = nI 120 from by decide]; exact nI_eq (by omega) (by omega)
  have yes : s < 120 → ¬ z < 32 → ¬ 126 < z → post 1 1 (upd I 30 (I 30 + 1)) (upd2 A 1 ((I 30).toNatClampNeg) z) (upd J 4 (J 4 + 1)) (upd2 B 1 ((J 4).toNatClampNeg) z) := by
    intro h1 h2 h3
    refine hp _ _ _ _ _ (Rel_text h ⟨s + 1, by omega, ?_, ?_, fun k hk => ?_⟩ (fun k hk => upd_ne hk) (fun k hk => upd_ne hk) (fun k hk => upd2_ne hk) (fun k hk => upd2_ne hk))
    · rw [upd_eq, t2, nI_1]
    · rw [upd_eq, t3, nI_1]
    · rw [upd2_eq, upd2_eq, t2, t3, nI_clamp (by omega)]
      by_cases hks : k = s
      · subst hks
        rw [upd_eq, upd_eq]
        refine ⟨rfl, ?_, ?_⟩ <;> grind
      · rw [upd_ne hks, upd_ne hks]
        exact t4 k (by omega)
  have v1 : s < 120 → vp_in (I 30) 120 := fun h1 => by rw [t2]; exact vp_in_nI h1 (by omega)
  have v2 : s < 120 → vp_in (J 4) 121 := fun h1 => by rw [t3]; exact vp_in_nI (by omega) (by omega)
  unfold wp_TuneSetter_type wp_TuneSetterModel_type
  refine ⟨fun h1 => ⟨fun _ => no, fun q => absurd h1 q⟩, fun h1 => ⟨fun h2 => ⟨fun q => absurd q h1, fun _ => ⟨fun _ => no, fun q => absurd h2 q⟩⟩, fun h2 => ⟨fun h3 => ?_, fun h3 => ?_⟩⟩⟩
  · have h3 := c1.mp h3
    exact ⟨v1 h3, hc, fun q => absurd q h1, fun _ => ⟨fun q => absurd q h2, fun _ => ⟨fun q => absurd (c2.mp q) (by omega), fun _ => ⟨v2 h3, yes h3 h1 h2⟩⟩⟩⟩
  · have h3 : s = 120 := by
      have := mt c1.mpr h3
      omega
    exact ⟨fun q => absurd q h1, fun _ => ⟨fun q => absurd q h2, fun _ => ⟨fun _ => no, fun q => absurd (c2.mpr h3) q⟩⟩⟩
theorem ok_clear {I : Nat → Int32} {A : Nat → Nat → Int32} {J : Nat → Int32} {B : Nat → Nat → Int32} (h : Rel I A J B) : T_clear Rel I A J B := by
  intro post hp v hv w hw
  obtain ⟨s, t1, t2, t3, t4⟩ := h.2.1
  rw [show v = w from by rw [hv, hw, t2, t3]]
  exact hp _ _ _ _ _ (Rel_text h ⟨0, by omega, rfl, rfl, fun k hk => absurd hk (Nat.not_lt_zero k)⟩ (fun k hk => upd_ne hk) (fun k hk => upd_ne hk) (fun _ _ => rfl) (fun _ _ => rfl))
theorem ok_place {I : Nat → Int32} {A : Nat → Nat → Int32} {J : Nat → Int32} {B : Nat → Nat → Int32} (h : Rel I A J B) : T_place Rel I A J B := by
  intro post hp
  show post (I 35) (J 7) I A J B
  rw [h.2.2.2.1]
  exact hp _ _ _ _ _ h
/-- no tune, or a tune, on both sides -/
theorem Rel_two {I : Nat → Int32} {A : Nat → Nat → Int32} {J : Nat → Int32} {B : Nat → Nat → Int32} (h : Rel I A J B) : (I 34 = 0 ∧ J 6 = 0) ∨ (¬ I 34 = 0 ∧ ¬ J 6 = 0 ∧ RelTune I A J B) := by
  obtain ⟨-, -, -, -, h5, h6⟩ := h
  rcases h6 with h6 | ⟨h6, h7⟩
  · exact Or.inl ⟨h6, by rw [← h5]; exact h6⟩
  · exact Or.inr ⟨by rw [h6]; decide, by rw [← h5, h6]; decide, h7⟩
theorem ok_bars {I : Nat → Int32} {A : Nat → Nat → Int32} {J : Nat → Int32} {B : Nat → Nat → Int32} (h : Rel I A J B) : T_bars Rel I A J B := by
  intro post hp
  rcases Rel_two h with ⟨e1, e2⟩ | ⟨e1, e2, b, c, q1, q2, q3, q4, q5, q6, q7, -⟩
  · exact ⟨fun _ => ⟨fun _ => hp _ _ _ _ _ h, fun q => absurd e2 q⟩, fun q => absurd e1 q⟩
  · refine ⟨fun q => absurd q e1, fun _ => ⟨fun q => absurd q e2, fun _ => ?_⟩⟩
    rw [q4, q5]
    exact hp _ _ _ _ _ h
theorem ok_notes {I : Nat → Int32} {A : Nat → Nat → Int32} {J : Nat → Int32} {B : Nat → Nat → Int32} (h : Rel I A J B) : T_notes Rel I A J B := by
  intro post hp
  rcases Rel_two h with ⟨e1, e2⟩ | ⟨e1, e2, b, c, q1, q2, q3, q4, q5, q6, q7, -⟩
  · exact ⟨fun _ => ⟨fun _ => hp _ _ _ _ _ h, fun q => absurd e2 q⟩, fun q => absurd e1 q⟩
  · refine ⟨fun q => absurd q e1, fun _ => ⟨fun q => absurd q e2, fun _ => ?_⟩⟩
    rw [q6, q7]
    exact hp _ _ _ _ _ h
theorem ok_note {I : Nat → Int32} {A : Nat → Nat → Int32} {J : Nat → Int32} {B : Nat → Nat → Int32} (h : Rel I A J B) : T_note Rel I A J B := by
  intro x y post hp
  have no : post (-1) (-1) I A J B := hp _ _ _ _ _ h
  rcases Rel_two h with ⟨e1, e2⟩ | ⟨e1, e2, b, c, q1, q2, q3, q4, q5, q6, q7, q8, -⟩
  · refine ⟨fun _ => ⟨fun _ => no, fun q => absurd e2 q⟩, fun h1 => ⟨fun _ => ⟨fun h2 => absurd h2 h1, fun _ => ⟨fun _ => no, fun q => absurd e2 q⟩⟩, fun q => absurd e1 q⟩⟩
  · refine ⟨fun h1 => ⟨fun q => absurd q e2, fun _ => ⟨fun _ => no, fun q => absurd h1 q⟩⟩, fun h1 => ⟨fun q => absurd q e1, fun _ => ?_⟩⟩
    unfold wp_TuneSetterModel_note
    rw [q6, q7]
    rcases pk_ix x (n := c) (by omega) with hx | hx | ⟨j, hj, rfl⟩
    · exact absurd hx h1
    · refine ⟨fun q => ?_, fun _ => ⟨fun q => absurd q e2, fun _ => ⟨fun q => absurd q h1, fun _ => ⟨fun _ => no, fun q => absurd hx q⟩⟩⟩⟩
      exact absurd q (by grind)
    · have v := vp_in_nI (n := j) (N := 64) (by omega) (by omega)
      obtain ⟨n1, n2, n3, -⟩ := q8 j hj
      have l1 : nI j < nI c := nI_lt hj (by omega)
      have l2 : ¬ nI c ≤ nI j := nI_ge hj (by omega)
      have c0 := nI_clamp (n := j) (by omega)
      refine ⟨fun _ => ⟨fun hy => ?_, fun hy => ?_, fun hy => ?_, fun y0 y1 y2 => ?_⟩, fun q => absurd l1 q⟩
      · subst hy
        refine ⟨v, fun q => absurd q e2, fun _ => ⟨fun q => absurd q h1, fun _ => ⟨fun q => absurd q l2, fun _ => ⟨fun q => absurd q (by decide), fun _ => ⟨fun _ => ⟨fun _ => ⟨v, ?_⟩, fun q => absurd rfl q⟩, fun q => absurd (by decide) q⟩⟩⟩⟩⟩
        rw [c0, n1]
        exact hp _ _ _ _ _ h
      · subst hy
        refine ⟨v, fun q => absurd q e2, fun _ => ⟨fun q => absurd q h1, fun _ => ⟨fun q => absurd q l2, fun _ => ⟨fun q => absurd q (by decide), fun _ => ⟨fun _ => ⟨fun q => absurd q (by decide), fun _ => ⟨fun _ => ⟨v, ?_⟩, fun q => absurd rfl q⟩⟩, fun q => absurd (by decide) q⟩⟩⟩⟩⟩
        rw [c0, n2]
        exact hp _ _ _ _ _ h
      · subst hy
        refine ⟨v, fun q => absurd q e2, fun _ => ⟨fun q => absurd q h1, fun _ => ⟨fun q => absurd q l2, fun _ => ⟨fun q => absurd q (by decide), fun _ => ⟨fun _ => ⟨fun q => absurd q (by decide), fun _ => ⟨fun q => absurd q (by decide), fun _ => ⟨v, ?_⟩⟩⟩, fun q => absurd (by decide) q⟩⟩⟩⟩⟩
        rw [c0, n3]
        exact hp _ _ _ _ _ h
      · refine ⟨fun q => absurd q e2, fun _ => ⟨fun q => absurd q h1, fun _ => ⟨fun q => absurd q l2, fun _ => ⟨fun _ => no, fun z1 => ⟨fun z2 => ?_, fun _ => no⟩⟩⟩⟩⟩
        exfalso
        grind
theorem ok_byteAt {I : Nat → Int32} {A : Nat → Nat → Int32} {J : Nat → Int32} {B : Nat → Nat → Int32} (h : Rel I A J B) : T_byteAt Rel I A J B := by
  intro x post hp
  have no : post (-1) (-1) I A J B := hp _ _ _ _ _ h
  obtain ⟨n, f1, f2, f3, f4⟩ := h.2.2.1
  unfold wp_TuneSetter_byteAt wp_TuneSetterModel_byteAt
  rw [f2, f3]
  rcases pk_ix x (n := n) (by omega) with hx | hx | ⟨j, hj, rfl⟩
  · exact ⟨fun _ => ⟨fun _ => no, fun q => absurd hx q⟩, fun q => absurd hx q⟩
  · have h1 : ¬ x < 0 := by
      have := nI_pos' (n := n) (by omega)
      grind
    have h2 : ¬ x < nI n := by grind
    exact ⟨fun q => absurd q h1, fun _ => ⟨fun q => absurd q h2, fun _ => ⟨fun q => absurd q h1, fun _ => ⟨fun _ => no, fun q => absurd hx q⟩⟩⟩⟩
  · have h1 : ¬ nI j < 0 := nI_pos (by omega)
    have l1 : nI j < nI n := nI_lt hj (by omega)
    have l2 : ¬ nI n ≤ nI j := nI_ge hj (by omega)
    refine ⟨fun q => absurd q h1, fun _ => ⟨fun _ => ⟨vp_in_nI (by omega) (by omega), fun q => absurd q h1, fun _ => ⟨fun q => absurd q l2, fun _ => ⟨vp_in_nI (by omega) (by omega), ?_⟩⟩⟩, fun q => absurd l1 q⟩⟩
    rw [nI_clamp (by omega), f4 j hj]
    exact hp _ _ _ _ _ h

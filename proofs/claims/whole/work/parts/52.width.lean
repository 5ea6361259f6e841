/-! the reference's width of a bar -/
theorem wsum_front (sg tk : Nat → Nat) (i n : Nat) : wsum sg tk i (n + 1) = (3 + sg i + lgw (tk i)) + wsum sg tk (i + 1) n := by
  induction n with
  | zero => simp [wsum]
  | succ n ih =>
    rw [wsum, ih, wsum, show i + (n + 1) = i + 1 + n by omega]
    omega
theorem lgw_le (t : Nat) : lgw t ≤ 6 := by unfold lgw; grind
theorem wsum_le {sg tk : Nat → Nat} {i n : Nat} (h : ∀ j, j < i + n → sg j ≤ 120) : wsum sg tk i n ≤ 129 * n := by
  induction n with
  | zero => simp [wsum]
  | succ n ih =>
    have h1 := ih (fun j hj => h j (by omega))
    have h2 := h (i + n) (by omega)
    have h3 := lgw_le (tk (i + n))
    rw [wsum]
    omega
section WD
variable {k36 : Int32 → Int32 → Int32 → (Nat → Int32) → (Nat → Nat → Int32) → Prop} {post : Int32 → (Nat → Int32) → (Nat → Nat → Int32) → Prop} {J : Nat → Int32} {B : Nat → Nat → Int32} {y3 : Int32}
theorem w58_stop {n w i s t : Nat} (hi : i < 48) (hB : B 6 i = nI t) (ht : t ≤ 1536) (hs : s ≤ 4000) (h : t < s) (k : k36 (nI w) y3 (nI (i + 1)) J B) : wp_TuneSetterModel_widthOf_58 k36 post (n + 1) (nI w) y3 (nI i) (nI s) J B := by
  unfold wp_TuneSetterModel_widthOf_58
  rw [nI_clamp (by omega), hB]
  refine ⟨vp_in_nI hi (by omega), fun _ v hv => ?_, fun q => absurd (nI_lt h (by omega)) q⟩
  rw [hv, nI_1]
  exact k
theorem w58_go {n w i s t : Nat} (hi : i < 48) (hB : B 6 i = nI t) (ht : t ≤ 1536) (h : s ≤ t) (k : wp_TuneSetterModel_widthOf_58 k36 post n (nI (w + 1)) y3 (nI i) (nI (2 * s)) J B) : wp_TuneSetterModel_widthOf_58 k36 post (n + 1) (nI w) y3 (nI i) (nI s) J B := by
  unfold wp_TuneSetterModel_widthOf_58
  rw [nI_clamp (by omega), hB]
  refine ⟨vp_in_nI hi (by omega), fun q => absurd q (nI_nlt h (by omega)), fun _ v hv x hx => ?_⟩
  rw [hv, hx, nI_1, show (2 : Int32) = nI 2 from by decide, pk_mul]
  exact k
theorem w58_all {w i t : Nat} (hi : i < 48) (hB : B 6 i = nI t) (ht : t ≤ 1536) (k : k36 (nI (w + lgw t)) y3 (nI (i + 1)) J B) : wp_TuneSetterModel_widthOf_58 k36 post 8 (nI w) y3 (nI i) 48 J B := by
  rw [show (48 : Int32) = nI 48 from by decide]
  unfold lgw at k
  by_cases h1 : t < 48
  · rw [if_pos h1] at k
    exact w58_stop hi hB ht (by omega) h1 k
  rw [if_neg h1] at k
  refine w58_go hi hB ht (by omega) ?_
  by_cases h2 : t < 96
  · rw [if_pos h2] at k
    exact w58_stop hi hB ht (by omega) h2 k
  rw [if_neg h2] at k
  refine w58_go hi hB ht (by omega) ?_
  by_cases h3 : t < 192
  · rw [if_pos h3] at k
    exact w58_stop hi hB ht (by omega) h3 k
  rw [if_neg h3] at k
  refine w58_go hi hB ht (by omega) ?_
  by_cases h4 : t < 384
  · rw [if_pos h4] at k
    exact w58_stop hi hB ht (by omega) h4 k
  rw [if_neg h4] at k
  refine w58_go hi hB ht (by omega) ?_
  by_cases h5 : t < 768
  · rw [if_pos h5] at k
    exact w58_stop hi hB ht (by omega) h5 k
  rw [if_neg h5] at k
  refine w58_go hi hB ht (by omega) ?_
  by_cases h6 : t < 1536
  · rw [if_pos h6] at k
    exact w58_stop hi hB ht (by omega) h6 k
  rw [if_neg h6] at k
  refine w58_go hi hB ht (by omega) ?_
  exact w58_stop hi hB ht (by omega) (by omega) k
theorem w36_all {sg tk : Nat → Nat} {e : Nat} (he : e ≤ 48) (hB : ∀ i, i < e → B 8 i = nI (sg i) ∧ B 6 i = nI (tk i) ∧ tk i ≤ 1536) : ∀ (m i w : Nat), i + m = e → post (nI (w + wsum sg tk i m)) J B → wp_TuneSetterModel_widthOf_36 post (m + 1) (nI w) (nI e) (nI i) J B := by
  intro m
  induction m with
  | zero =>
    intro i w hi hp
    unfold wp_TuneSetterModel_widthOf_36
    refine ⟨fun _ => by simpa [wsum] using hp, fun q => absurd (nI_le (by omega) (by omega)) q⟩
  | succ m ih =>
    intro i w hi hp
    obtain ⟨b1, b2, b3⟩ := hB i (by omega)
    unfold wp_TuneSetterModel_widthOf_36
    refine ⟨fun q => absurd q (nI_ge (by omega) (by omega)), fun _ => ⟨vp_in_nI (by omega) (by omega), fun v hv => ⟨8, ?_⟩⟩⟩
    rw [hv, nI_clamp (by omega), b1, show (3 : Int32) = nI 3 from by decide, nI_add, nI_add]
    refine w58_all (by omega) b2 b3 ?_
    refine ih (i + 1) _ (by omega) ?_
    rw [show w + (3 + sg i) + lgw (tk i) + wsum sg tk (i + 1) m = w + wsum sg tk i (m + 1) by rw [wsum_front]; omega]
    exact hp
end WD
theorem widthOf_ok {A : Nat → Nat → Int32} {J : Nat → Int32} {B : Nat → Nat → Int32} {b k : Nat} {post : Int32 → (Nat → Int32) → (Nat → Nat → Int32) → Prop} (hb : b ≤ 8) (h5 : J 5 = nI b) (h : RelBars b A J B) (hk : k < b) (hp : post (A 7 k) J B) : wp_TuneSetterModel_widthOf (nI k) J B post := by
  obtain ⟨it, sg, tk, r1, r2, r3, r4, r5, r6⟩ := h
  have mono : ∀ d x, x + d ≤ b → it x ≤ it (x + d) := by
    intro d
    induction d with
    | zero => intro x _; exact Nat.le_refl _
    | succ d ih =>
      intro x hx
      exact Nat.le_trans (ih x (by omega)) (r1 (x + d) (by omega))
  have m1 := r1 k hk
  have m2 : it (k + 1) ≤ it b := by have := mono (b - (k + 1)) (k + 1) (by omega); rwa [show k + 1 + (b - (k + 1)) = b by omega] at this
  have go : ∃ n, wp_TuneSetterModel_widthOf_36 post n 2 (nI (it (k + 1))) (nI (it k)) J B := by
    refine ⟨it (k + 1) - it k + 1, ?_⟩
    rw [show (2 : Int32) = nI 2 from by decide]
    refine w36_all (sg := sg) (tk := tk) (by omega) (fun i hi => ?_) _ _ _ (by omega) ?_
    · obtain ⟨c1, c2, c3, c4, c5⟩ := r5 i (by omega)
      exact ⟨c1, c3, c5⟩
    · rw [← r6 k hk]; exact hp
  unfold wp_TuneSetterModel_widthOf
  rw [h5, nI_1, nI_clamp (by omega), nI_clamp (by omega)]
  refine ⟨fun q v hv => ⟨vp_in_nI (by omega) (by omega), fun x hx => ?_⟩, fun q => ⟨vp_in_nI (by omega) (by omega), fun v hv => ⟨vp_in_nI (by omega) (by omega), fun x hx => ?_⟩⟩⟩
  · have hkb : k + 1 = b := by
      have := (nI_leI (a := b) (b := k + 1) (by omega) (by omega)).mp q
      omega
    rw [hv, hx, r4, r3 k hk, ← hkb]
    exact go
  · have hkb : k + 1 < b := by
      have := mt (nI_leI (a := b) (b := k + 1) (by omega) (by omega)).mpr q
      omega
    rw [hv, hx, r3 (k + 1) hkb, r3 k hk]
    exact go
theorem ok_width {I : Nat → Int32} {A : Nat → Nat → Int32} {J : Nat → Int32} {B : Nat → Nat → Int32} (h : Rel I A J B) : T_width Rel I A J B := by
  intro x post hp
  have no : post (-1) (-1) I A J B := hp _ _ _ _ _ h
  rcases Rel_two h with ⟨e1, e2⟩ | ⟨e1, e2, b, c, q1, q2, q3, q4, q5, q6, q7, q8, q9⟩
  · refine ⟨fun _ => ⟨fun _ => no, fun q => absurd e2 q⟩, fun h1 => ⟨fun _ => ⟨fun h2 => absurd h2 h1, fun _ => ⟨fun _ => no, fun q => absurd e2 q⟩⟩, fun q => absurd e1 q⟩⟩
  · refine ⟨fun h1 => ⟨fun q => absurd q e2, fun _ => ⟨fun _ => no, fun q => absurd h1 q⟩⟩, fun h1 => ⟨fun q => absurd q e1, fun _ => ?_⟩⟩
    unfold wp_TuneSetterModel_width
    rw [q4, q5]
    rcases pk_ix x (n := b) (by omega) with hx | hx | ⟨j, hj, rfl⟩
    · exact absurd hx h1
    · refine ⟨fun q => ?_, fun _ => ⟨fun q => absurd q e2, fun _ => ⟨fun q => absurd q h1, fun _ => ⟨fun _ => no, fun q => absurd hx q⟩⟩⟩⟩
      exact absurd q (by grind)
    · have l1 : nI j < nI b := nI_lt hj (by omega)
      have l2 : ¬ nI b ≤ nI j := nI_ge hj (by omega)
      refine ⟨fun _ => ⟨vp_in_nI (by omega) (by omega), fun q => absurd q e2, fun _ => ⟨fun q => absurd q h1, fun _ => ⟨fun q => absurd q l2, fun _ => ?_⟩⟩⟩, fun q => absurd l1 q⟩
      refine widthOf_ok q2 q5 q9 hj ?_
      rw [nI_clamp (by omega)]
      exact hp _ _ _ _ _ h

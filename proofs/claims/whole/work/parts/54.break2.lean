/-! breaking: the class's table, the reference's table -/
theorem bIn_some {l b : Nat} {W : Nat → Nat} {f : Nat → Nat × Nat} : ∀ (n e w : Nat) (x : Nat × Nat), ∃ y, bIn l b W f n e w (some x) = some y := by
  intro n
  induction n with
  | zero => intro e w x; exact ⟨x, rfl⟩
  | succ n ih =>
    intro e w x
    unfold bIn
    split
    · unfold bUp
      simp only
      split
      · exact ih _ _ _
      · exact ih _ _ _
    · exact ⟨x, rfl⟩
def bLe (M N : Nat) (x : Option (Nat × Nat)) : Prop := ∀ c r, x = some (c, r) → c ≤ M ∧ r ≤ N
theorem bLe_up {M N : Nat} {x : Option (Nat × Nat)} {q : Nat × Nat} (h : bLe M N x) (h1 : q.1 ≤ M) (h2 : q.2 ≤ N) : bLe M N (bUp x q) := by
  intro c r e
  unfold bUp at e
  cases x with
  | none => cases e; exact ⟨h1, h2⟩
  | some p =>
    simp only at e
    split at e
    · cases e; exact ⟨h1, h2⟩
    · cases e; exact h _ _ rfl
theorem bIn_le {l b bar p q : Nat} {W : Nat → Nat} {f : Nat → Nat × Nat} {A : Nat → Nat → Int32} (hl : l ≤ 1000) (hb : b ≤ 8) (ht : bTab p q bar b f A) : ∀ (n e w : Nat) (x : Option (Nat × Nat)), e + n = b → bar ≤ e → bLe (1000000 * (b - bar)) (b - bar) x → bLe (1000000 * (b - bar)) (b - bar) (bIn l b W f n e w x) := by
  intro n
  induction n with
  | zero => intro e w x _ _ h; exact h
  | succ n ih =>
    intro e w x he hbe h
    unfold bIn
    split
    · have hc := bCand_le (w := w + W e) hl hb ht hbe (by omega)
      exact ih _ _ _ (by omega) (by omega) (bLe_up h hc.1 hc.2)
    · exact h
theorem bDp_old {l b : Nat} {W : Nat → Nat} {m j : Nat} (h : b - m ≤ j) (hm : m < b) : bDp l b W (m + 1) j = bDp l b W m j := by
  show (if j = b - (m + 1) then _ else _) = _
  rw [if_neg (by omega)]
theorem bDp_new {l b : Nat} {W : Nat → Nat} {m : Nat} : bDp l b W (m + 1) (b - (m + 1)) = (bIn l b W (bDp l b W m) (m + 1) (b - (m + 1)) 0 none).getD (0, 0) := by
  show (if b - (m + 1) = b - (m + 1) then _ else _) = _
  rw [if_pos rfl]
theorem ix_pred (k : Nat) : nI k + (-1) = nI k - 1 := by grind
theorem ix_neg : nI 0 - 1 < 0 := by decide
/-- one more bar of the table -/
theorem bTab_step {l b k p q : Nat} {W : Nat → Nat} {A A1 : Nat → Nat → Int32} (hl : l ≤ 1000) (hb : b ≤ 8) (hk : k < b) (hw : W k ≤ l) (ht : bTab p q k b (bDp l b W (b - (k + 1))) A) (hf : bFr p q k A A1) (hs : bSt (bIn l b W (bDp l b W (b - (k + 1))) (b - k) k 0 none) p q k A1) : ∀ j, k ≤ j → j < b → A1 p j = nI (bDp l b W (b - k) j).1 ∧ A1 q j = nI (bDp l b W (b - k) j).2 ∧ (bDp l b W (b - k) j).1 ≤ 1000000 * (b - j) ∧ (bDp l b W (b - k) j).2 ≤ b - j := by
  intro j h1 h2
  have em : b - k = (b - (k + 1)) + 1 := by omega
  by_cases hj : j = k
  · subst hj
    have hn := bDp_new (l := l) (b := b) (W := W) (m := b - (j + 1))
    rw [← em, show b - (b - j) = j by omega] at hn
    obtain ⟨y, hy⟩ : ∃ y, bIn l b W (bDp l b W (b - (j + 1))) (b - j) j 0 none = some y := by
      rw [em]
      unfold bIn
      rw [if_pos (by omega)]
      exact bIn_some _ _ _ _
    rw [hn, hy]
    have hle := bIn_le (W := W) hl hb ht (b - j) j 0 none (by omega) (Nat.le_refl _) (fun c r e => by cases e) y.1 y.2 hy
    exact ⟨(hs y.1 y.2 hy).1, (hs y.1 y.2 hy).2, hle.1, hle.2⟩
  · rw [em, bDp_old (by omega) (by omega)]
    obtain ⟨u1, u2⟩ := hf.2 j hj
    rw [u1, u2]
    exact ht j (by omega) h2
theorem sv_loop {b l : Nat} {W : Nat → Nat} {post : Int32 → (Nat → Int32) → (Nat → Nat → Int32) → Prop} {I : Nat → Int32} (hb : b ≤ 8) (hl : l ≤ 1000) (hI : I 0 = nI b) (hW : ∀ k, k < b → W k ≤ 7000) :
    ∀ (k : Nat) (A : Nat → Nat → Int32), k ≤ b → (∀ j, j < b → A 7 j = nI (W j)) → (∀ j, k ≤ j → j < b → A 26 j = nI (bDp l b W (b - k) j).1 ∧ A 27 j = nI (bDp l b W (b - k) j).2 ∧ (bDp l b W (b - k) j).1 ≤ 1000000 * (b - j) ∧ (bDp l b W (b - k) j).2 ≤ b - j) → A 26 b = 0 → A 27 b = 0 →
    ((∀ j, j < k → W j ≤ l) → ∀ A1, (∀ i, i ≠ 26 → i ≠ 27 → A1 i = A i) → (∀ j, j < b → A1 26 j = nI (bDp l b W b j).1 ∧ A1 27 j = nI (bDp l b W b j).2) → post 1 I A1) →
    ((∃ j, j < k ∧ l < W j) → ∀ A1, (∀ i, i ≠ 26 → i ≠ 27 → A1 i = A i) → post 0 I A1) → wp_LineBreaker_solve_27 post (k + 1) (nI l) (nI k - 1) I A := by
  intro k
  induction k with
  | zero =>
    intro A hk hA ht z1 z2 hp1 hp0
    unfold wp_LineBreaker_solve_27
    exact ⟨fun _ => hp1 (fun j hj => absurd hj (Nat.not_lt_zero j)) A (fun _ _ _ => rfl) (fun j hj => ⟨(ht j (Nat.zero_le _) hj).1, (ht j (Nat.zero_le _) hj).2.1⟩), fun q => absurd ix_neg q⟩
  | succ k ih =>
    intro A hk hA ht z1 z2 hp1 hp0
    unfold wp_LineBreaker_solve_27
    rw [nI_pred]
    refine ⟨fun q => absurd q (nI_pos (by omega)), fun _ => ⟨vp_in_nI (by omega) (by omega), ?_⟩⟩
    rw [nI_clamp (by omega), hA k (by omega)]
    have hWk := hW k (by omega)
    refine ⟨fun q => ?_, fun q => ?_⟩
    · have hw : W k ≤ l := (nI_leI (by omega) (by omega)).mp q
      intro v6 h6
      refine ⟨b - k + 1, ?_⟩
      rw [h6, nI_1, show nI l = nI (l - 0) from rfl]
      have htab : bTab 26 27 k b (bDp l b W (b - (k + 1))) A := fun j j1 j2 => ht j (by omega) j2
      refine sf_loop hb hl hI hW (b - k) k 0 none A (by omega) (Nat.le_refl _) (by omega) (Nat.zero_le _) hA htab z1 z2 (fun c r e => by cases e) (fun c r e => by cases e) (Or.inl ⟨rfl, rfl⟩) (fun A1 hf hs => ?_)
      intro v50 h50
      rw [h50, ix_pred, show nI (l - 0) = nI l from rfl]
      refine ih A1 (by omega) (fun j hj => by rw [hf.1 7 (by decide) (by decide)]; exact hA j hj) (bTab_step hl hb (by omega) hw htab hf hs) (by rw [(hf.2 b (by omega)).1]; exact z1) (by rw [(hf.2 b (by omega)).2]; exact z2) (fun hall A2 hf2 ht2 => ?_) (fun hex A2 hf2 => ?_)
      · refine hp1 (fun j hj => ?_) A2 (fun i i1 i2 => (hf2 i i1 i2).trans (hf.1 i i1 i2)) ht2
        by_cases e : j = k
        · subst e; exact hw
        · exact hall j (by omega)
      · obtain ⟨j, j1, j2⟩ := hex
        exact hp0 ⟨j, by omega, j2⟩ A2 (fun i i1 i2 => (hf2 i i1 i2).trans (hf.1 i i1 i2))
    · have hw := mt (nI_leI (a := W k) (b := l) (by omega) (by omega)).mpr q
      exact hp0 ⟨k, by omega, by omega⟩ A (fun _ _ _ => rfl)
theorem solve_ok {b l : Nat} {W : Nat → Nat} {post : Int32 → (Nat → Int32) → (Nat → Nat → Int32) → Prop} {I : Nat → Int32} {A : Nat → Nat → Int32} (hb1 : 1 ≤ b) (hb : b ≤ 8) (hl : l ≤ 1000) (hI : I 0 = nI b) (hW : ∀ k, k < b → W k ≤ 7000) (hA : ∀ j, j < b → A 7 j = nI (W j))
    (hp1 : (∀ j, j < b → W j ≤ l) → ∀ A1, (∀ i, i ≠ 26 → i ≠ 27 → A1 i = A i) → (∀ j, j < b → A1 26 j = nI (bDp l b W b j).1 ∧ A1 27 j = nI (bDp l b W b j).2) → post 1 I A1)
    (hp0 : (∃ j, j < b ∧ l < W j) → ∀ A1, (∀ i, i ≠ 26 → i ≠ 27 → A1 i = A i) → post 0 I A1) : wp_LineBreaker_solve (nI l) I A post := by
  unfold wp_LineBreaker_solve
  rw [hI]
  refine ⟨vp_in_nI (by omega) (by omega), vp_in_nI (by omega) (by omega), fun v hv => ⟨b + 1, ?_⟩⟩
  rw [hv, nI_clamp (by omega)]
  have fr : ∀ i, i ≠ 26 → i ≠ 27 → upd2 (upd2 A 26 b 0) 27 b 0 i = A i := fun i i1 i2 => by rw [upd2_ne i2, upd2_ne i1]
  refine sv_loop hb hl hI hW b _ (Nat.le_refl _) (fun j hj => by rw [fr 7 (by decide) (by decide)]; exact hA j hj) (fun j j1 j2 => by omega) ?_ ?_ (fun h A1 hf ht => hp1 h A1 (fun i i1 i2 => (hf i i1 i2).trans (fr i i1 i2)) ht) (fun h A1 hf => hp0 h A1 (fun i i1 i2 => (hf i i1 i2).trans (fr i i1 i2)))
  · rw [upd2_ne (by decide), upd2_eq, upd_eq]
  · rw [upd2_eq, upd_eq]

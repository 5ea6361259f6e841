/-! playing: items, bars, the whole, on the class's side -/
/-- a score: items with their notes, ticks, ties -/
abbrev Sc : Type := (Nat → Nat) × (Nat → Nat) × (Nat → Nat → Nat) × (Nat → Bool)
def scP (q : Sc) (i : Nat) : List Nat := (List.range (q.1 i)).map (q.2.2.1 i)
abbrev PX : Type := Nat × List (Option Nat) × PS
def pOne (q : Sc) (x : PX) (i : Nat) : PX := (x.1 + q.2.1 i, if q.2.2.2 i then (pItem x.1 (q.2.1 i) (scP q i) x.2.1 x.2.2).2.map some else [], (pItem x.1 (q.2.1 i) (scP q i) x.2.1 x.2.2).1)
def pRun (q : Sc) (l : List Nat) (x : PX) : PX := l.foldl (pOne q) x
/-- the class's arrays hold the score: fn is where an item's notes begin -/
def CSc (q : Sc) (ni : Nat) (fn : Nat → Nat) (A : Nat → Nat → Int32) : Prop := ni ≤ 48 ∧ fn ni ≤ 120 ∧ (∀ i, i ≤ ni → A 9 i = nI (fn i)) ∧ ∀ i, i < ni → fn (i + 1) = fn i + q.1 i ∧ q.1 i ≤ 4 ∧ fn (i + 1) ≤ 120 ∧ A 10 i = nI (q.2.1 i) ∧ (A 11 i = if q.2.2.2 i then 1 else 0) ∧ ∀ k, k < q.1 i → A 12 (fn i + k) = nI (q.2.2.1 i k) ∧ q.2.2.1 i k < 128
def CX (I : Nat → Int32) (A : Nat → Nat → Int32) (x : PX) : Prop := CPs I A x.2.2 ∧ I 25 = nI x.1 ∧ I 26 = nI x.2.1.length ∧ x.2.1.length ≤ 4 ∧ CWt A x.2.1 ∧ WOk x.2.2.1 x.2.1
def FrI (I I1 : Nat → Int32) : Prop := ∀ k, k < 23 ∨ 27 < k → I1 k = I k
def FrA (A A1 : Nat → Nat → Int32) : Prop := ∀ k, k < 17 ∨ 21 < k → A1 k = A k
theorem FrI.trans {I I1 I2 : Nat → Int32} (h : FrI I I1) (h2 : FrI I1 I2) : FrI I I2 := fun k hk => (h2 k hk).trans (h k hk)
theorem FrA.trans {A A1 A2 : Nat → Nat → Int32} (h : FrA A A1) (h2 : FrA A1 A2) : FrA A A2 := fun k hk => (h2 k hk).trans (h k hk)
theorem CSc.kept {q : Sc} {ni : Nat} {fn : Nat → Nat} {A A1 : Nat → Nat → Int32} (h : CSc q ni fn A) (hf : FrA A A1) : CSc q ni fn A1 := by
  obtain ⟨h1, h2, h3, h4⟩ := h
  refine ⟨h1, h2, by rw [hf 9 (by omega)]; exact h3, ?_⟩
  rw [hf 10 (by omega), hf 11 (by omega), hf 12 (by omega)]
  exact h4
theorem pNote_c (t tk : Nat) (s : PS) (p : Nat) (h : Option Nat) : s.1 ≤ (pNote t tk s p h).1.1 := by
  unfold pNote
  cases h with
  | some k => exact Nat.le_refl _
  | none =>
    simp only
    split
    · exact Nat.le_succ _
    · exact Nat.le_refl _
theorem notes_loop {post : (Nat → Int32) → (Nat → Nat → Int32) → Prop} {q : Sc} {ni : Nat} {fn : Nat → Nat} {i t : Nat} (hi : i < ni) :
    ∀ (m k : Nat) (I : Nat → Int32) (A : Nat → Nat → Int32) (s : PS) (W : List (Option Nat)) (ids : List Nat), k + m = q.1 i → ids.length ≤ k → CSc q ni fn A → CPs I A s → I 25 = nI t → I 26 = nI W.length → W.length ≤ 4 → CWt A W → WOk s.1 W → I 27 = nI ids.length → (∀ k, k < ids.length → A 21 k = nI (ids.getD k 0)) → (∀ y ∈ ids, y < s.1) →
    (∀ I1 A1, (∀ k, k ≠ 23 → k ≠ 24 → k ≠ 26 → k ≠ 27 → I1 k = I k) → FrA A A1 → CPs I1 A1 (pItem t (q.2.1 i) ((scP q i).drop k) W s).1 → I1 27 = nI (ids ++ (pItem t (q.2.1 i) ((scP q i).drop k) W s).2).length → (ids ++ (pItem t (q.2.1 i) ((scP q i).drop k) W s).2).length ≤ 4 → (∀ j, j < (ids ++ (pItem t (q.2.1 i) ((scP q i).drop k) W s).2).length → A1 21 j = nI ((ids ++ (pItem t (q.2.1 i) ((scP q i).drop k) W s).2).getD j 0)) → (∀ y ∈ ids ++ (pItem t (q.2.1 i) ((scP q i).drop k) W s).2, y < (pItem t (q.2.1 i) ((scP q i).drop k) W s).1.1) →
      ((A1 11 i = 0 → ∃ n84, wp_Playing_playItem_84 post n84 0 (upd (upd I1 25 (I1 25 + A1 10 i)) 26 0) A1) ∧ (¬ A1 11 i = 0 → ∃ n84, wp_Playing_playItem_84 post n84 0 (upd (upd I1 25 (I1 25 + A1 10 i)) 26 (I1 27)) A1))) → wp_Playing_playItem_12 post (m + 1) (nI i) (nI (fn i + k)) I A := by
  intro m
  induction m with
  | zero =>
    intro k I A s W ids hk hid hS hs ht hw hwl hW hWo h27 hids hlt hq
    obtain ⟨z1, z2, z3, z4⟩ := hS
    obtain ⟨y1, y2, y3, y4, y5, y6⟩ := z4 i hi
    have hd : (scP q i).drop k = [] := List.drop_eq_nil_of_le (by simp [scP]; omega)
    rw [hd] at hq
    simp only [pItem, List.append_nil] at hq
    have v := vp_in_nI (n := i) (N := 48) (by omega) (by omega)
    unfold wp_Playing_playItem_12
    rw [nI_1, nI_clamp (by omega), nI_clamp (by omega), z3 (i + 1) (by omega)]
    refine ⟨vp_in_nI (by omega) (by omega), fun _ => ⟨v, v, ?_⟩, fun z => absurd (nI_le (by omega) (by omega)) z⟩
    exact hq I A (fun _ _ _ _ _ => rfl) (fun _ _ => rfl) hs h27 (by omega) hids hlt
  | succ m ih =>
    intro k I A s W ids hk hid hS hs ht hw hwl hW hWo h27 hids hlt hq
    have hS' := hS
    obtain ⟨z1, z2, z3, z4⟩ := hS
    obtain ⟨y1, y2, y3, y4, y5, y6⟩ := z4 i hi
    obtain ⟨y7, y8⟩ := y6 k (by omega)
    have hd : (scP q i).drop k = q.2.2.1 i k :: (scP q i).drop (k + 1) := by
      rw [drop_cons (scP q i) k (by simp [scP]; omega)]
      simp [scP, List.getD_eq_getElem?_getD, show k < q.1 i by omega]
    rw [hd] at hq
    simp only [pItem] at hq
    unfold wp_Playing_playItem_12
    rw [nI_1, nI_clamp (by omega), nI_clamp (by omega), nI_clamp (by omega), z3 (i + 1) (by omega), y7, y4]
    refine ⟨vp_in_nI (by omega) (by omega), fun z => absurd z (nI_ge (by omega) (by omega)), fun _ => ⟨vp_in_nI (by omega) (by omega), vp_in_nI (by omega) (by omega), ?_⟩⟩
    refine sound_ok y8 hs ht hw hwl hW hWo h27 (by omega) hids (fun I1 A1 g1 g2 g3 g4 g5 g6 g7 g8 => ?_)
    intro v hv
    rw [hv, nI_1, Nat.add_assoc]
    have hfa : FrA A A1 := fun j hj => g2 j (by omega) (by omega) (by omega) (by omega) (by omega)
    have hol : (pNote t (q.2.1 i) s (q.2.2.1 i k) (tkW s.2.2.2.1 (q.2.2.1 i k) W).1).2.toList.length ≤ 1 := by
      cases (pNote t (q.2.1 i) s (q.2.2.1 i k) (tkW s.2.2.2.1 (q.2.2.1 i k) W).1).2 <;> simp
    refine ih (k + 1) I1 A1 _ _ _ (by omega) (by rw [List.length_append]; omega) (hS'.kept hfa) g3 (by rw [g1 25 (by decide) (by decide) (by decide)]; exact ht) (by rw [g1 26 (by decide) (by decide) (by decide), tkW_len]; exact hw) (by rw [tkW_len]; exact hwl) g4 g5 g6 g7 (fun y hy => ?_) (fun I2 A2 k1 k2 k3 k4 k5 k6 k7 => ?_)
    · rcases List.mem_append.mp hy with h | h
      · exact Nat.lt_of_lt_of_le (hlt y h) (pNote_c _ _ _ _ _)
      · exact g8 y (by simpa using h)
    · refine hq I2 A2 (fun j j1 j2 j3 j4 => (k1 j j1 j2 j3 j4).trans (g1 j j1 j2 j4)) (hfa.trans k2) k3 ?_ ?_ ?_ ?_
      · rw [← List.append_assoc]; exact k4
      · rw [← List.append_assoc]; exact k5
      · rw [← List.append_assoc]; exact k6
      · rw [← List.append_assoc]; exact k7
theorem copyW_loop {post : (Nat → Int32) → (Nat → Nat → Int32) → Prop} {I : Nat → Int32} {n : Nat} (hn : n ≤ 4) (h : I 26 = nI n) : ∀ (m k : Nat) (A : Nat → Nat → Int32), k + m = n → (∀ j, j < k → A 20 j = A 21 j) → (∀ A1, (∀ j, j ≠ 20 → A1 j = A j) → (∀ j, j < n → A1 20 j = A 21 j) → post I A1) → wp_Playing_playItem_84 post (m + 1) (nI k) I A := by
  intro m
  induction m with
  | zero =>
    intro k A hk hA hq
    unfold wp_Playing_playItem_84
    rw [h]
    exact ⟨fun _ => hq A (fun _ _ => rfl) (fun j hj => hA j (by omega)), fun z => absurd (nI_le (by omega) (by omega)) z⟩
  | succ m ih =>
    intro k A hk hA hq
    unfold wp_Playing_playItem_84
    rw [h, nI_clamp (by omega)]
    refine ⟨fun z => absurd z (nI_ge (by omega) (by omega)), fun _ => ⟨vp_in_nI (by omega) (by omega), vp_in_nI (by omega) (by omega), fun v hv => ?_⟩⟩
    rw [hv, nI_1]
    refine ih (k + 1) _ (by omega) (fun j hj => ?_) (fun A1 g1 g2 => hq A1 (fun j hj => (g1 j hj).trans (upd2_ne hj)) (fun j hj => by rw [g2 j hj, upd2_ne (by decide)]))
    rw [upd2_eq, upd2_ne (show (21 : Nat) ≠ 20 by decide)]
    by_cases e : j = k
    · subst e; rw [upd_eq]
    · rw [upd_ne e]; exact hA j (by omega)
theorem playItem_ok {post : (Nat → Int32) → (Nat → Nat → Int32) → Prop} {q : Sc} {ni : Nat} {fn : Nat → Nat} {I : Nat → Int32} {A : Nat → Nat → Int32} {i : Nat} {x : PX} (hi : i < ni) (hS : CSc q ni fn A) (hx : CX I A x) (hq : ∀ I1 A1, FrI I I1 → FrA A A1 → CX I1 A1 (pOne q x i) → post I1 A1) : wp_Playing_playItem (nI i) I A post := by
  obtain ⟨t, W, s⟩ := x
  obtain ⟨x1, x2, x3, x4, x5, x6⟩ := hx
  simp only at x1 x2 x3 x4 x5 x6
  have hS' := hS
  obtain ⟨z1, z2, z3, z4⟩ := hS
  obtain ⟨y1, y2, y3, y4, y5, y6⟩ := z4 i hi
  unfold wp_Playing_playItem
  refine ⟨vp_in_nI (by omega) (by omega), fun v hv => ⟨q.1 i + 1, ?_⟩⟩
  rw [nI_clamp (by omega), z3 i (by omega)] at hv
  rw [hv, show nI (fn i) = nI (fn i + 0) from rfl]
  refine notes_loop hi (q.1 i) 0 (upd I 27 0) A s W [] (by omega) (by simp) hS' ⟨by rw [upd_ne (by decide)]; exact x1.1, x1.2.1, by rw [upd_ne (by decide)]; exact x1.2.2.1, x1.2.2.2⟩ (by rw [upd_ne (by decide)]; exact x2) (by rw [upd_ne (by decide)]; exact x3) x4 x5 x6 rfl (fun k hk => absurd hk (Nat.not_lt_zero k)) (fun y hy => by cases hy) (fun I1 A1 g1 g2 g3 g4 g5 g6 g7 => ?_)
  rw [List.drop_zero, List.nil_append] at *
  have e25 : I1 25 = nI t := by rw [g1 25 (by decide) (by decide) (by decide) (by decide), upd_ne (by decide)]; exact x2
  have e11 : A1 11 i = if q.2.2.2 i then 1 else 0 := by rw [g2 11 (by omega)]; exact y5
  have e10 : A1 10 i = nI (q.2.1 i) := by rw [g2 10 (by omega)]; exact y4
  have fin : ∀ (n : Nat) (A2 : Nat → Nat → Int32), (∀ j, j ≠ 20 → A2 j = A1 j) → FrI I (upd (upd I1 25 (I1 25 + A1 10 i)) 26 (nI n)) ∧ FrA A A2 ∧ CPs (upd (upd I1 25 (I1 25 + A1 10 i)) 26 (nI n)) A2 (pItem t (q.2.1 i) (scP q i) W s).1 ∧ (upd (upd I1 25 (I1 25 + A1 10 i)) 26 (nI n)) 25 = nI (t + q.2.1 i) := by
    intro n A2 hA2
    refine ⟨fun k hk => ?_, fun k hk => (hA2 k (by omega)).trans (g2 k hk), ⟨?_, g3.2.1, ?_, fun k hk => ?_⟩, ?_⟩
    · rw [upd_ne (by omega), upd_ne (by omega), g1 k (by omega) (by omega) (by omega) (by omega), upd_ne (by omega)]
    · rw [upd_ne (by decide), upd_ne (by decide)]; exact g3.1
    · rw [upd_ne (by decide), upd_ne (by decide)]; exact g3.2.2.1
    · rw [hA2 17 (by decide), hA2 18 (by decide), hA2 19 (by decide)]; exact g3.2.2.2 k hk
    · rw [upd_ne (by decide), upd_eq, e25, e10, nI_add]
  refine ⟨fun z => ⟨1, ?_⟩, fun z => ⟨(pItem t (q.2.1 i) (scP q i) W s).2.length + 1, ?_⟩⟩
  · have htd : q.2.2.2 i = false := by
      rw [e11] at z
      cases h : q.2.2.2 i with
      | false => rfl
      | true => rw [h] at z; exact absurd z (by decide)
    rw [show (0 : Int32) = nI 0 from by decide]
    refine copyW_loop (n := 0) (by omega) (upd_eq _ _ _) 0 0 A1 (by omega) (fun j hj => by omega) (fun A2 k1 k2 => ?_)
    obtain ⟨f1, f2, f3, f4⟩ := fin 0 A2 k1
    refine hq _ A2 f1 f2 ⟨f3, f4, ?_⟩
    simp only [pOne, htd]
    exact ⟨upd_eq _ _ _, by simp, fun k hk => by simp at hk, fun k hk => by simp at hk⟩
  · have htd : q.2.2.2 i = true := by
      rw [e11] at z
      cases h : q.2.2.2 i with
      | false => rw [h] at z; exact absurd rfl z
      | true => rfl
    rw [show (0 : Int32) = nI 0 from by decide, g4]
    refine copyW_loop g5 (upd_eq _ _ _) _ 0 A1 (by omega) (fun j hj => by omega) (fun A2 k1 k2 => ?_)
    obtain ⟨f1, f2, f3, f4⟩ := fin (pItem t (q.2.1 i) (scP q i) W s).2.length A2 k1
    refine hq _ A2 f1 f2 ⟨f3, f4, ?_⟩
    simp only [pOne, htd, if_true, List.length_map]
    refine ⟨upd_eq _ _ _, g5, fun k hk => ?_, fun k hk => ?_⟩
    · rw [List.length_map] at hk
      rw [k2 k hk, g6 k hk]
      simp [List.getD_eq_getElem?_getD, hk, enO]
    · obtain ⟨y, hy, e⟩ := List.mem_map.mp hk
      cases e
      exact g7 k hy

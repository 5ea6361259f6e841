/-! playing, as a function: notes c, onsets, durations, pitches, too many -/
abbrev PS : Type := Nat × (Nat → Nat) × (Nat → Nat) × (Nat → Nat) × Bool
def upN (f : Nat → Nat) (k v : Nat) : Nat → Nat := fun j => if j = k then v else f j
theorem upN_eq (f : Nat → Nat) (k v : Nat) : upN f k v k = v := if_pos rfl
theorem upN_ne {f : Nat → Nat} {k j v : Nat} (h : j ≠ k) : upN f k v j = f j := if_neg h
def enO (x : Option Nat) : Int32 := match x with
  | none => -1
  | some k => nI k
/-- the first that waits with this pitch -/
def tkW (pi : Nat → Nat) (p : Nat) : List (Option Nat) → Option Nat × List (Option Nat)
  | [] => (none, [])
  | none :: r => ((tkW pi p r).1, none :: (tkW pi p r).2)
  | some k :: r => if pi k = p then (some k, none :: r) else ((tkW pi p r).1, some k :: (tkW pi p r).2)
theorem tkW_len (pi : Nat → Nat) (p : Nat) (W : List (Option Nat)) : (tkW pi p W).2.length = W.length := by
  induction W with
  | nil => rfl
  | cons x r ih =>
    cases x with
    | none => simp [tkW, ih]
    | some k =>
      unfold tkW
      split
      · rfl
      · simp [ih]
theorem tkW_mem {pi : Nat → Nat} {p : Nat} {W : List (Option Nat)} : (∀ k, (tkW pi p W).1 = some k → some k ∈ W) ∧ ∀ k, some k ∈ (tkW pi p W).2 → some k ∈ W := by
  induction W with
  | nil => exact ⟨fun k h => (by cases h), fun k h => (by cases h)⟩
  | cons x r ih =>
    cases x with
    | none =>
      refine ⟨fun k h => List.mem_cons_of_mem _ (ih.1 k h), fun k h => ?_⟩
      rcases List.mem_cons.mp h with e | e
      · cases e
      · exact List.mem_cons_of_mem _ (ih.2 k e)
    | some y =>
      unfold tkW
      split
      · refine ⟨fun k h => by cases h; exact List.mem_cons_self, fun k h => ?_⟩
        rcases List.mem_cons.mp h with e | e
        · cases e
        · exact List.mem_cons_of_mem _ e
      · refine ⟨fun k h => List.mem_cons_of_mem _ (ih.1 k h), fun k h => ?_⟩
        rcases List.mem_cons.mp h with e | e
        · rw [e]; exact List.mem_cons_self
        · exact List.mem_cons_of_mem _ (ih.2 k e)
/-- one note: it goes on, or it begins, or there is no room for it -/
def pNote (t tk : Nat) (s : PS) (p : Nat) (h : Option Nat) : PS × Option Nat := match h with
  | some k => ((s.1, s.2.1, upN s.2.2.1 k (s.2.2.1 k + tk), s.2.2.2.1, s.2.2.2.2), some k)
  | none => if s.1 < 64 then ((s.1 + 1, upN s.2.1 s.1 t, upN s.2.2.1 s.1 tk, upN s.2.2.2.1 s.1 p, s.2.2.2.2), some s.1) else ((s.1, s.2.1, s.2.2.1, s.2.2.2.1, true), none)
/-- the notes of an item, as the class plays them -/
def pItem (t tk : Nat) : List Nat → List (Option Nat) → PS → PS × List Nat
  | [], _, s => (s, [])
  | p :: r, W, s => ((pItem t tk r (tkW s.2.2.2.1 p W).2 (pNote t tk s p (tkW s.2.2.2.1 p W).1).1).1, (pNote t tk s p (tkW s.2.2.2.1 p W).1).2.toList ++ (pItem t tk r (tkW s.2.2.2.1 p W).2 (pNote t tk s p (tkW s.2.2.2.1 p W).1).1).2)
/-- items i, one behind the other -/
def pAll (mn tk : Nat → Nat) (pt : Nat → Nat → Nat) (td : Nat → Bool) : List Nat → Nat → List (Option Nat) → PS → PS
  | [], _, _, s => s
  | i :: r, t, W, s => pAll mn tk pt td r (t + tk i) (if td i then (pItem t (tk i) ((List.range (mn i)).map (pt i)) W s).2.map some else []) (pItem t (tk i) ((List.range (mn i)).map (pt i)) W s).1
/-- the class's arrays hold the state -/
def CPs (I : Nat → Int32) (A : Nat → Nat → Int32) (s : PS) : Prop := I 23 = nI s.1 ∧ s.1 ≤ 64 ∧ (I 24 = if s.2.2.2.2 then 1 else 0) ∧ ∀ k, k < s.1 → A 17 k = nI (s.2.1 k) ∧ A 18 k = nI (s.2.2.1 k) ∧ A 19 k = nI (s.2.2.2.1 k) ∧ s.2.2.2.1 k < 128
def CWt (A : Nat → Nat → Int32) (W : List (Option Nat)) : Prop := ∀ k, k < W.length → A 20 k = enO (W.getD k none)
def WOk (c : Nat) (W : List (Option Nat)) : Prop := ∀ k, some k ∈ W → k < c
theorem nI_m1 {k : Nat} (h : k < 2 ^ 31) : ¬ nI k = -1 := by
  intro q
  have := congrArg Int32.toInt q
  rw [nI_toInt h, show (-1 : Int32).toInt = -1 from by decide] at this
  omega
theorem take_loop {post : Int32 → (Nat → Int32) → (Nat → Nat → Int32) → Prop} {I : Nat → Int32} {p : Nat} {pi : Nat → Nat} (hp : p < 128) :
    ∀ (W : List (Option Nat)) (j : Nat) (A : Nat → Nat → Int32), I 26 = nI (j + W.length) → j + W.length ≤ 4 → (∀ k, k < W.length → A 20 (j + k) = enO (W.getD k none)) → (∀ k, some k ∈ W → k < 64 ∧ A 19 k = nI (pi k) ∧ pi k < 128) →
    (∀ A1, (∀ k, k ≠ 20 → A1 k = A k) → (∀ k, k < j → A1 20 k = A 20 k) → (∀ k, k < W.length → A1 20 (j + k) = enO ((tkW pi p W).2.getD k none)) → post (enO (tkW pi p W).1) I A1) → wp_Playing_takeWaiting_2 post (W.length + 1) (nI p) (nI j) I A := by
  intro W
  induction W with
  | nil =>
    intro j A hI hj hA hW hq
    unfold wp_Playing_takeWaiting_2
    rw [hI]
    exact ⟨fun _ => hq A (fun _ _ => rfl) (fun _ _ => rfl) (fun k hk => absurd hk (Nat.not_lt_zero k)), fun q => absurd (nI_le (by simp) (by simp; omega)) q⟩
  | cons x r ih =>
    intro j A hI hj hA hW hq
    simp only [List.length_cons] at hI hj
    have hx : A 20 j = enO x := by have := hA 0 (by simp); simpa using this
    have hA' : ∀ k, k < r.length → A 20 (j + 1 + k) = enO (r.getD k none) := by
      intro k hk
      have := hA (k + 1) (by simp; omega)
      rw [show j + (k + 1) = j + 1 + k by omega] at this
      rw [this]; simp
    have skip : (tkW pi p (x :: r) = ((tkW pi p r).1, x :: (tkW pi p r).2)) → ∀ v : Int32, v = nI j + 1 → wp_Playing_takeWaiting_2 post (r.length + 1) (nI p) v I A := by
      intro hs v hv
      rw [hv, nI_1]
      refine ih (j + 1) A (by rw [hI]; congr 1; omega) (by omega) hA' (fun k hk => hW k (List.mem_cons_of_mem _ hk)) (fun A1 g1 g2 g3 => ?_)
      have := hq A1 g1 (fun k hk => g2 k (by omega)) (fun k hk => ?_)
      · rw [hs] at this; exact this
      · rw [hs]
        cases k with
        | zero => rw [Nat.add_zero, g2 j (by omega), hx]; rfl
        | succ k =>
          have := g3 k (by simp at hk; omega)
          rw [show j + 1 + k = j + (k + 1) by omega] at this
          rw [this]; simp
    unfold wp_Playing_takeWaiting_2
    rw [hI]
    refine ⟨fun q => absurd q (nI_ge (by omega) (by omega)), fun _ => ⟨vp_in_nI (by omega) (by omega), fun v hv => ?_⟩⟩
    rw [nI_clamp (by omega), hx] at hv
    subst hv
    cases x with
    | none => exact ⟨fun _ => skip rfl, fun q => absurd rfl q⟩
    | some y =>
      obtain ⟨w1, w2, w3⟩ := hW y List.mem_cons_self
      show (nI y = -1 → _) ∧ (¬ nI y = -1 → _)
      refine ⟨fun q => absurd q (nI_m1 (by omega)), fun _ => ⟨vp_in_nI w1 (by omega), ?_⟩⟩
      rw [show (enO (some y)).toNatClampNeg = y from nI_clamp (by omega), w2, nI_clamp (by omega)]
      refine ⟨fun q => ⟨vp_in_nI (by omega) (by omega), ?_⟩, fun q => skip ?_⟩
      · have e : pi y = p := (nI_eq (by omega) (by omega)).mp q
        have ht : tkW pi p (some y :: r) = (some y, none :: r) := by unfold tkW; rw [if_pos e]
        have := hq (upd2 A 20 j (-1)) (fun k hk => upd2_ne hk) (fun k hk => by rw [upd2_eq, upd_ne (by omega)]) (fun k hk => ?_)
        · rw [ht] at this; exact this
        · rw [ht, upd2_eq]
          cases k with
          | zero => rw [Nat.add_zero, upd_eq]; rfl
          | succ k =>
            rw [upd_ne (by omega), show j + (k + 1) = j + 1 + k by omega, hA' k (by simp at hk; omega)]
            simp
      · have e : ¬ pi y = p := mt (nI_eq (a := pi y) (b := p) (by omega) (by omega)).mpr q
        show (if pi y = p then _ else _) = _
        rw [if_neg e]
theorem sound_ok {post : (Nat → Int32) → (Nat → Nat → Int32) → Prop} {I : Nat → Int32} {A : Nat → Nat → Int32} {t tk p : Nat} {s : PS} {W : List (Option Nat)} {ids : List Nat} (hp : p < 128) (hs : CPs I A s) (ht : I 25 = nI t) (hw : I 26 = nI W.length) (hwl : W.length ≤ 4) (hW : CWt A W) (hWo : WOk s.1 W) (h27 : I 27 = nI ids.length) (hid : ids.length < 4) (hids : ∀ k, k < ids.length → A 21 k = nI (ids.getD k 0))
    (hq : ∀ I1 A1, (∀ k, k ≠ 23 → k ≠ 24 → k ≠ 27 → I1 k = I k) → (∀ k, k ≠ 17 → k ≠ 18 → k ≠ 19 → k ≠ 20 → k ≠ 21 → A1 k = A k) → CPs I1 A1 (pNote t tk s p (tkW s.2.2.2.1 p W).1).1 → CWt A1 (tkW s.2.2.2.1 p W).2 → WOk (pNote t tk s p (tkW s.2.2.2.1 p W).1).1.1 (tkW s.2.2.2.1 p W).2 → I1 27 = nI (ids ++ (pNote t tk s p (tkW s.2.2.2.1 p W).1).2.toList).length → (∀ k, k < (ids ++ (pNote t tk s p (tkW s.2.2.2.1 p W).1).2.toList).length → A1 21 k = nI ((ids ++ (pNote t tk s p (tkW s.2.2.2.1 p W).1).2.toList).getD k 0)) → (∀ k, (pNote t tk s p (tkW s.2.2.2.1 p W).1).2 = some k → k < (pNote t tk s p (tkW s.2.2.2.1 p W).1).1.1) → post I1 A1) : wp_Playing_sound (nI p) (nI tk) I A post := by
  obtain ⟨c, on, du, pi, ov⟩ := s
  obtain ⟨h23, hc, h24, hA⟩ := hs
  simp only at h23 hc h24 hA hq hWo
  have app1 : ∀ (A1 : Nat → Nat → Int32) (y : Nat), (∀ k, k < ids.length → A1 21 k = nI (ids.getD k 0)) → A1 21 ids.length = nI y → ∀ k, k < (ids ++ [y]).length → A1 21 k = nI ((ids ++ [y]).getD k 0) := by
    intro A1 y g1 g2 k hk
    by_cases e : k < ids.length
    · rw [g1 k e, List.getD_eq_getElem?_getD, List.getD_eq_getElem?_getD, List.getElem?_append_left e]
    · have : k = ids.length := by simp at hk; omega
      subst this
      rw [g2, List.getD_eq_getElem?_getD, List.getElem?_append_right (Nat.le_refl _)]
      simp
  unfold wp_Playing_sound
  refine ⟨W.length + 1, ?_⟩
  rw [show (0 : Int32) = nI 0 from by decide]
  refine take_loop (pi := pi) hp W 0 A (by rw [hw, Nat.zero_add]) (by omega) (fun k hk => by rw [Nat.zero_add]; exact hW k hk) (fun k hk => ?_) (fun A1 g1 _ g3 => ?_)
  · have := hWo k hk
    exact ⟨by omega, (hA k this).2.2.1, (hA k this).2.2.2⟩
  have hW1 : CWt A1 (tkW pi p W).2 := by
    intro k hk
    rw [tkW_len] at hk
    have := g3 k hk
    rw [Nat.zero_add] at this
    exact this
  have hWo1 : WOk c (tkW pi p W).2 := fun k hk => hWo k (tkW_mem.2 k hk)
  cases hh : (tkW pi p W).1 with
  | none =>
    rw [hh] at hq
    simp only [pNote] at hq
    refine ⟨fun _ => ?_, fun q => absurd rfl q⟩
    unfold wp_Playing_begin
    rw [h23]
    refine ⟨fun q => ?_, fun q => ?_⟩
    · have hc64 : c < 64 := by rw [show (64 : Int32) = nI 64 from by decide] at q; exact (nI_ltI (by omega) (by omega)).mp q
      have v := vp_in_nI (n := c) (N := 64) hc64 (by omega)
      refine ⟨v, v, v, ?_⟩
      rw [if_pos hc64] at hq
      simp only [Option.toList] at hq
      rw [nI_1, nI_pred, nI_clamp (by omega), ht]
      refine ⟨fun q => absurd q (nI_m1 (by omega)), fun _ => ?_⟩
      rw [show (upd I 23 (nI (c + 1))) 27 = I 27 from rfl, h27]
      refine ⟨fun _ => ⟨v, v, vp_in_nI (by omega) (by omega), ?_⟩, fun q => absurd (by rw [show (4 : Int32) = nI 4 from by decide]; exact nI_lt hid (by omega)) q⟩
      rw [nI_clamp (by omega), nI_clamp (by omega), nI_1]
      refine hq _ _ (fun k k1 k2 k3 => ?_) (fun k k1 k2 k3 k4 k5 => ?_) ⟨?_, by simp only; omega, ?_, fun k hk => ?_⟩ ?_ (fun k hk => ?_) ?_ (app1 _ _ (fun k hk => ?_) ?_) (fun k hk => ?_)
      · rw [upd_ne k3, upd_ne k1]
      · rw [upd2_ne k5, upd2_ne k2, upd2_ne k3, upd2_ne k2, upd2_ne k1, g1 k k4]
      · rw [upd_ne (by decide), upd_eq]
      · rw [upd_ne (by decide), upd_ne (by decide)]; exact h24
      · have hk : k < c + 1 := hk
        show upd (A1 17) c (nI t) k = nI (upN on c t k) ∧ upd (upd (A1 18) c 0) c (upd (A1 18) c 0 c + nI tk) k = nI (upN du c tk k) ∧ upd (A1 19) c (nI p) k = nI (upN pi c p k) ∧ upN pi c p k < 128
        by_cases e : k = c
        · subst e
          rw [upd_eq, upd_eq, upd_eq, upd_eq, upN_eq, upN_eq, upN_eq, show (0 : Int32) = nI 0 from by decide, nI_add, Nat.zero_add]
          exact ⟨rfl, rfl, rfl, hp⟩
        · rw [upd_ne e, upd_ne e, upd_ne e, upd_ne e, upN_ne e, upN_ne e, upN_ne e, g1 17 (by decide), g1 18 (by decide), g1 19 (by decide)]
          exact hA k (by omega)
      · intro k hk
        rw [upd2_ne (by decide), upd2_ne (by decide), upd2_ne (by decide), upd2_ne (by decide), upd2_ne (by decide)]
        exact hW1 k hk
      · have := hWo1 k hk; omega
      · rw [upd_eq]; simp
      · rw [upd2_eq, upd_ne (by omega), upd2_ne (by decide), upd2_ne (by decide), upd2_ne (by decide), upd2_ne (by decide), g1 21 (by decide)]
        exact hids k hk
      · rw [upd2_eq, upd_eq]
      · cases hk; omega
    · have hc64 : ¬ c < 64 := by rw [show (64 : Int32) = nI 64 from by decide] at q; exact mt (nI_ltI (by omega) (by omega)).mpr q
      rw [if_neg hc64] at hq
      refine ⟨fun _ => ?_, fun q => absurd rfl q⟩
      simp only [Option.toList, List.append_nil] at hq
      refine hq _ _ (fun k k1 k2 k3 => by rw [upd_ne k2]) (fun k k1 k2 k3 k4 k5 => g1 k k4) ⟨by rw [upd_ne (by decide)]; exact h23, hc, by rw [upd_eq]; rfl, fun k hk => ?_⟩ hW1 hWo1 (by rw [upd_ne (by decide)]; exact h27) (fun k hk => by rw [g1 21 (by decide)]; exact hids k hk) (fun k hk => by cases hk)
      rw [g1 17 (by decide), g1 18 (by decide), g1 19 (by decide)]
      exact hA k hk
  | some y =>
    rw [hh] at hq
    simp only [pNote, Option.toList] at hq
    have hy : y < c := hWo y (tkW_mem.1 y hh)
    have v := vp_in_nI (n := y) (N := 64) (by omega) (by omega)
    refine ⟨fun q => absurd q (nI_m1 (by omega)), fun _ => ⟨fun q => absurd q (nI_m1 (by omega)), fun _ => ?_⟩⟩
    rw [h27]
    refine ⟨fun _ => ⟨v, v, vp_in_nI (by omega) (by omega), ?_⟩, fun q => absurd (by rw [show (4 : Int32) = nI 4 from by decide]; exact nI_lt hid (by omega)) q⟩
    rw [show (enO (some y)).toNatClampNeg = y from nI_clamp (by omega), nI_clamp (by omega), nI_1, g1 18 (by decide), (hA y hy).2.1, nI_add]
    refine hq _ _ (fun k k1 k2 k3 => by rw [upd_ne k3]) (fun k k1 k2 k3 k4 k5 => by rw [upd2_ne k5, upd2_ne k2, g1 k k4]) ⟨by rw [upd_ne (by decide)]; exact h23, hc, by rw [upd_ne (by decide)]; exact h24, fun k hk => ?_⟩ (fun k hk => by rw [upd2_ne (by decide), upd2_ne (by decide)]; exact hW1 k hk) hWo1 (by rw [upd_eq]; simp) (app1 _ _ (fun k hk => ?_) ?_) (fun k hk => by cases hk; exact hy)
    · have hk : k < c := hk
      obtain ⟨a1, a2, a3, a4⟩ := hA k hk
      show A1 17 k = nI (on k) ∧ upd (A1 18) y (nI (du y + tk)) k = nI (upN du y (du y + tk) k) ∧ A1 19 k = nI (pi k) ∧ pi k < 128
      rw [g1 17 (by decide), g1 18 (by decide), g1 19 (by decide)]
      refine ⟨a1, ?_, a3, a4⟩
      by_cases e : k = y
      · subst e; rw [upd_eq, upN_eq]
      · rw [upd_ne e, upN_ne e]; exact a2
    · rw [upd2_eq, upd_ne (by omega), upd2_ne (by decide), g1 21 (by decide)]
      exact hids k hk
    · rw [upd2_eq, upd_eq]; rfl

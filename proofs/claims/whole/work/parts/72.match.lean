/-! which notes go on: taken one by one by those that come, or given one by one by those that wait -/
def asg (pi : Nat → Nat) : List Nat → List (Option Nat) → List (Option Nat) → List (Option Nat)
  | [], _, _ => []
  | _ :: _, _, [] => []
  | p :: r, W, none :: H => (tkW pi p W).1 :: asg pi r (tkW pi p W).2 H
  | _ :: r, W, some y :: H => some y :: asg pi r W H
def putR (p y : Nat) : List Nat → List (Option Nat) → List (Option Nat)
  | [], H => H
  | _ :: _, [] => []
  | x :: r, none :: H => if x = p then some y :: H else none :: putR p y r H
  | _ :: r, some z :: H => some z :: putR p y r H
theorem putR_len (p y : Nat) : ∀ (ps : List Nat) (H : List (Option Nat)), (putR p y ps H).length = H.length := by
  intro ps
  induction ps with
  | nil => intro H; rfl
  | cons x r ih =>
    intro H
    cases H with
    | nil => rfl
    | cons h H =>
      cases h with
      | none =>
        unfold putR
        split
        · rfl
        · simp [ih]
      | some z => simp [putR, ih]
theorem asg_nil (pi : Nat → Nat) : ∀ (ps : List Nat) (H : List (Option Nat)), ps.length = H.length → asg pi ps [] H = H := by
  intro ps
  induction ps with
  | nil => intro H h; cases H with
    | nil => rfl
    | cons _ _ => simp at h
  | cons p r ih =>
    intro H h
    cases H with
    | nil => rfl
    | cons x H =>
      cases x with
      | none => simp only [asg, tkW]; rw [ih H (by simpa using h)]
      | some y => simp only [asg]; rw [ih H (by simpa using h)]
theorem asg_none (pi : Nat → Nat) : ∀ (ps : List Nat) (W H : List (Option Nat)), asg pi ps (none :: W) H = asg pi ps W H := by
  intro ps
  induction ps with
  | nil => intro W H; rfl
  | cons p r ih =>
    intro W H
    cases H with
    | nil => rfl
    | cons x H =>
      cases x with
      | none => simp only [asg, tkW]; rw [ih]
      | some y => simp only [asg]; rw [ih]
theorem asg_some (pi : Nat → Nat) (y : Nat) : ∀ (ps : List Nat) (W H : List (Option Nat)), asg pi ps (some y :: W) H = asg pi ps W (putR (pi y) y ps H) := by
  intro ps
  induction ps with
  | nil => intro W H; rfl
  | cons p r ih =>
    intro W H
    cases H with
    | nil => rfl
    | cons x H =>
      cases x with
      | some z => simp only [asg, putR]; rw [ih]
      | none =>
        by_cases e : p = pi y
        · have e2 : pi y = p := e.symm
          simp only [asg, putR, tkW, if_pos e, if_pos e2]
          rw [asg_none]
        · have e2 : ¬ pi y = p := fun h => e h.symm
          simp only [asg, putR, tkW, if_neg e, if_neg e2]
          rw [ih]
theorem asg_all (pi : Nat → Nat) (ps : List Nat) : ∀ (ids : List Nat) (H : List (Option Nat)), ps.length = H.length → asg pi ps (ids.map some) H = ids.foldl (fun H y => putR (pi y) y ps H) H := by
  intro ids
  induction ids with
  | nil => intro H h; exact asg_nil pi ps H h
  | cons y r ih =>
    intro H h
    rw [List.map_cons, asg_some, ih _ (by rw [putR_len]; exact h)]
    rfl
theorem tkW_congr {pi pj : Nat → Nat} (p : Nat) : ∀ (W : List (Option Nat)), (∀ k, some k ∈ W → pi k = pj k) → tkW pi p W = tkW pj p W := by
  intro W
  induction W with
  | nil => intro _; rfl
  | cons x r ih =>
    intro h
    have := ih (fun k hk => h k (List.mem_cons_of_mem _ hk))
    cases x with
    | none => simp only [tkW, this]
    | some y =>
      have e := h y List.mem_cons_self
      simp only [tkW, this, e]
theorem asg_congr {pi pj : Nat → Nat} : ∀ (ps : List Nat) (W H : List (Option Nat)), (∀ k, some k ∈ W → pi k = pj k) → asg pi ps W H = asg pj ps W H := by
  intro ps
  induction ps with
  | nil => intro W H _; rfl
  | cons p r ih =>
    intro W H h
    cases H with
    | nil => rfl
    | cons x H =>
      cases x with
      | none =>
        simp only [asg]
        rw [tkW_congr p W h, ih _ _ (fun k hk => h k (tkW_mem.2 k hk))]
      | some y => simp only [asg]; rw [ih _ _ h]
theorem asg_len (pi : Nat → Nat) : ∀ (ps : List Nat) (W H : List (Option Nat)), ps.length = H.length → (asg pi ps W H).length = ps.length := by
  intro ps
  induction ps with
  | nil => intro W H _; rfl
  | cons p r ih =>
    intro W H h
    cases H with
    | nil => simp at h
    | cons x H =>
      cases x with
      | none => simp only [asg, List.length_cons]; rw [ih _ _ (by simpa using h)]
      | some y => simp only [asg, List.length_cons]; rw [ih _ _ (by simpa using h)]
/-- the notes of an item, by what each goes on -/
def pItemH (t tk : Nat) : List Nat → List (Option Nat) → PS → PS × List Nat
  | [], _, s => (s, [])
  | p :: r, H, s => ((pItemH t tk r H.tail (pNote t tk s p (H.headD none)).1).1, (pNote t tk s p (H.headD none)).2.toList ++ (pItemH t tk r H.tail (pNote t tk s p (H.headD none)).1).2)
theorem pNote_pi {t tk : Nat} {s : PS} {p : Nat} {h : Option Nat} {k : Nat} (hk : k < s.1) : (pNote t tk s p h).1.2.2.2.1 k = s.2.2.2.1 k := by
  unfold pNote
  cases h with
  | some y => rfl
  | none =>
    simp only
    split
    · exact upN_ne (by omega)
    · rfl
theorem pItem_eq {t tk : Nat} : ∀ (ps : List Nat) (W : List (Option Nat)) (s : PS), WOk s.1 W → pItem t tk ps W s = pItemH t tk ps (asg s.2.2.2.1 ps W (List.replicate ps.length none)) s := by
  intro ps
  induction ps with
  | nil => intro W s _; rfl
  | cons p r ih =>
    intro W s hW
    have e : asg s.2.2.2.1 (p :: r) W (List.replicate (p :: r).length none) = (tkW s.2.2.2.1 p W).1 :: asg s.2.2.2.1 r (tkW s.2.2.2.1 p W).2 (List.replicate r.length none) := rfl
    rw [e]
    simp only [pItem, pItemH, List.headD_cons, List.tail_cons]
    have hW1 : WOk s.1 (tkW s.2.2.2.1 p W).2 := fun k hk => hW k (tkW_mem.2 k hk)
    have hc : asg s.2.2.2.1 r (tkW s.2.2.2.1 p W).2 (List.replicate r.length none) = asg (pNote t tk s p (tkW s.2.2.2.1 p W).1).1.2.2.2.1 r (tkW s.2.2.2.1 p W).2 (List.replicate r.length none) := asg_congr r _ _ (fun k hk => (pNote_pi (hW1 k hk)).symm)
    rw [hc, ← ih _ _ (fun k hk => Nat.lt_of_lt_of_le (hW1 k hk) (pNote_c _ _ _ _ _))]
/-- the first place with this pitch that nothing goes on to yet -/
def lst (p : Nat) : List Nat → List (Option Nat) → Option Nat
  | [], _ => none
  | _ :: _, [] => none
  | x :: r, none :: H => if x = p then some 0 else (lst p r H).map (· + 1)
  | _ :: r, some _ :: H => (lst p r H).map (· + 1)
theorem lst_lt {p : Nat} : ∀ (ps : List Nat) (H : List (Option Nat)) (m : Nat), lst p ps H = some m → m < ps.length ∧ m < H.length := by
  intro ps
  induction ps with
  | nil => intro H m h; cases h
  | cons x r ih =>
    intro H m h
    cases H with
    | nil => cases h
    | cons y H =>
      have step : ∀ m, (lst p r H).map (· + 1) = some m → m < (x :: r).length ∧ m < (y :: H).length := by
        intro m hm
        cases hl : lst p r H with
        | none => rw [hl] at hm; cases hm
        | some k =>
          rw [hl] at hm
          cases hm
          have := ih H k hl
          simp
          omega
      cases y with
      | none =>
        simp only [lst] at h
        split at h
        · cases h; simp
        · exact step m h
      | some z => exact step m h
theorem putR_lst {p y : Nat} : ∀ (ps : List Nat) (H : List (Option Nat)), putR p y ps H = match lst p ps H with
    | none => H
    | some m => H.set m (some y) := by
  intro ps
  induction ps with
  | nil => intro H; rfl
  | cons x r ih =>
    intro H
    cases H with
    | nil => rfl
    | cons z H =>
      cases z with
      | none =>
        simp only [putR, lst]
        split
        · rfl
        · rw [ih H]
          cases lst p r H <;> rfl
      | some w =>
        simp only [putR, lst]
        rw [ih H]
        cases lst p r H <;> rfl
/-- seen from the back: one place more -/
theorem lst_drop {p : Nat} {ps : List Nat} {H : List (Option Nat)} {k : Nat} (h1 : k < ps.length) (h2 : k < H.length) : (lst p (ps.drop k) (H.drop k)).map (· + k) = if ps.getD k 0 = p ∧ H.getD k none = none then some k else (lst p (ps.drop (k + 1)) (H.drop (k + 1))).map (· + (k + 1)) := by
  have e1 : ps.drop k = ps.getD k 0 :: ps.drop (k + 1) := by rw [drop_cons ps k h1]; rfl
  have e2 : H.drop k = H.getD k none :: H.drop (k + 1) := by
    rw [List.drop_eq_getElem_cons h2]
    simp [List.getD_eq_getElem?_getD, h2]
  rw [e1, e2]
  cases hh : H.getD k none with
  | none =>
    simp only [lst]
    by_cases e : ps.getD k 0 = p
    · rw [if_pos e, if_pos ⟨e, trivial⟩]; simp
    · rw [if_neg e, if_neg (fun h => e h.1)]
      cases lst p (ps.drop (k + 1)) (H.drop (k + 1)) with
      | none => rfl
      | some m => simp; omega
  | some z =>
    simp only [lst]
    rw [if_neg (fun h => by cases h.2)]
    cases lst p (ps.drop (k + 1)) (H.drop (k + 1)) with
    | none => rfl
    | some m => simp; omega

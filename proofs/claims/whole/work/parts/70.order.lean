/-! each bar is come to at most twice -/
section BO
variable {op cl e1 : Nat → Bool}
def bInv (op cl : Nat → Bool) (p st : Nat) (sec : Bool) (f : Nat) : Prop := st ≤ p ∧ if sec then (∀ r, st < r → r < f → op r = false) ∧ (∀ r, st ≤ r → r + 1 < f → cl r = false) else f = p ∧ (∀ r, st < r → r < p → op r = false) ∧ (∀ r, st ≤ r → r < p → cl r = false)
def bPhi (w : Nat → Nat) (p st : Nat) (sec : Bool) (f : Nat) : Nat := if sec then w p + w (max f p) else w p + w st
theorem bNx_inv {p st : Nat} {sec : Bool} {f : Nat} (h : bInv op cl p st sec f) : ∃ f1, bInv op cl (bNx op cl e1 p st sec).2.1 (bNx op cl e1 p st sec).2.2.1 (bNx op cl e1 p st sec).2.2.2 f1 ∧ ∀ w : Nat → Nat, (∀ x y, x ≤ y → w y ≤ w x) → bPhi w (bNx op cl e1 p st sec).2.1 (bNx op cl e1 p st sec).2.2.1 (bNx op cl e1 p st sec).2.2.2 f1 + (w p - w (p + 1)) ≤ bPhi w p st sec f := by
  -- behind the opening
  have core : ∀ (st1 : Nat) (sec1 : Bool) (f1 : Nat), bInv op cl p st1 sec1 f1 → (op p = true → p = st1 ∨ sec1 = true) → (∀ w : Nat → Nat, (∀ x y, x ≤ y → w y ≤ w x) → bPhi w p st1 sec1 f1 ≤ bPhi w p st sec f) → (bNx op cl e1 p st sec = (if e1 p && sec1 then (false, p + 1, st1, sec1) else if cl p then (if sec1 then (true, p + 1, p + 1, false) else (true, st1, st1, true)) else (true, p + 1, st1, sec1))) → ∃ f1, bInv op cl (bNx op cl e1 p st sec).2.1 (bNx op cl e1 p st sec).2.2.1 (bNx op cl e1 p st sec).2.2.2 f1 ∧ ∀ w : Nat → Nat, (∀ x y, x ≤ y → w y ≤ w x) → bPhi w (bNx op cl e1 p st sec).2.1 (bNx op cl e1 p st sec).2.2.1 (bNx op cl e1 p st sec).2.2.2 f1 + (w p - w (p + 1)) ≤ bPhi w p st sec f := by
    intro st1 sec1 f1 hi hop hphi hnx
    rw [hnx]
    obtain ⟨i1, i2⟩ := hi
    cases sec1 with
    | true =>
      simp only [if_true] at i2
      have adv : ∃ f2, bInv op cl (p + 1) st1 true f2 ∧ ∀ w : Nat → Nat, (∀ x y, x ≤ y → w y ≤ w x) → bPhi w (p + 1) st1 true f2 + (w p - w (p + 1)) ≤ bPhi w p st sec f := by
        refine ⟨f1, ⟨by omega, by simpa using i2⟩, fun w hw => ?_⟩
        have := hphi w hw
        unfold bPhi at this ⊢
        simp only [if_true] at this ⊢
        have a1 := hw p (p + 1) (by omega)
        have a2 := hw (max f1 p) (max f1 (p + 1)) (by omega)
        omega
      by_cases he : e1 p = true
      · simp only [he, Bool.and_self, if_true]
        exact adv
      · have he : e1 p = false := by simpa using he
        simp only [he, Bool.false_and, Bool.false_eq_true, if_false]
        by_cases hc : cl p = true
        · simp only [hc, if_true]
          have hf : f1 ≤ p + 1 := by
            apply Nat.le_of_not_lt
            intro hlt
            have := i2.2 p i1 hlt
            rw [this] at hc
            cases hc
          refine ⟨p + 1, ⟨Nat.le_refl _, by simp only [Bool.false_eq_true, if_false]; exact ⟨trivial, fun r r1 r2 => absurd r1 (by omega), fun r r1 r2 => absurd r1 (by omega)⟩⟩, fun w hw => ?_⟩
          have := hphi w hw
          unfold bPhi at this ⊢
          simp only [if_true, Bool.false_eq_true, if_false] at this ⊢
          have a1 := hw p (p + 1) (by omega)
          have a2 := hw (max f1 p) (p + 1) (by omega)
          omega
        · have hc : cl p = false := by simpa using hc
          simp only [hc, Bool.false_eq_true, if_false]
          exact adv
    | false =>
      simp only [Bool.false_eq_true, if_false] at i2
      obtain ⟨i2, i3, i4⟩ := i2
      have hopp : ∀ r, st1 < r → r < p + 1 → op r = false := by
        intro r r1 r2
        by_cases e : r = p
        · subst e
          cases ho : op r with
          | false => rfl
          | true =>
            rcases hop ho with h | h
            · omega
            · cases h
        · exact i3 r r1 (by omega)
      simp only [Bool.and_false, Bool.false_eq_true, if_false]
      by_cases hc : cl p = true
      · simp only [hc, if_true]
        refine ⟨p + 1, ⟨Nat.le_refl _, ?_⟩, fun w hw => ?_⟩
        · simp only [if_true]
          exact ⟨hopp, fun r r1 r2 => i4 r r1 (by omega)⟩
        · have := hphi w hw
          unfold bPhi at this ⊢
          simp only [if_true, Bool.false_eq_true, if_false] at this ⊢
          have a1 := hw p (p + 1) (by omega)
          rw [Nat.max_eq_left (by omega)]
          omega
      · have hc : cl p = false := by simpa using hc
        simp only [hc, Bool.false_eq_true, if_false]
        refine ⟨p + 1, ⟨by omega, ?_⟩, fun w hw => ?_⟩
        · simp only [Bool.false_eq_true, if_false]
          refine ⟨trivial, hopp, fun r r1 r2 => ?_⟩
          by_cases e : r = p
          · subst e; exact hc
          · exact i4 r r1 (by omega)
        · have := hphi w hw
          unfold bPhi at this ⊢
          simp only [Bool.false_eq_true, if_false] at this ⊢
          have a1 := hw p (p + 1) (by omega)
          omega
  obtain ⟨h1, h2⟩ := h
  by_cases ho : op p = true ∧ p ≠ st
  · have hb : (op p && p != st) = true := by simp [ho.1, ho.2]
    refine core p false p ⟨Nat.le_refl _, by simp only [Bool.false_eq_true, if_false]; exact ⟨trivial, fun r r1 r2 => absurd r1 (by omega), fun r r1 r2 => absurd r1 (by omega)⟩⟩ (fun _ => Or.inl rfl) (fun w hw => ?_) (by unfold bNx; simp only [hb, if_true])
    unfold bPhi
    simp only [Bool.false_eq_true, if_false]
    cases sec with
    | false =>
      simp only [Bool.false_eq_true, if_false]
      have := hw st p h1
      omega
    | true =>
      simp only [if_true] at h2 ⊢
      have hf : f ≤ p := by
        apply Nat.le_of_not_lt
        intro hlt
        have := h2.1 p (by omega) hlt
        rw [this] at ho
        cases ho.1
      rw [Nat.max_eq_right hf]
      exact Nat.le_refl _
  · have hb : (op p && p != st) = false := by
      cases h3 : op p with
      | false => rfl
      | true =>
        have : p = st := by
          apply Classical.byContradiction
          intro hne
          exact ho ⟨h3, hne⟩
        simp [this]
    refine core st sec f ⟨h1, h2⟩ (fun h3 => ?_) (fun w hw => Nat.le_refl _) (by unfold bNx; simp only [hb, Bool.false_eq_true, if_false])
    left
    apply Classical.byContradiction
    intro hne
    exact ho ⟨h3, hne⟩
theorem bDone_of {b : Nat} : ∀ (n p st : Nat) (sec : Bool) (f : Nat), bInv op cl p st sec f → bPhi (fun x => b - x) p st sec f ≤ n → bDone b op cl e1 n p st sec := by
  intro n
  induction n with
  | zero =>
    intro p st sec f hi hp
    show b ≤ p
    unfold bPhi at hp
    split at hp <;> simp only at hp <;> omega
  | succ n ih =>
    intro p st sec f hi hp hlt
    obtain ⟨f1, h1, h2⟩ := bNx_inv (e1 := e1) hi
    have := h2 (fun x => b - x) (fun x y hxy => Nat.sub_le_sub_left hxy b)
    exact ih _ _ _ f1 h1 (by omega)
theorem bRun_sum {b : Nat} (w : Nat → Nat) (hw : ∀ x y, x ≤ y → w y ≤ w x) : ∀ (n p st : Nat) (sec : Bool) (f : Nat), bInv op cl p st sec f → ((bRun b op cl e1 n p st sec).map (fun p => w p - w (p + 1))).sum ≤ bPhi w p st sec f := by
  intro n
  induction n with
  | zero => intro p st sec f _; simp [bRun]
  | succ n ih =>
    intro p st sec f hi
    unfold bRun
    split
    · obtain ⟨f1, h1, h2⟩ := bNx_inv (e1 := e1) hi
      have h3 := ih _ _ _ f1 h1
      have h4 := h2 w hw
      rw [List.map_append, List.sum_append]
      split
      · simp only [List.map_cons, List.map_nil, List.sum_cons, List.sum_nil]
        omega
      · simp only [List.map_nil, List.sum_nil]
        omega
    · simp
theorem bRun_lt {b : Nat} : ∀ (n p st : Nat) (sec : Bool), ∀ x ∈ bRun b op cl e1 n p st sec, x < b := by
  intro n
  induction n with
  | zero => intro p st sec x hx; cases hx
  | succ n ih =>
    intro p st sec x hx
    unfold bRun at hx
    split at hx
    · rename_i hlt
      rcases List.mem_append.mp hx with h | h
      · split at h
        · rw [List.mem_singleton.mp h]; exact hlt
        · cases h
      · exact ih _ _ _ x h
    · cases hx
end BO
theorem start_done {b : Nat} {op cl e1 : Nat → Bool} (hb : b ≤ 8) : bDone b op cl e1 20 0 0 false := by
  refine bDone_of 20 0 0 false 0 ⟨Nat.le_refl _, by simp⟩ ?_
  unfold bPhi
  simp only [Bool.false_eq_true, if_false]
  omega
/-- the items that are played: all below ni, at most twice as many as there are -/
theorem start_items {b ni : Nat} {op cl e1 : Nat → Bool} {it : Nat → Nat} (hmono : ∀ p, p < b → it p ≤ it (p + 1)) (hit : ∀ p, p ≤ b → it p ≤ ni) (n : Nat) : ((bRun b op cl e1 n 0 0 false).flatMap (itB it)).length ≤ 2 * ni ∧ ∀ x ∈ (bRun b op cl e1 n 0 0 false).flatMap (itB it), x < ni := by
  have hmn : ∀ d x, x + d ≤ b → it x ≤ it (x + d) := by
    intro d
    induction d with
    | zero => intro x _; exact Nat.le_refl _
    | succ d ih => intro x hx; exact Nat.le_trans (ih x (by omega)) (hmono (x + d) (by omega))
  constructor
  · have h := bRun_sum (op := op) (cl := cl) (e1 := e1) (b := b) (fun x => ni - it (min x b)) (fun x y hxy => by
      have := hmn (min y b - min x b) (min x b) (by omega)
      rw [show min x b + (min y b - min x b) = min y b by omega] at this
      omega) n 0 0 false 0 ⟨Nat.le_refl _, by simp⟩
    have h2 : ((bRun b op cl e1 n 0 0 false).flatMap (itB it)).length = ((bRun b op cl e1 n 0 0 false).map (fun p => (ni - it (min p b)) - (ni - it (min (p + 1) b)))).sum := by
      rw [List.length_flatMap]
      congr 1
      apply List.map_congr_left
      intro p hp
      have hlt := bRun_lt n 0 0 false p hp
      unfold itB
      rw [List.length_range', Nat.min_eq_left (by omega), Nat.min_eq_left (by omega)]
      have a1 := hit p (by omega)
      have a2 := hit (p + 1) (by omega)
      omega
    rw [h2]
    refine Nat.le_trans h ?_
    unfold bPhi
    simp only [Bool.false_eq_true, if_false]
    omega
  · intro x hx
    obtain ⟨p, hp, h⟩ := List.mem_flatMap.mp hx
    have hlt := bRun_lt n 0 0 false p hp
    unfold itB at h
    have := List.mem_range'_1.mp h
    have a2 := hit (p + 1) (by omega)
    have a3 := hmono p hlt
    omega

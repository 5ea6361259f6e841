/-! breaking: both sides compute one table -/
def bUp (p : Option (Nat × Nat)) (q : Nat × Nat) : Option (Nat × Nat) := match p with
  | none => some q
  | some p => if q.1 < p.1 ∨ (q.1 = p.1 ∧ q.2 < p.2) then some q else some p
def bCand (l b : Nat) (f : Nat → Nat × Nat) (e w : Nat) : Nat × Nat := if e + 1 = b then (0, 1) else ((l - w) * (l - w) + (f (e + 1)).1, 1 + (f (e + 1)).2)
/-- lines that begin at one bar: they end behind e, behind e + 1, .. -/
def bIn (l b : Nat) (W : Nat → Nat) (f : Nat → Nat × Nat) : Nat → Nat → Nat → Option (Nat × Nat) → Option (Nat × Nat)
  | 0, _, _, acc => acc
  | n + 1, e, w, acc => if w + W e ≤ l then bIn l b W f n (e + 1) (w + W e) (bUp acc (bCand l b f e (w + W e))) else acc
def bDp (l b : Nat) (W : Nat → Nat) : Nat → Nat → Nat × Nat
  | 0 => fun _ => (0, 0)
  | m + 1 => fun k => if k = b - (m + 1) then (bIn l b W (bDp l b W m) (m + 1) (b - (m + 1)) 0 none).getD (0, 0) else bDp l b W m k
def bSt (x : Option (Nat × Nat)) (p q bar : Nat) (A : Nat → Nat → Int32) : Prop := ∀ c r, x = some (c, r) → A p bar = nI c ∧ A q bar = nI r
def bFr (p q bar : Nat) (A A1 : Nat → Nat → Int32) : Prop := (∀ k, k ≠ p → k ≠ q → A1 k = A k) ∧ ∀ j, j ≠ bar → A1 p j = A p j ∧ A1 q j = A q j
theorem bFr_refl (p q bar : Nat) (A : Nat → Nat → Int32) : bFr p q bar A A := ⟨fun _ _ _ => rfl, fun _ _ => ⟨rfl, rfl⟩⟩
theorem bFr_trans {p q bar : Nat} {A A1 A2 : Nat → Nat → Int32} (h : bFr p q bar A A1) (h2 : bFr p q bar A1 A2) : bFr p q bar A A2 :=
  ⟨fun k k1 k2 => (h2.1 k k1 k2).trans (h.1 k k1 k2), fun j hj => ⟨(h2.2 j hj).1.trans (h.2 j hj).1, (h2.2 j hj).2.trans (h.2 j hj).2⟩⟩
theorem bFr_put {p q bar : Nat} (hpq : p ≠ q) (A : Nat → Nat → Int32) (c r : Int32) : bFr p q bar A (upd2 (upd2 A p bar c) q bar r) := by
  refine ⟨fun k k1 k2 => by rw [upd2_ne k2, upd2_ne k1], fun j hj => ⟨?_, ?_⟩⟩
  · rw [upd2_ne hpq, upd2_eq, upd_ne hj]
  · rw [upd2_eq, upd_ne hj, upd2_ne (Ne.symm hpq)]
theorem bSt_put {p q bar : Nat} (hpq : p ≠ q) (A : Nat → Nat → Int32) (c r : Nat) : bSt (some (c, r)) p q bar (upd2 (upd2 A p bar (nI c)) q bar (nI r)) := by
  intro c1 r1 e
  cases e
  refine ⟨?_, ?_⟩
  · rw [upd2_ne hpq, upd2_eq, upd_eq]
  · rw [upd2_eq, upd_eq]
/-- the best so far is within bounds -/
def bOk (x : Option (Nat × Nat)) : Prop := ∀ c r, x = some (c, r) → c ≤ 10000000 ∧ r ≤ 100
theorem bOk_up {x : Option (Nat × Nat)} {q : Nat × Nat} (h : bOk x) (h1 : q.1 ≤ 10000000) (h2 : q.2 ≤ 100) : bOk (bUp x q) := by
  intro c r e
  unfold bUp at e
  cases x with
  | none => cases e; exact ⟨h1, h2⟩
  | some p =>
    simp only at e
    split at e
    · cases e; exact ⟨h1, h2⟩
    · cases e; exact h _ _ rfl
section CL
variable {k8 : Int32 → Int32 → Int32 → (Nat → Int32) → (Nat → Nat → Int32) → Prop} {post : (Nat → Int32) → (Nat → Nat → Int32) → Prop} {I : Nat → Int32}
theorem sf_129 {A : Nat → Nat → Int32} {bar next c r : Nat} {left : Int32} {acc : Option (Nat × Nat)} (hb : bar < 9) (hk : ∀ A1, bFr 26 27 bar A A1 → bSt acc 26 27 bar A1 → k8 (nI bar) left (nI (next + 1)) I A1) (e : acc = some (c, r)) : wp_LineBreaker_solveFrom_129 k8 post (nI bar) left (nI next) (nI c) (nI r) I A := by
  subst e
  refine ⟨vp_in_nI hb (by omega), vp_in_nI hb (by omega), fun v hv => ?_⟩
  rw [hv, nI_1, nI_clamp (by omega)]
  exact hk _ (bFr_put (by decide) A _ _) (bSt_put (by decide) A c r)
theorem sf_89 {A : Nat → Nat → Int32} {bar next c r : Nat} {left s0 : Int32} {acc : Option (Nat × Nat)} (hb : bar < 9) (hc : c ≤ 10000000) (hr : r ≤ 100) (ho : bOk acc) (hs : (s0 = 1 ∧ acc = none) ∨ (s0 = 0 ∧ ∃ x, acc = some x)) (hst : bSt acc 26 27 bar A) (hk : ∀ A1, bFr 26 27 bar A A1 → bSt (bUp acc (c, r)) 26 27 bar A1 → k8 (nI bar) left (nI (next + 1)) I A1) : wp_LineBreaker_solveFrom_89 k8 post (nI bar) left (nI next) (nI c) (nI r) s0 I A := by
  rcases hs with ⟨e1, e2⟩ | ⟨e1, ⟨c0, r0⟩, e2⟩
  · subst e1; subst e2
    exact ⟨fun q => absurd q (by decide), fun _ => sf_129 hb hk rfl⟩
  · subst e1; subst e2
    obtain ⟨g1, g2⟩ := ho c0 r0 rfl
    obtain ⟨s1, s2⟩ := hst c0 r0 rfl
    have v := vp_in_nI (n := bar) (N := 9) hb (by omega)
    have keep : ¬ (c < c0 ∨ (c = c0 ∧ r < r0)) → ∀ v145 : Int32, v145 = nI next + 1 → k8 (nI bar) left v145 I A := by
      intro hn v145 hv
      rw [hv, nI_1]
      refine hk A (bFr_refl _ _ _ _) ?_
      unfold bUp
      simp only
      rw [if_neg hn]
      exact hst
    have take : (c < c0 ∨ (c = c0 ∧ r < r0)) → wp_LineBreaker_solveFrom_129 k8 post (nI bar) left (nI next) (nI c) (nI r) I A := by
      intro hy
      refine sf_129 hb hk ?_
      unfold bUp
      simp only
      rw [if_pos hy]
    unfold wp_LineBreaker_solveFrom_89
    rw [nI_clamp (by omega), s1, s2]
    refine ⟨fun _ => ⟨v, fun q => take (Or.inl ((nI_ltI (by omega) (by omega)).mp q)), fun q => ⟨v, fun q2 => ⟨v, fun q3 => ?_, fun q3 => ?_⟩, fun q2 => ?_⟩⟩, fun q => absurd rfl q⟩
    · have a1 := mt (nI_ltI (a := c) (b := c0) (by omega) (by omega)).mpr q
      have a3 := (nI_leI (a := r0) (b := r) (by omega) (by omega)).mp q3
      exact keep (by omega)
    · have a2 := (nI_eq (a := c) (b := c0) (by omega) (by omega)).mp q2
      have a3 := mt (nI_leI (a := r0) (b := r) (by omega) (by omega)).mpr q3
      exact take (by omega)
    · have a1 := mt (nI_ltI (a := c) (b := c0) (by omega) (by omega)).mpr q
      have a2 := mt (nI_eq (a := c) (b := c0) (by omega) (by omega)).mpr q2
      exact keep (by omega)
end CL
theorem sq_le {x : Nat} (h : x ≤ 1000) : x * x ≤ 1000000 := Nat.mul_le_mul h h
/-- the table behind a bar -/
def bTab (p q bar b : Nat) (f : Nat → Nat × Nat) (A : Nat → Nat → Int32) : Prop := ∀ k, bar < k → k < b → A p k = nI (f k).1 ∧ A q k = nI (f k).2 ∧ (f k).1 ≤ 1000000 * (b - k) ∧ (f k).2 ≤ b - k
theorem bCand_le {l b bar e w : Nat} {p q : Nat} {f : Nat → Nat × Nat} {A : Nat → Nat → Int32} (hl : l ≤ 1000) (hb : b ≤ 8) (ht : bTab p q bar b f A) (h1 : bar ≤ e) (h2 : e < b) : (bCand l b f e w).1 ≤ 1000000 * (b - bar) ∧ (bCand l b f e w).2 ≤ b - bar := by
  unfold bCand
  split
  · exact ⟨Nat.zero_le _, by omega⟩
  · obtain ⟨-, -, t1, t2⟩ := ht (e + 1) (by omega) (by omega)
    have := sq_le (x := l - w) (by omega)
    simp only
    constructor
    · have : 1000000 * (b - (e + 1)) + 1000000 ≤ 1000000 * (b - bar) := by omega
      omega
    · omega
theorem sf_loop {b l bar : Nat} {W : Nat → Nat} {f : Nat → Nat × Nat} {post : (Nat → Int32) → (Nat → Nat → Int32) → Prop} {I : Nat → Int32} (hb : b ≤ 8) (hl : l ≤ 1000) (hI : I 0 = nI b) (hW : ∀ k, k < b → W k ≤ 7000) :
    ∀ (n e w : Nat) (acc : Option (Nat × Nat)) (A : Nat → Nat → Int32), e + n = b → bar ≤ e → bar < b → w ≤ l → (∀ k, k < b → A 7 k = nI (W k)) → bTab 26 27 bar b f A → A 26 b = 0 → A 27 b = 0 → bOk acc → bSt acc 26 27 bar A → ((e = bar ∧ acc = none) ∨ (bar < e ∧ ∃ x, acc = some x)) → (∀ A1, bFr 26 27 bar A A1 → bSt (bIn l b W f n e w acc) 26 27 bar A1 → post I A1) → wp_LineBreaker_solveFrom_8 post (n + 1) (nI bar) (nI (l - w)) (nI (e + 1)) I A := by
  intro n
  induction n with
  | zero =>
    intro e w acc A he hbe hbb hw hA ht z1 z2 ho hst hf hp
    unfold wp_LineBreaker_solveFrom_8
    rw [hI]
    exact ⟨fun _ => hp A (bFr_refl _ _ _ _) hst, fun q => absurd (nI_lt (by omega) (by omega)) q⟩
  | succ n ih =>
    intro e w acc A he hbe hbb hw hA ht z1 z2 ho hst hf hp
    have hWe := hW e (by omega)
    have en : e < b := by omega
    unfold wp_LineBreaker_solveFrom_8
    rw [hI]
    refine ⟨fun q => absurd q (nI_nlt (by omega) (by omega)), fun _ => ?_⟩
    rw [nI_pred, nI_clamp (by omega), nI_clamp (by omega), hA e en]
    refine ⟨vp_in_nI (by omega) (by omega), fun v hv => ?_⟩
    unfold bIn at hp
    by_cases hle : w + W e ≤ l
    · rw [pk_sub (by omega), show l - w - W e = l - (w + W e) by omega] at hv
      subst hv
      rw [if_pos hle] at hp
      have hcl := bCand_le (w := w + W e) hl hb ht hbe en
      have hgo : ∀ s0 s1 : Int32, s1 + s0 = nI (bCand l b f e (w + W e)).1 → 1 + A 27 (e + 1) = nI (bCand l b f e (w + W e)).2 → wp_LineBreaker_solveFrom_62 (fun y2 y4 y5 I A => wp_LineBreaker_solveFrom_8 post (n + 1) y2 y4 y5 I A) post (nI bar) (nI (l - (w + W e))) (nI (e + 1)) s0 s1 I A := by
        intro s0 s1 c1 c2
        have body : ∀ s : Int32, ((s = 1 ∧ acc = none) ∨ (s = 0 ∧ ∃ x, acc = some x)) → wp_LineBreaker_solveFrom_89 (fun y2 y4 y5 I A => wp_LineBreaker_solveFrom_8 post (n + 1) y2 y4 y5 I A) post (nI bar) (nI (l - (w + W e))) (nI (e + 1)) (nI (bCand l b f e (w + W e)).1) (nI (bCand l b f e (w + W e)).2) s I A := by
          intro s hs
          refine sf_89 (by omega) (by omega) (by omega) ho hs hst (fun A1 hf1 hs1 => ?_)
          refine ih (e + 1) (w + W e) _ A1 (by omega) (by omega) hbb hle (fun k hk => by rw [hf1.1 7 (by decide) (by decide)]; exact hA k hk) (fun k k1 k2 => ?_) ?_ ?_ (bOk_up ho (by omega) (by omega)) hs1 (Or.inr ⟨by omega, ?_⟩) (fun A2 hf2 hs2 => hp A2 (bFr_trans hf1 hf2) hs2)
          · obtain ⟨u1, u2⟩ := hf1.2 k (by omega)
            rw [u1, u2]
            exact ht k k1 k2
          · rw [(hf1.2 b (by omega)).1]; exact z1
          · rw [(hf1.2 b (by omega)).2]; exact z2
          · unfold bUp
            cases acc with
            | none => exact ⟨_, rfl⟩
            | some x =>
              simp only
              split <;> exact ⟨_, rfl⟩
        intro v63 h63
        refine ⟨vp_in_nI (by omega) (by omega), fun v74 h74 => ?_⟩
        rw [nI_clamp (by omega), c2] at h74
        rw [c1] at h63
        subst h63; subst h74
        refine ⟨fun q => body 1 (Or.inl ⟨rfl, ?_⟩), fun q => body 0 (Or.inr ⟨rfl, ?_⟩)⟩
        · rw [nI_1] at q
          have := (nI_eq (a := e + 1) (b := bar + 1) (by omega) (by omega)).mp q
          rcases hf with ⟨_, h⟩ | ⟨h, _⟩
          · exact h
          · omega
        · rw [nI_1] at q
          have := mt (nI_eq (a := e + 1) (b := bar + 1) (by omega) (by omega)).mpr q
          rcases hf with ⟨h, _⟩ | ⟨_, h⟩
          · omega
          · exact h
      refine ⟨fun _ => ⟨vp_in_nI (by omega) (by omega), fun q => ?_, fun q => ?_⟩, fun q => absurd (nI_pos' (by omega)) q⟩
      · have eb : e + 1 = b := (nI_eq (a := e + 1) (b := b) (by omega) (by omega)).mp q
        refine hgo _ _ ?_ ?_
        · unfold bCand
          rw [if_pos eb, eb, z1]
          decide
        · unfold bCand
          rw [if_pos eb, eb, z2]
          decide
      · have eb : ¬ e + 1 = b := mt (nI_eq (a := e + 1) (b := b) (by omega) (by omega)).mpr q
        obtain ⟨t1, t2, t3, t4⟩ := ht (e + 1) (by omega) (by omega)
        refine hgo _ _ ?_ ?_
        · unfold bCand
          rw [if_neg eb, t1, pk_mul, nI_add, Nat.add_comm]
        · unfold bCand
          rw [if_neg eb, t2, show (1 : Int32) = nI 1 from by decide, nI_add]
    · rw [if_neg hle] at hp
      refine ⟨fun q => ?_, fun _ => hp A (bFr_refl _ _ _ _) hst⟩
      have := pk_sneg (a := l - w) (b := W e) (by omega) (by omega)
      rw [← hv] at this
      exact absurd q (by grind)

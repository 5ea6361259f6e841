/-! the order of the bars -/
section BM
variable (b : Nat) (op cl e1 : Nat → Bool)
def bNx (p st : Nat) (sec : Bool) : Bool × Nat × Nat × Bool :=
  if e1 p && (if op p && p != st then false else sec) then (false, p + 1, if op p && p != st then p else st, if op p && p != st then false else sec)
  else if cl p then (if (if op p && p != st then false else sec) then (true, p + 1, p + 1, false) else (true, if op p && p != st then p else st, if op p && p != st then p else st, true))
  else (true, p + 1, if op p && p != st then p else st, if op p && p != st then false else sec)
def bRun : Nat → Nat → Nat → Bool → List Nat
  | 0, _, _, _ => []
  | n + 1, p, st, sec => if p < b then (if (bNx op cl e1 p st sec).1 then [p] else []) ++ bRun n (bNx op cl e1 p st sec).2.1 (bNx op cl e1 p st sec).2.2.1 (bNx op cl e1 p st sec).2.2.2 else []
def bDone : Nat → Nat → Nat → Bool → Prop
  | 0, p, _, _ => b ≤ p
  | n + 1, p, st, sec => p < b → bDone n (bNx op cl e1 p st sec).2.1 (bNx op cl e1 p st sec).2.2.1 (bNx op cl e1 p st sec).2.2.2
end BM
/-- the items of a bar -/
def itB (it : Nat → Nat) (p : Nat) : List Nat := List.range' (it p) (it (p + 1) - it p)
/-- what the class knows of its bars -/
def CBars (b : Nat) (op cl e1 : Nat → Bool) (it : Nat → Nat) (ni : Nat) (A : Nat → Nat → Int32) : Prop := b ≤ 8 ∧ (∀ p, p ≤ b → A 8 p = nI (it p)) ∧ (∀ p, p < b → it p ≤ it (p + 1) ∧ it (p + 1) ≤ ni) ∧ ni ≤ 48 ∧ ∀ p, p < b → ((A 4 p &&& 1) = 0 ↔ op p = false) ∧ ((A 4 (p + 1) &&& 2) = 0 ↔ cl p = false) ∧ (A 5 p = 1 ↔ e1 p = true)
theorem CBars.kept {b : Nat} {op cl e1 : Nat → Bool} {it : Nat → Nat} {ni : Nat} {A A1 : Nat → Nat → Int32} (h : CBars b op cl e1 it ni A) (hf : FrA A A1) : CBars b op cl e1 it ni A1 := by
  obtain ⟨h1, h2, h3, h4, h5⟩ := h
  refine ⟨h1, by rw [hf 8 (by omega)]; exact h2, h3, h4, ?_⟩
  rw [hf 4 (by omega), hf 5 (by omega)]
  exact h5
theorem playBar_loop {post : (Nat → Int32) → (Nat → Nat → Int32) → Prop} {q : Sc} {ni p e : Nat} {fn : Nat → Nat} (hp : p < 8) (he : e ≤ ni) (hni : ni ≤ 48) :
    ∀ (m i : Nat) (I : Nat → Int32) (A : Nat → Nat → Int32) (x : PX), i + m = e → A 8 (p + 1) = nI e → CSc q ni fn A → CX I A x → (∀ I1 A1, FrI I I1 → FrA A A1 → CX I1 A1 (pRun q (List.range' i m) x) → post I1 A1) → wp_Playing_playBar_7 post (m + 1) (nI p) (nI i) I A := by
  intro m
  induction m with
  | zero =>
    intro i I A x hi hA hS hx hq
    unfold wp_Playing_playBar_7
    rw [nI_1, nI_clamp (by omega), hA]
    exact ⟨vp_in_nI (by omega) (by omega), fun _ => hq I A (fun _ _ => rfl) (fun _ _ => rfl) hx, fun z => absurd (nI_le (by omega) (by omega)) z⟩
  | succ m ih =>
    intro i I A x hi hA hS hx hq
    unfold wp_Playing_playBar_7
    rw [nI_1, nI_clamp (by omega), hA]
    refine ⟨vp_in_nI (by omega) (by omega), fun z => absurd z (nI_ge (by omega) (by omega)), fun _ => ?_⟩
    refine playItem_ok (by omega) hS hx (fun I1 A1 g1 g2 g3 => ?_)
    intro v hv
    rw [hv, nI_1]
    refine ih (i + 1) I1 A1 _ (by omega) (by rw [g2 8 (by omega)]; exact hA) (hS.kept g2) g3 (fun I2 A2 k1 k2 k3 => hq I2 A2 (g1.trans k1) (g2.trans k2) ?_)
    rw [List.range'_succ]
    exact k3
theorem playBar_ok {post : (Nat → Int32) → (Nat → Nat → Int32) → Prop} {q : Sc} {ni b p : Nat} {op cl e1 : Nat → Bool} {it fn : Nat → Nat} {I : Nat → Int32} {A : Nat → Nat → Int32} {x : PX} (hp : p < b) (hB : CBars b op cl e1 it ni A) (hS : CSc q ni fn A) (hx : CX I A x) (hq : ∀ I1 A1, FrI I I1 → FrA A A1 → CX I1 A1 (pRun q (itB it p) x) → post I1 A1) : wp_Playing_playBar (nI p) I A post := by
  obtain ⟨h1, h2, h3, h4, h5⟩ := hB
  obtain ⟨j1, j2⟩ := h3 p hp
  unfold wp_Playing_playBar
  refine ⟨vp_in_nI (by omega) (by omega), fun v hv => ⟨it (p + 1) - it p + 1, ?_⟩⟩
  rw [nI_clamp (by omega), h2 p (by omega)] at hv
  rw [hv]
  exact playBar_loop (by omega) j2 h4 _ _ I A x (by omega) (h2 (p + 1) (by omega)) hS hx hq
def pasI (sec : Bool) : Int32 := if sec then 2 else 1
theorem pas1 (sec : Bool) : pasI sec = 1 ↔ sec = false := by cases sec <;> decide
theorem pas2 (sec : Bool) : pasI sec = 2 ↔ sec = true := by cases sec <;> decide
theorem nI_step {k : Nat} : nI k + 1 = nI (k + 1) := nI_1 k
theorem perform_loop {post : (Nat → Int32) → (Nat → Nat → Int32) → Prop} {q : Sc} {ni b : Nat} {op cl e1 : Nat → Bool} {it fn : Nat → Nat} :
    ∀ (n p st y : Nat) (sec : Bool) (I : Nat → Int32) (A : Nat → Nat → Int32) (x : PX), bDone b op cl e1 n p st sec → y + n < 64 → p ≤ b → st ≤ p → I 0 = nI b → CBars b op cl e1 it ni A → CSc q ni fn A → CX I A x → (∀ I1 A1, FrI I I1 → FrA A A1 → CX I1 A1 (pRun q ((bRun b op cl e1 n p st sec).flatMap (itB it)) x) → post I1 A1) → wp_Playing_perform_30 post (n + 1) (nI p) (nI st) (pasI sec) (nI y) I A := by
  intro n
  induction n with
  | zero =>
    intro p st y sec I A x hd hy hpb hst hI hB hS hx hq
    have hb := hB.1
    unfold wp_Playing_perform_30
    rw [hI]
    refine ⟨fun _ => hq I A (fun _ _ => rfl) (fun _ _ => rfl) hx, fun _ => ⟨fun _ => hq I A (fun _ _ => rfl) (fun _ _ => rfl) hx, fun z => absurd (nI_le hd (by omega)) z⟩⟩
  | succ n ih =>
    intro p st y sec I A x hd hy hpb hst hI hB hS hx hq
    have hb := hB.1
    unfold wp_Playing_perform_30
    rw [hI]
    refine ⟨fun z => ?_, fun _ => ⟨fun z => ?_, fun z => ?_⟩⟩
    · rw [show (64 : Int32) = nI 64 from by decide] at z
      exact absurd z (nI_ge (by omega) (by omega))
    · have hpb' : ¬ p < b := by have := (nI_leI (a := b) (b := p) (by omega) (by omega)).mp z; omega
      refine hq I A (fun _ _ => rfl) (fun _ _ => rfl) ?_
      unfold bRun
      rw [if_neg hpb']
      exact hx
    · have hlt : p < b := by have := mt (nI_leI (a := b) (b := p) (by omega) (by omega)).mpr z; omega
      obtain ⟨c1, c2, c3, c4, c5⟩ := hB
      obtain ⟨o1, o2, o3⟩ := c5 p hlt
      have hB : CBars b op cl e1 it ni A := ⟨c1, c2, c3, c4, c5⟩
      have hd := hd hlt
      unfold bRun at hq
      rw [if_pos hlt] at hq
      refine ⟨vp_in_nI (by omega) (by omega), ?_⟩
      rw [nI_clamp (by omega)]
      -- the step from (st1, sec1) on
      have go : ∀ (st1 : Nat) (sec1 : Bool), st1 ≤ p → bNx op cl e1 p st sec = (if e1 p && sec1 then (false, p + 1, st1, sec1) else if cl p then (if sec1 then (true, p + 1, p + 1, false) else (true, st1, st1, true)) else (true, p + 1, st1, sec1)) → wp_Playing_perform_66 (fun y2 y3 y4 y5 I A => wp_Playing_perform_30 post (n + 1) y2 y3 y4 y5 I A) post (nI p) (nI st1) (pasI sec1) (nI y) I A := by
        intro st1 sec1 hs1 hnx
        rw [hnx] at hd hq
        have play : ¬ (e1 p = true ∧ sec1 = true) → wp_Playing_perform_88 (fun y2 y3 y4 y5 I A => wp_Playing_perform_30 post (n + 1) y2 y3 y4 y5 I A) post (nI p) (nI st1) (pasI sec1) (nI y) I A := by
          intro hne
          have hne' : (e1 p && sec1) = false := by
            cases h1 : e1 p <;> cases h2 : sec1 <;> simp_all
          rw [hne'] at hd hq
          simp only [Bool.false_eq_true, if_false] at hd hq
          refine playBar_ok hlt hB hS hx (fun I1 A1 g1 g2 g3 => ?_)
          have i0 : I1 0 = nI b := by rw [g1 0 (by omega)]; exact hI
          have again : ∀ (p2 st2 : Nat) (sec2 : Bool), p2 ≤ b → st2 ≤ p2 → bDone b op cl e1 n p2 st2 sec2 → (∀ I2 A2, FrI I I2 → FrA A A2 → CX I2 A2 (pRun q (([p] ++ bRun b op cl e1 n p2 st2 sec2).flatMap (itB it)) x) → post I2 A2) → ∀ v : Int32, v = nI y + 1 → wp_Playing_perform_30 post (n + 1) (nI p2) (nI st2) (pasI sec2) v I1 A1 := by
            intro p2 st2 sec2 q1 q2 q3 q4 v hv
            rw [hv, nI_1]
            refine ih p2 st2 (y + 1) sec2 I1 A1 _ q3 (by omega) q1 q2 i0 (hB.kept g2) (hS.kept g2) g3 (fun I2 A2 k1 k2 k3 => q4 I2 A2 (g1.trans k1) (g2.trans k2) ?_)
            simp only [List.singleton_append, List.flatMap_cons]
            unfold pRun at k3 ⊢
            rw [List.foldl_append]
            exact k3
          refine ⟨by rw [nI_1]; exact vp_in_nI (by omega) (by omega), ?_⟩
          rw [nI_1, nI_clamp (by omega), g2 4 (by omega), o2]
          refine ⟨fun hcl => ?_, fun hcl => ?_⟩
          · rw [hcl] at hd hq
            simp only [Bool.false_eq_true, if_false, if_true] at hd hq
            refine ⟨fun _ v hv => ⟨fun _ => ?_, fun z => absurd rfl z⟩, fun z => absurd rfl z⟩
            rw [hv, nI_1 p]
            exact again (p + 1) st1 sec1 (by omega) (by omega) hd hq
          · have hcl : cl p = true := by simpa using hcl
            rw [hcl] at hd hq
            simp only [if_true] at hd hq
            refine ⟨fun z => absurd z (by decide), fun _ => ⟨fun hz => ?_, fun hz => ?_⟩⟩
            · have e := (pas1 sec1).mp hz
              subst e
              simp only [Bool.false_eq_true, if_false, if_true] at hd hq
              exact again st1 st1 true (by omega) (Nat.le_refl _) hd hq
            · have e : sec1 = true := by have := mt (pas1 sec1).mpr hz; simpa using this
              subst e
              simp only [if_true] at hd hq
              intro v hv
              refine ⟨fun z => absurd z (by decide), fun _ => ?_⟩
              rw [hv, nI_1 p]
              exact again (p + 1) (p + 1) false (by omega) (Nat.le_refl _) hd hq
        refine ⟨vp_in_nI (by omega) (by omega), ?_⟩
        rw [nI_clamp (by omega), o3]
        refine ⟨fun he => ⟨fun hz => ?_, fun hz => play (fun h => hz ((pas2 sec1).mpr h.2))⟩, fun he => play (fun h => he h.1)⟩
        have e := (pas2 sec1).mp hz
        subst e
        rw [he] at hd hq
        simp only [Bool.and_self, if_true, Bool.false_eq_true, if_false, List.nil_append] at hd hq
        intro v hv w hw
        rw [hv, hw, nI_1, nI_1]
        exact ih (p + 1) st1 (y + 1) true I A x hd (by omega) (by omega) (by omega) hI hB hS hx hq
      rw [o1]
      refine ⟨fun h0 => go st sec hst ?_, fun h0 => ⟨fun h2 => go st sec hst ?_, fun h2 => go p false (Nat.le_refl _) ?_⟩⟩
      · unfold bNx; rw [h0]; simp
      · have e : p = st := (nI_eq (by omega) (by omega)).mp h2
        unfold bNx; rw [e]; simp
      · have e : ¬ p = st := mt (nI_eq (a := p) (b := st) (by omega) (by omega)).mpr h2
        have h0 : op p = true := by simpa using h0
        unfold bNx
        rw [h0, show (p != st) = true by simpa using e]
        simp

/-! breaking: the reference -/
theorem RelBars_B {b : Nat} {A : Nat → Nat → Int32} {J : Nat → Int32} {B B1 : Nat → Nat → Int32} (h : RelBars b A J B) (hf : ∀ i, i ≠ 18 → i ≠ 19 → B1 i = B i) : RelBars b A J B1 := by
  obtain ⟨it, sg, tk, r1, r2, r3, r4, r5, r6⟩ := h
  refine ⟨it, sg, tk, r1, r2, ?_, r4, ?_, r6⟩
  · rw [hf 2 (by decide) (by decide)]; exact r3
  · rw [hf 8 (by decide) (by decide), hf 6 (by decide) (by decide)]; exact r5
section RB
variable {k73 : Int32 → Int32 → (Nat → Int32) → (Nat → Nat → Int32) → Prop} {k90 : Int32 → Int32 → Int32 → Int32 → (Nat → Int32) → (Nat → Nat → Int32) → Prop} {post : Int32 → (Nat → Int32) → (Nat → Nat → Int32) → Prop} {J : Nat → Int32}
/-- the reference's sign of 'nothing yet' -/
def bSg (x : Option (Nat × Nat)) (bar : Nat) (B : Nat → Nat → Int32) : Prop := x = none → B 18 bar < 0
theorem rb_235 {B : Nat → Nat → Int32} {bar e c r : Nat} {l w : Int32} {acc : Option (Nat × Nat)} (hb : bar < 9) (he : e < 9) (hk : ∀ B1, bFr 18 19 bar B B1 → bSt acc 18 19 bar B1 → k90 l (nI bar) w (nI (e + 1)) J B1) (ea : acc = some (c, r)) : wp_TuneSetterModel_broken_235 k73 k90 post l (nI bar) w (nI e) (nI c) (nI r) J B := by
  subst ea
  refine ⟨vp_in_nI hb (by omega), vp_in_nI hb (by omega), fun v hv => ?_⟩
  rw [hv, nI_1, nI_clamp (by omega)]
  exact hk _ (bFr_put (by decide) B _ _) (bSt_put (by decide) B c r)
theorem rb_191 {B : Nat → Nat → Int32} {bar e c r : Nat} {l w : Int32} {acc : Option (Nat × Nat)} (hb : bar < 9) (he : e < 9) (hc : c ≤ 10000000) (hr : r ≤ 100) (ho : bOk acc) (hst : bSt acc 18 19 bar B) (hsg : bSg acc bar B) (hk : ∀ B1, bFr 18 19 bar B B1 → bSt (bUp acc (c, r)) 18 19 bar B1 → k90 l (nI bar) w (nI (e + 1)) J B1) : wp_TuneSetterModel_broken_191 k73 k90 post l (nI bar) w (nI e) (nI c) (nI r) J B := by
  have v := vp_in_nI (n := bar) (N := 9) hb (by omega)
  unfold wp_TuneSetterModel_broken_191
  rw [nI_clamp (by omega)]
  refine ⟨v, ?_⟩
  cases acc with
  | none => exact ⟨fun _ => rb_235 hb he hk rfl, fun q => absurd (hsg rfl) q⟩
  | some x =>
    obtain ⟨c0, r0⟩ := x
    obtain ⟨g1, g2⟩ := ho c0 r0 rfl
    obtain ⟨s1, s2⟩ := hst c0 r0 rfl
    have keep : ¬ (c < c0 ∨ (c = c0 ∧ r < r0)) → ∀ v251 : Int32, v251 = nI e + 1 → k90 l (nI bar) w v251 J B := by
      intro hn v251 hv
      rw [hv, nI_1]
      refine hk B (bFr_refl _ _ _ _) ?_
      unfold bUp
      simp only
      rw [if_neg hn]
      exact hst
    have take : (c < c0 ∨ (c = c0 ∧ r < r0)) → wp_TuneSetterModel_broken_235 k73 k90 post l (nI bar) w (nI e) (nI c) (nI r) J B := by
      intro hy
      refine rb_235 hb he hk ?_
      unfold bUp
      simp only
      rw [if_pos hy]
    rw [s1, s2]
    refine ⟨fun q => absurd q (nI_pos (by omega)), fun _ => ⟨v, fun q => take (Or.inl ((nI_ltI (by omega) (by omega)).mp q)), fun q => ⟨v, fun q2 => ⟨v, fun q3 => ?_, fun q3 => ?_⟩, fun q2 => ?_⟩⟩⟩
    · have a1 := mt (nI_ltI (a := c) (b := c0) (by omega) (by omega)).mpr q
      have a3 := (nI_leI (a := r0) (b := r) (by omega) (by omega)).mp q3
      exact keep (by omega)
    · have a2 := (nI_eq (a := c) (b := c0) (by omega) (by omega)).mp q2
      have a3 := mt (nI_leI (a := r0) (b := r) (by omega) (by omega)).mpr q3
      exact take (by omega)
    · have a1 := mt (nI_ltI (a := c) (b := c0) (by omega) (by omega)).mpr q
      have a2 := mt (nI_eq (a := c) (b := c0) (by omega) (by omega)).mpr q2
      exact keep (by omega)
end RB
theorem rb_loop {b l bar : Nat} {W : Nat → Nat} {f : Nat → Nat × Nat} {k73 : Int32 → Int32 → (Nat → Int32) → (Nat → Nat → Int32) → Prop} {post : Int32 → (Nat → Int32) → (Nat → Nat → Int32) → Prop} {J : Nat → Int32} {A : Nat → Nat → Int32} (hb : b ≤ 8) (hl : l ≤ 1000) (hJ : J 5 = nI b) (hW : ∀ k, k < b → W k ≤ 7000) (hA : ∀ k, k < b → A 7 k = nI (W k)) :
    ∀ (n e w : Nat) (acc : Option (Nat × Nat)) (B : Nat → Nat → Int32), e + n = b → bar ≤ e → bar < b → w ≤ l → RelBars b A J B → bTab 18 19 bar b f B → bOk acc → bSt acc 18 19 bar B → bSg acc bar B → (∀ B1, bFr 18 19 bar B B1 → bSt (bIn l b W f n e w acc) 18 19 bar B1 → k73 (nI l) (nI bar - 1) J B1) → wp_TuneSetterModel_broken_90 k73 post (n + 1) (nI l) (nI bar) (nI w) (nI e) J B := by
  intro n
  induction n with
  | zero =>
    intro e w acc B he hbe hbb hw hR ht ho hst hsg hp
    unfold wp_TuneSetterModel_broken_90
    rw [hJ]
    refine ⟨fun _ v hv => ?_, fun q => absurd (nI_le (by omega) (by omega)) q⟩
    rw [hv, ix_pred]
    exact hp B (bFr_refl _ _ _ _) hst
  | succ n ih =>
    intro e w acc B he hbe hbb hw hR ht ho hst hsg hp
    have hWe := hW e (by omega)
    have en : e < b := by omega
    unfold wp_TuneSetterModel_broken_90
    rw [hJ]
    refine ⟨fun q => absurd q (nI_ge (by omega) (by omega)), fun _ => ?_⟩
    refine widthOf_ok hb hJ hR en ?_
    rw [hA e en, nI_add]
    unfold bIn at hp
    by_cases hle : w + W e ≤ l
    · rw [if_pos hle] at hp
      refine ⟨fun q => absurd q (nI_nlt hle (by omega)), fun _ => ?_⟩
      refine widthOf_ok hb hJ hR en ?_
      intro v hv
      rw [hA e en, nI_add] at hv
      subst hv
      rw [hJ]
      have hcl := bCand_le (w := w + W e) hl hb ht hbe en
      have body : ∀ c r : Int32, c = nI (bCand l b f e (w + W e)).1 → r = nI (bCand l b f e (w + W e)).2 → wp_TuneSetterModel_broken_191 k73 (fun y1 y3 y4 y5 I A => wp_TuneSetterModel_broken_90 k73 post (n + 1) y1 y3 y4 y5 I A) post (nI l) (nI bar) (nI (w + W e)) (nI e) c r J B := by
        intro c r hc hr
        subst hc; subst hr
        refine rb_191 (by omega) (by omega) (by omega) (by omega) ho hst hsg (fun B1 hf1 hs1 => ?_)
        refine ih (e + 1) (w + W e) _ B1 (by omega) (by omega) hbb hle (RelBars_B hR hf1.1) (fun k k1 k2 => ?_) (bOk_up ho (by omega) (by omega)) hs1 ?_ (fun B2 hf2 hs2 => hp B2 (bFr_trans hf1 hf2) hs2)
        · obtain ⟨u1, u2⟩ := hf1.2 k (by omega)
          rw [u1, u2]
          exact ht k k1 k2
        · intro hn
          exfalso
          unfold bUp at hn
          cases acc with
          | none => cases hn
          | some x =>
            simp only at hn
            split at hn <;> cases hn
      refine ⟨fun q => ?_, fun q => ?_⟩
      · have eb : e + 1 = b := by
          rw [show b = (b - 1) + 1 by omega, nI_pred] at q
          have := (nI_eq (a := e) (b := b - 1) (by omega) (by omega)).mp q
          omega
        refine ⟨fun z => absurd z (by decide), fun _ => ⟨fun z => absurd z (by decide), fun _ => ?_⟩⟩
        refine body 0 1 ?_ ?_
        · unfold bCand; rw [if_pos eb]; decide
        · unfold bCand; rw [if_pos eb]; decide
      · have eb : ¬ e + 1 = b := by
          intro z
          rw [show b = (b - 1) + 1 by omega, nI_pred] at q
          exact q ((nI_eq (a := e) (b := b - 1) (by omega) (by omega)).mpr (by omega))
        obtain ⟨t1, t2, t3, t4⟩ := ht (e + 1) (by omega) (by omega)
        refine ⟨fun _ => ⟨?_, fun _ => ⟨?_, ?_⟩, fun z => absurd rfl z⟩, fun z => absurd rfl z⟩
        · rw [nI_1]; exact vp_in_nI (by omega) (by omega)
        · rw [nI_1]; exact vp_in_nI (by omega) (by omega)
        · refine body _ _ ?_ ?_
          · rw [nI_1, nI_clamp (by omega), t1, pk_sub hle, pk_mul, nI_add]
            unfold bCand
            rw [if_neg eb]
          · rw [nI_1, nI_clamp (by omega), t2, show (1 : Int32) = nI 1 from by decide, nI_add]
            unfold bCand
            rw [if_neg eb]
    · rw [if_neg hle] at hp
      refine ⟨fun _ v hv => ?_, fun q => absurd (nI_lt (by omega) (by omega)) q⟩
      rw [hv, ix_pred]
      exact hp B (bFr_refl _ _ _ _) hst
theorem rb_outer {b l : Nat} {W : Nat → Nat} {post : Int32 → (Nat → Int32) → (Nat → Nat → Int32) → Prop} {J : Nat → Int32} {A : Nat → Nat → Int32} (hb : b ≤ 8) (hl : l ≤ 1000) (hJ : J 5 = nI b) (hW : ∀ k, k < b → W k ≤ l) (hA : ∀ k, k < b → A 7 k = nI (W k)) :
    ∀ (k : Nat) (B : Nat → Nat → Int32), k ≤ b → RelBars b A J B → (∀ j, k ≤ j → j < b → B 18 j = nI (bDp l b W (b - k) j).1 ∧ B 19 j = nI (bDp l b W (b - k) j).2 ∧ (bDp l b W (b - k) j).1 ≤ 1000000 * (b - j) ∧ (bDp l b W (b - k) j).2 ≤ b - j) →
    (∀ B1, (∀ i, i ≠ 18 → i ≠ 19 → B1 i = B i) → (∀ j, j < b → B1 18 j = nI (bDp l b W b j).1 ∧ B1 19 j = nI (bDp l b W b j).2) → post 1 J B1) → wp_TuneSetterModel_broken_73 post (k + 1) (nI l) (nI k - 1) J B := by
  intro k
  induction k with
  | zero =>
    intro B hk hR ht hp
    unfold wp_TuneSetterModel_broken_73
    exact ⟨fun _ => hp B (fun _ _ _ => rfl) (fun j hj => ⟨(ht j (Nat.zero_le _) hj).1, (ht j (Nat.zero_le _) hj).2.1⟩), fun q => absurd ix_neg q⟩
  | succ k ih =>
    intro B hk hR ht hp
    unfold wp_TuneSetterModel_broken_73
    rw [nI_pred]
    refine ⟨fun q => absurd q (nI_pos (by omega)), fun _ => ⟨vp_in_nI (by omega) (by omega), b - k + 1, ?_⟩⟩
    rw [nI_clamp (by omega), show (0 : Int32) = nI 0 from by decide]
    have hf0 : bFr 18 19 k B (upd2 B 18 k (-1)) := ⟨fun i i1 i2 => upd2_ne i1, fun j hj => ⟨by rw [upd2_eq, upd_ne hj], by rw [upd2_ne (by decide)]⟩⟩
    have htab : bTab 18 19 k b (bDp l b W (b - (k + 1))) B := fun j j1 j2 => ht j (by omega) j2
    have htab0 : bTab 18 19 k b (bDp l b W (b - (k + 1))) (upd2 B 18 k (-1)) := by
      intro j j1 j2
      obtain ⟨u1, u2⟩ := hf0.2 j (by omega)
      rw [u1, u2]
      exact htab j j1 j2
    refine rb_loop hb hl hJ (fun j hj => by have := hW j hj; omega) hA (b - k) k 0 none _ (by omega) (Nat.le_refl _) (by omega) (Nat.zero_le _) (RelBars_B hR hf0.1) htab0 (fun c r e => by cases e) (fun c r e => by cases e) (fun _ => by rw [upd2_eq, upd_eq]; decide) (fun B1 hf hs => ?_)
    refine ih B1 (by omega) (RelBars_B hR (bFr_trans hf0 hf).1) (bTab_step hl hb (by omega) (hW k (by omega)) htab (bFr_trans hf0 hf) hs) (fun B2 hf2 ht2 => hp B2 (fun i i1 i2 => (hf2 i i1 i2).trans ((bFr_trans hf0 hf).1 i i1 i2)) ht2)
theorem rb_good {b l : Nat} {W : Nat → Nat} {post : Int32 → (Nat → Int32) → (Nat → Nat → Int32) → Prop} {J : Nat → Int32} {A : Nat → Nat → Int32} {B : Nat → Nat → Int32} (hb : b ≤ 8) (hl : l ≤ 1000) (hJ : J 5 = nI b) (hW : ∀ k, k < b → W k ≤ 7000) (hA : ∀ k, k < b → A 7 k = nI (W k)) (hR : RelBars b A J B)
    (hp1 : (∀ j, j < b → W j ≤ l) → ∀ n : Int32, n = nI b - 1 → ∃ n73, wp_TuneSetterModel_broken_73 post n73 (nI l) n J B) (hp0 : (∃ j, j < b ∧ l < W j) → post 0 J B) :
    ∀ (m k : Nat) (g : Int32), k + m = b → ((g = 1 ∧ ∀ j, j < k → W j ≤ l) ∨ (g = 0 ∧ ∃ j, j < k ∧ l < W j)) → wp_TuneSetterModel_broken_27 post (m + 1) (nI l) g (nI k) J B := by
  intro m
  induction m with
  | zero =>
    intro k g hk hg
    unfold wp_TuneSetterModel_broken_27
    rw [hJ]
    refine ⟨fun _ => ?_, fun q => absurd (nI_le (by omega) (by omega)) q⟩
    rcases hg with ⟨e, h⟩ | ⟨e, j, j1, j2⟩
    · subst e
      exact ⟨fun q => absurd q (by decide), fun _ => hp1 (fun j hj => h j (by omega))⟩
    · subst e
      exact ⟨fun _ => hp0 ⟨j, by omega, j2⟩, fun q => absurd rfl q⟩
  | succ m ih =>
    intro k g hk hg
    unfold wp_TuneSetterModel_broken_27
    rw [hJ]
    refine ⟨fun q => absurd q (nI_ge (by omega) (by omega)), fun _ => ?_⟩
    rcases hg with ⟨e, h⟩ | ⟨e, j, j1, j2⟩
    · subst e
      refine ⟨fun q => absurd q (by decide), fun _ => ?_⟩
      refine widthOf_ok hb hJ hR (by omega) ?_
      rw [hA k (by omega)]
      have hWk := hW k (by omega)
      refine ⟨fun q v hv => ?_, fun q v hv => ?_⟩
      · rw [hv, nI_1]
        exact ih (k + 1) 0 (by omega) (Or.inr ⟨rfl, k, by omega, (nI_ltI (by omega) (by omega)).mp q⟩)
      · rw [hv, nI_1]
        refine ih (k + 1) 1 (by omega) (Or.inl ⟨rfl, fun i hi => ?_⟩)
        by_cases e : i = k
        · subst e
          have := mt (nI_ltI (a := l) (b := W i) (by omega) (by omega)).mpr q
          omega
        · exact h i (by omega)
    · subst e
      exact ⟨fun _ => ⟨fun _ => hp0 ⟨j, by omega, j2⟩, fun q => absurd rfl q⟩, fun q => absurd rfl q⟩
theorem Rel_break {I : Nat → Int32} {A A1 : Nat → Nat → Int32} {J : Nat → Int32} {B B1 : Nat → Nat → Int32} (h : Rel I A J B) (hA : ∀ k, k ≠ 26 → k ≠ 27 → A1 k = A k) (hB : ∀ k, k ≠ 18 → k ≠ 19 → B1 k = B k) : Rel I A1 J B1 := by
  obtain ⟨hs, ⟨s, t1, t2, t3, t4⟩, ⟨n, f1, f2, f3, f4⟩, h4, h5, h6⟩ := h
  refine ⟨hs, ⟨s, t1, t2, t3, by rw [hA 1 (by decide) (by decide), hB 1 (by decide) (by decide)]; exact t4⟩, ⟨n, f1, f2, f3, by rw [hA 23 (by decide) (by decide), hB 17 (by decide) (by decide)]; exact f4⟩, h4, h5, ?_⟩
  rcases h6 with h6 | ⟨h6, b, c, q1, q2, q3, q4, q5, q6, q7, q8, it, sg, tk, r1, r2, r3, r4, r5, r6⟩
  · exact Or.inl h6
  · refine Or.inr ⟨h6, b, c, q1, q2, q3, q4, q5, q6, q7, ?_, it, sg, tk, r1, r2, ?_, r4, ?_, ?_⟩
    · unfold RelNotes
      rw [hA 17 (by decide) (by decide), hA 18 (by decide) (by decide), hA 19 (by decide) (by decide), hB 13 (by decide) (by decide), hB 14 (by decide) (by decide), hB 15 (by decide) (by decide)]
      exact q8
    · rw [hB 2 (by decide) (by decide)]; exact r3
    · rw [hB 8 (by decide) (by decide), hB 6 (by decide) (by decide)]; exact r5
    · rw [hA 7 (by decide) (by decide)]; exact r6
/-- both sides, up to the choice of the answer -/
theorem break_ok {I : Nat → Int32} {A : Nat → Nat → Int32} {J : Nat → Int32} {B : Nat → Nat → Int32} (h : Rel I A J B) (x : Int32) (K : Int32 → (Nat → Int32) → (Nat → Nat → Int32) → Prop) (hp0 : ∀ A1, Rel I A1 J B → (∀ post : Int32 → (Nat → Int32) → (Nat → Nat → Int32) → Prop, post 0 J B → wp_TuneSetterModel_broken x J B post) → K 0 I A1) (hp1 : ∀ A1, Rel I A1 J B → (∀ post : Int32 → (Nat → Int32) → (Nat → Nat → Int32) → Prop, (∀ B1, Rel I A1 J B1 → A1 26 0 = B1 18 0 → A1 27 0 = B1 19 0 → post 1 J B1) → wp_TuneSetterModel_broken x J B post) → K 1 I A1) : wp_TuneSetter_canBreak x I A K := by
  have bad : ∀ (post : Int32 → (Nat → Int32) → (Nat → Nat → Int32) → Prop), post 0 J B → ∃ n27, wp_TuneSetterModel_broken_27 post n27 x 0 0 J B := by
    intro post hq
    refine ⟨1, ?_⟩
    unfold wp_TuneSetterModel_broken_27
    exact ⟨fun _ => ⟨fun _ => hq, fun q => absurd rfl q⟩, fun _ => ⟨fun _ => ⟨fun _ => hq, fun q => absurd rfl q⟩, fun q => absurd rfl q⟩⟩
  rcases Rel_two h with ⟨e1, e2⟩ | ⟨e1, e2, b, c, q1, q2, q3, q4, q5, q6, q7, q8, q9⟩
  · exact ⟨fun _ => hp0 A h (fun post hq => ⟨fun _ => bad post hq, fun q => absurd e2 q⟩), fun q => absurd e1 q⟩
  · refine ⟨fun q => absurd q e1, fun _ => ⟨fun h1 => hp0 A h (fun post hq => ⟨fun q => absurd q e2, fun _ => ⟨fun _ => bad post hq, fun q => absurd h1 q⟩⟩), fun h1 => ⟨fun h2 => hp0 A h (fun post hq => ⟨fun q => absurd q e2, fun _ => ⟨fun q => absurd q h1, fun _ => ⟨fun _ => bad post hq, fun q => absurd h2 q⟩⟩⟩), fun h2 => ?_⟩⟩⟩
    obtain ⟨l, hl, hx⟩ : ∃ l : Nat, l ≤ 1000 ∧ x = nI l := by
      obtain ⟨l, l1, l2⟩ := nI_of2 (x := x) (M := 1000) (n := 1000) (by decide) (by grind) (by grind)
      exact ⟨l, l1, l2⟩
    subst hx
    have q9' := q9
    obtain ⟨it, sg, tk, r1, r2, r3, r4, r5, r6⟩ := q9'
    have mono : ∀ d y, y + d ≤ b → it y ≤ it (y + d) := by
      intro d
      induction d with
      | zero => intro y _; exact Nat.le_refl _
      | succ d ih =>
        intro y hy
        exact Nat.le_trans (ih y (by omega)) (r1 (y + d) (by omega))
    have hW : ∀ k, k < b → 2 + wsum sg tk (it k) (it (k + 1) - it k) ≤ 7000 := by
      intro k hk
      have m2 : it (k + 1) ≤ it b := by have := mono (b - (k + 1)) (k + 1) (by omega); rwa [show k + 1 + (b - (k + 1)) = b by omega] at this
      have m1 := r1 k hk
      have := wsum_le (sg := sg) (tk := tk) (i := it k) (n := it (k + 1) - it k) (fun j hj => (r5 j (by omega)).2.1)
      omega
    refine solve_ok (W := fun k => 2 + wsum sg tk (it k) (it (k + 1) - it k)) q1 q2 hl q4 hW r6 (fun hall A1 hf ht => ?_) (fun hex A1 hf => ?_)
    · have hR1 : Rel I A1 J B := Rel_break h hf (fun _ _ _ => rfl)
      refine ⟨fun q => absurd q (by decide), fun _ => ?_⟩
      refine hp1 A1 hR1 (fun post hq => ?_)
      refine ⟨fun q => absurd q e2, fun _ => ⟨fun q => absurd q h1, fun _ => ⟨fun q => absurd q h2, fun _ => ⟨b + 1, ?_⟩⟩⟩⟩
      refine rb_good q2 hl q5 hW r6 q9 (fun _ n hn => ⟨b + 1, ?_⟩) (fun hex => ?_) b 0 1 (by omega) (Or.inl ⟨rfl, fun j hj => absurd hj (Nat.not_lt_zero j)⟩)
      · rw [hn]
        refine rb_outer q2 hl q5 hall r6 b B (Nat.le_refl _) q9 (fun j j1 j2 => by omega) (fun B1 hf2 ht2 => ?_)
        refine hq B1 (Rel_break hR1 (fun _ _ _ => rfl) hf2) ?_ ?_
        · rw [(ht 0 (by omega)).1, (ht2 0 (by omega)).1]
        · rw [(ht 0 (by omega)).2, (ht2 0 (by omega)).2]
      · obtain ⟨j, j1, j2⟩ := hex
        have := hall j j1
        omega
    · have hR1 : Rel I A1 J B := Rel_break h hf (fun _ _ _ => rfl)
      refine ⟨fun _ => ?_, fun q => absurd rfl q⟩
      refine hp0 A1 hR1 (fun post hq => ?_)
      refine ⟨fun q => absurd q e2, fun _ => ⟨fun q => absurd q h1, fun _ => ⟨fun q => absurd q h2, fun _ => ⟨b + 1, ?_⟩⟩⟩⟩
      refine rb_good q2 hl q5 hW r6 q9 (fun hall => ?_) (fun _ => hq) b 0 1 (by omega) (Or.inl ⟨rfl, fun j hj => absurd hj (Nat.not_lt_zero j)⟩)
      obtain ⟨j, j1, j2⟩ := hex
      have := hall j j1
      omega
theorem in0_9 : vp_in 0 9 := by unfold vp_in; decide
theorem ok_breaking {I : Nat → Int32} {A : Nat → Nat → Int32} {J : Nat → Int32} {B : Nat → Nat → Int32} (h : Rel I A J B) : T_breaking Rel I A J B := by
  intro x post hp
  refine break_ok h x _ (fun A1 hR hb => ⟨fun _ => ?_, fun q => absurd rfl q⟩) (fun A1 hR hb => ⟨fun q => absurd q (by decide), fun _ => ⟨in0_9, ?_⟩⟩)
  · exact hb _ ⟨fun _ => hp _ _ _ _ _ hR, fun q => absurd rfl q⟩
  · refine hb _ (fun B1 hR1 e1 e2 => ⟨fun q => absurd q (by decide), fun _ => ⟨in0_9, ?_⟩⟩)
    show post (A1 26 0) (B1 18 0) _ _ _ _
    rw [e1]
    exact hp _ _ _ _ _ hR1
theorem ok_lines {I : Nat → Int32} {A : Nat → Nat → Int32} {J : Nat → Int32} {B : Nat → Nat → Int32} (h : Rel I A J B) : T_lines Rel I A J B := by
  intro x post hp
  refine break_ok h x _ (fun A1 hR hb => ⟨fun _ => ?_, fun q => absurd rfl q⟩) (fun A1 hR hb => ⟨fun q => absurd q (by decide), fun _ => ⟨in0_9, ?_⟩⟩)
  · exact hb _ ⟨fun _ => hp _ _ _ _ _ hR, fun q => absurd rfl q⟩
  · refine hb _ (fun B1 hR1 e1 e2 => ⟨fun q => absurd q (by decide), fun _ => ⟨in0_9, ?_⟩⟩)
    show post (A1 27 0) (B1 19 0) _ _ _ _
    rw [e2]
    exact hp _ _ _ _ _ hR1

/-! the reference: which items are played -/
/-- what the reference knows of its bars: en the marks, pl the plain lines, hv the mark that holds -/
def MBars (b : Nat) (op cl e1 : Nat → Bool) (it : Nat → Nat) (J : Nat → Int32) (B : Nat → Nat → Int32) : Prop := b ≤ 8 ∧ J 5 = nI b ∧ J 8 = nI (it b) ∧ (∀ p, p < b → B 2 p = nI (it p)) ∧ (∀ p, p < b → it p ≤ it (p + 1) ∧ it (p + 1) ≤ 48) ∧ (∀ p, p < b → ((B 5 p = 2 ∨ B 5 p = 4) ↔ op p = true) ∧ ((B 5 (p + 1) = 3 ∨ B 5 (p + 1) = 4) ↔ cl p = true)) ∧ ∃ (en hv : Nat → Nat) (pl : Nat → Bool), ∀ p, p < b → B 3 p = nI (en p) ∧ en p ≤ 2 ∧ (0 < p → (B 5 p = 0 ↔ pl p = true)) ∧ (hv p = if en p = 0 then (if p = 0 then 0 else if pl p then hv (p - 1) else 0) else en p) ∧ (hv p = 1 ↔ e1 p = true)
theorem MBars.kept {b : Nat} {op cl e1 : Nat → Bool} {it : Nat → Nat} {J J1 : Nat → Int32} {B B1 : Nat → Nat → Int32} (h : MBars b op cl e1 it J B) (hJ : ∀ k, k ≠ 24 → J1 k = J k) (hB : ∀ k, k ≠ 12 → B1 k = B k) : MBars b op cl e1 it J1 B1 := by
  unfold MBars at h ⊢
  rw [hJ 5 (by decide), hJ 8 (by decide), hB 2 (by decide), hB 5 (by decide), hB 3 (by decide)]
  exact h
theorem holds_loop {post : Int32 → (Nat → Int32) → (Nat → Nat → Int32) → Prop} {b : Nat} {J : Nat → Int32} {B : Nat → Nat → Int32} {en hv : Nat → Nat} {pl : Nat → Bool} (hb : b ≤ 8) (h : ∀ p, p < b → B 3 p = nI (en p) ∧ en p ≤ 2 ∧ (0 < p → (B 5 p = 0 ↔ pl p = true)) ∧ (hv p = if en p = 0 then (if p = 0 then 0 else if pl p then hv (p - 1) else 0) else en p)) : ∀ (p : Nat), p < b → post (nI (hv p)) J B → wp_TuneSetterModel_holds_2 post (p + 1) (nI p) J B := by
  intro p
  induction p with
  | zero =>
    intro hp hq
    obtain ⟨h1, h2, h3, h4⟩ := h 0 hp
    have v8 := vp_in_nI (n := 0) (N := 8) (by omega) (by omega)
    unfold wp_TuneSetterModel_holds_2
    rw [nI_clamp (by omega), h1]
    refine ⟨v8, fun z => ⟨fun _ => ⟨v8, ?_⟩, fun z2 => absurd (by decide) z2⟩, fun z => ⟨v8, ?_⟩⟩
    · have e : en 0 = 0 := by rw [show (0 : Int32) = nI 0 from by decide] at z; exact (nI_eq (by omega) (by omega)).mp z
      rw [e, if_pos rfl, if_pos rfl] at h4
      rw [e, ← h4]; exact hq
    · have e : ¬ en 0 = 0 := by rw [show (0 : Int32) = nI 0 from by decide] at z; exact mt (nI_eq (by omega) (by omega)).mpr z
      rw [if_neg e] at h4
      rw [← h4]; exact hq
  | succ p ih =>
    intro hp hq
    obtain ⟨h1, h2, h3, h4⟩ := h (p + 1) hp
    have h3 := h3 (by omega)
    have v8 := vp_in_nI (n := p + 1) (N := 8) (by omega) (by omega)
    unfold wp_TuneSetterModel_holds_2
    rw [nI_clamp (by omega), h1, h3]
    refine ⟨v8, fun z => ⟨fun z2 => absurd z2 (nI_nle (by omega) (by omega)), fun _ => ⟨vp_in_nI (by omega) (by omega), fun z2 w hw => ?_, fun z2 => ⟨v8, ?_⟩⟩⟩, fun z => ⟨v8, ?_⟩⟩
    · have e : en (p + 1) = 0 := by rw [show (0 : Int32) = nI 0 from by decide] at z; exact (nI_eq (by omega) (by omega)).mp z
      rw [e, if_pos rfl, if_neg (by omega), z2, if_pos rfl, Nat.add_sub_cancel] at h4
      rw [hw, ix_pred, nI_pred]
      exact ih (by omega) (by rw [← h4]; exact hq)
    · have e : en (p + 1) = 0 := by rw [show (0 : Int32) = nI 0 from by decide] at z; exact (nI_eq (by omega) (by omega)).mp z
      rw [e, if_pos rfl, if_neg (by omega), if_neg z2] at h4
      rw [e, ← h4]; exact hq
    · have e : ¬ en (p + 1) = 0 := by rw [show (0 : Int32) = nI 0 from by decide] at z; exact mt (nI_eq (by omega) (by omega)).mpr z
      rw [if_neg e] at h4
      rw [← h4]; exact hq
def MPl (J : Nat → Int32) (B : Nat → Nat → Int32) (l : List Nat) : Prop := J 24 = nI l.length ∧ l.length ≤ 96 ∧ Hold 12 B l
theorem MPl.add {J : Nat → Int32} {B : Nat → Nat → Int32} {l : List Nat} {i : Nat} (h : MPl J B l) (hl : l.length < 96) : MPl (upd J 24 (nI (l.length + 1))) (upd2 B 12 l.length (nI i)) (l ++ [i]) := by
  obtain ⟨h1, h2, h3⟩ := h
  refine ⟨by rw [upd_eq]; simp, by simp; omega, fun k hk => ?_⟩
  rw [upd2_eq]
  by_cases e : k < l.length
  · rw [upd_ne (by omega), h3 k e, List.getD_eq_getElem?_getD, List.getD_eq_getElem?_getD, List.getElem?_append_left e]
  · have : k = l.length := by simp at hk; omega
    subst this
    rw [upd_eq, List.getD_eq_getElem?_getD, List.getElem?_append_right (Nat.le_refl _)]
    simp
theorem mplayBar_loop {post : (Nat → Int32) → (Nat → Nat → Int32) → Prop} {e : Nat} (he : e ≤ 48) : ∀ (m i : Nat) (J : Nat → Int32) (B : Nat → Nat → Int32) (l : List Nat), i + m = e → MPl J B l → l.length + m ≤ 96 → (∀ J1 B1, (∀ k, k ≠ 24 → J1 k = J k) → (∀ k, k ≠ 12 → B1 k = B k) → MPl J1 B1 (l ++ List.range' i m) → post J1 B1) → wp_TuneSetterModel_playBar_33 post (m + 1) (nI e) (nI i) J B := by
  intro m
  induction m with
  | zero =>
    intro i J B l hi hl hm hq
    unfold wp_TuneSetterModel_playBar_33
    refine ⟨fun _ => hq J B (fun _ _ => rfl) (fun _ _ => rfl) (by simpa using hl), fun z => absurd (nI_le (by omega) (by omega)) z⟩
  | succ m ih =>
    intro i J B l hi hl hm hq
    unfold wp_TuneSetterModel_playBar_33
    rw [hl.1]
    refine ⟨fun z => absurd z (nI_ge (by omega) (by omega)), fun _ => ⟨vp_in_nI (by omega) (by omega), fun v hv => ?_⟩⟩
    rw [hv, nI_1, nI_1, nI_clamp (by omega)]
    refine ih (i + 1) _ _ (l ++ [i]) (by omega) (hl.add (by omega)) (by simp; omega) (fun J1 B1 g1 g2 g3 => hq J1 B1 (fun k hk => (g1 k hk).trans (upd_ne hk)) (fun k hk => (g2 k hk).trans (upd2_ne hk)) ?_)
    rw [List.range'_succ]
    simpa using g3
theorem mplayBar_ok {post : (Nat → Int32) → (Nat → Nat → Int32) → Prop} {b p : Nat} {op cl e1 : Nat → Bool} {it : Nat → Nat} {J : Nat → Int32} {B : Nat → Nat → Int32} {l : List Nat} (hp : p < b) (hB : MBars b op cl e1 it J B) (hl : MPl J B l) (hm : l.length + (itB it p).length ≤ 96) (hq : ∀ J1 B1, (∀ k, k ≠ 24 → J1 k = J k) → (∀ k, k ≠ 12 → B1 k = B k) → MPl J1 B1 (l ++ itB it p) → post J1 B1) : wp_TuneSetterModel_playBar (nI p) J B post := by
  obtain ⟨c1, c2, c3, c4, c5, -⟩ := hB
  obtain ⟨d1, d2⟩ := c5 p hp
  unfold itB at hm hq
  rw [List.length_range'] at hm
  have go : ∃ n33, wp_TuneSetterModel_playBar_33 post n33 (nI (it (p + 1))) (nI (it p)) J B := ⟨it (p + 1) - it p + 1, mplayBar_loop d2 _ _ J B l (by omega) hl hm hq⟩
  unfold wp_TuneSetterModel_playBar
  rw [c2, nI_1, nI_clamp (by omega), nI_clamp (by omega)]
  refine ⟨fun z v hv => ⟨vp_in_nI (by omega) (by omega), fun w hw => ?_⟩, fun z => ⟨vp_in_nI (by omega) (by omega), fun v hv => ⟨vp_in_nI (by omega) (by omega), fun w hw => ?_⟩⟩⟩
  · have e : p + 1 = b := by have := (nI_leI (a := b) (b := p + 1) (by omega) (by omega)).mp z; omega
    rw [hv, hw, c3, c4 p hp, ← e]
    exact go
  · have e : p + 1 < b := by have := mt (nI_leI (a := b) (b := p + 1) (by omega) (by omega)).mpr z; omega
    rw [hv, hw, c4 (p + 1) e, c4 p hp]
    exact go
theorem mperform_loop {post : Int32 → (Nat → Int32) → (Nat → Nat → Int32) → Prop} {b : Nat} {op cl e1 : Nat → Bool} {it : Nat → Nat} :
    ∀ (n p st : Nat) (sec : Bool) (J : Nat → Int32) (B : Nat → Nat → Int32) (l : List Nat), bDone b op cl e1 n p st sec → p ≤ b → st ≤ p → MBars b op cl e1 it J B → MPl J B l → l.length + ((bRun b op cl e1 n p st sec).flatMap (itB it)).length ≤ 96 → (∀ J1 B1, (∀ k, k ≠ 24 → J1 k = J k) → (∀ k, k ≠ 12 → B1 k = B k) → MPl J1 B1 (l ++ (bRun b op cl e1 n p st sec).flatMap (itB it)) → wp_TuneSetterModel_sound J1 B1 post) → wp_TuneSetterModel_perform_11 post (n + 1) (nI p) (nI st) (pasI sec) J B := by
  intro n
  induction n with
  | zero =>
    intro p st sec J B l hd hpb hst hB hl hm hq
    have hb := hB.1
    unfold wp_TuneSetterModel_perform_11
    rw [hB.2.1]
    refine ⟨fun _ => hq J B (fun _ _ => rfl) (fun _ _ => rfl) (by simpa [bRun] using hl), fun z => absurd (nI_le hd (by omega)) z⟩
  | succ n ih =>
    intro p st sec J B l hd hpb hst hB hl hm hq
    have hb := hB.1
    unfold wp_TuneSetterModel_perform_11
    rw [hB.2.1]
    refine ⟨fun z => ?_, fun z => ?_⟩
    · have hpb' : ¬ p < b := by have := (nI_leI (a := b) (b := p) (by omega) (by omega)).mp z; omega
      refine hq J B (fun _ _ => rfl) (fun _ _ => rfl) ?_
      unfold bRun
      rw [if_neg hpb']
      simpa using hl
    · have hlt : p < b := by have := mt (nI_leI (a := b) (b := p) (by omega) (by omega)).mpr z; omega
      have hB' := hB
      obtain ⟨c1, c2, c3, c4, c5, c6, en, hv, pl, c7⟩ := hB'
      obtain ⟨o1, o2⟩ := c6 p hlt
      have hd := hd hlt
      unfold bRun at hq hm
      rw [if_pos hlt] at hq hm
      have v9 := vp_in_nI (n := p) (N := 9) (by omega) (by omega)
      refine ⟨v9, ?_⟩
      rw [nI_clamp (by omega)]
      have go : ∀ (st1 : Nat) (sec1 : Bool), st1 ≤ p → bNx op cl e1 p st sec = (if e1 p && sec1 then (false, p + 1, st1, sec1) else if cl p then (if sec1 then (true, p + 1, p + 1, false) else (true, st1, st1, true)) else (true, p + 1, st1, sec1)) → wp_TuneSetterModel_perform_48 (fun y1 y2 y3 I A => wp_TuneSetterModel_perform_11 post (n + 1) y1 y2 y3 I A) post (nI p) (nI st1) (pasI sec1) J B := by
        intro st1 sec1 hs1 hnx
        rw [hnx] at hd hq hm
        have body : ∀ s0 : Int32, (s0 = 1 ∧ cl p = true) ∨ (s0 = 0 ∧ cl p = false) → wp_TuneSetterModel_perform_77 (fun y1 y2 y3 I A => wp_TuneSetterModel_perform_11 post (n + 1) y1 y2 y3 I A) post (nI p) (nI st1) (pasI sec1) s0 J B := by
          intro s0 hs0
          have play : ¬ (e1 p = true ∧ sec1 = true) → wp_TuneSetterModel_perform_99 (fun y1 y2 y3 I A => wp_TuneSetterModel_perform_11 post (n + 1) y1 y2 y3 I A) post (nI p) (nI st1) (pasI sec1) s0 J B := by
            intro hne
            have hne' : (e1 p && sec1) = false := by
              cases h1 : e1 p <;> cases h2 : sec1 <;> simp_all
            rw [hne'] at hd hq hm
            simp only [Bool.false_eq_true, if_false] at hd hq hm
            have again : ∀ (p2 st2 : Nat) (sec2 : Bool), p2 ≤ b → st2 ≤ p2 → bDone b op cl e1 n p2 st2 sec2 → l.length + (([p] ++ bRun b op cl e1 n p2 st2 sec2).flatMap (itB it)).length ≤ 96 → (∀ J1 B1, (∀ k, k ≠ 24 → J1 k = J k) → (∀ k, k ≠ 12 → B1 k = B k) → MPl J1 B1 (l ++ ([p] ++ bRun b op cl e1 n p2 st2 sec2).flatMap (itB it)) → wp_TuneSetterModel_sound J1 B1 post) → ∀ J1 B1, (∀ k, k ≠ 24 → J1 k = J k) → (∀ k, k ≠ 12 → B1 k = B k) → MPl J1 B1 (l ++ itB it p) → wp_TuneSetterModel_perform_11 post (n + 1) (nI p2) (nI st2) (pasI sec2) J1 B1 := by
              intro p2 st2 sec2 q1 q2 q3 q4 q5 J1 B1 g1 g2 g3
              simp only [List.singleton_append, List.flatMap_cons, List.length_append] at q4 q5
              refine ih p2 st2 sec2 J1 B1 (l ++ itB it p) q3 q1 q2 (hB.kept g1 g2) g3 (by rw [List.length_append]; omega) (fun J2 B2 k1 k2 k3 => q5 J2 B2 (fun k hk => (k1 k hk).trans (g1 k hk)) (fun k hk => (k2 k hk).trans (g2 k hk)) ?_)
              rw [← List.append_assoc]
              exact k3
            have hlen : l.length + (itB it p).length ≤ 96 := by
              rcases hs0 with ⟨_, hc⟩ | ⟨_, hc⟩
              · rw [hc] at hm
                simp only [if_true] at hm
                cases sec1 <;> simp only [if_true, Bool.false_eq_true, if_false, List.singleton_append, List.flatMap_cons, List.length_append] at hm <;> omega
              · rw [hc] at hm
                simp only [Bool.false_eq_true, if_false, if_true, List.singleton_append, List.flatMap_cons, List.length_append] at hm
                omega
            refine mplayBar_ok hlt hB hl hlen (fun J1 B1 g1 g2 g3 => ?_)
            rcases hs0 with ⟨e, hc⟩ | ⟨e, hc⟩
            · subst e
              rw [hc] at hd hq hm
              simp only [if_true] at hd hq hm
              refine ⟨fun z => absurd z (by decide), fun _ => ⟨fun hz => ?_, fun hz => ?_⟩⟩
              · have e := (pas1 sec1).mp hz
                subst e
                simp only [Bool.false_eq_true, if_false, if_true] at hd hq hm
                exact again st1 st1 true (by omega) (Nat.le_refl _) hd hm hq J1 B1 g1 g2 g3
              · have e : sec1 = true := by have := mt (pas1 sec1).mpr hz; simpa using this
                subst e
                simp only [if_true] at hd hq hm
                intro v hv
                rw [hv, nI_1]
                exact ⟨fun z => absurd z (by decide), fun _ => ⟨fun z => absurd z (by decide), fun _ => again (p + 1) (p + 1) false (by omega) (Nat.le_refl _) hd hm hq J1 B1 g1 g2 g3⟩⟩
            · subst e
              rw [hc] at hd hq hm
              simp only [Bool.false_eq_true, if_false, if_true] at hd hq hm
              refine ⟨fun _ v hv => ?_, fun z => absurd rfl z⟩
              rw [hv, nI_1]
              exact ⟨fun _ => ⟨fun _ => again (p + 1) st1 sec1 (by omega) (by omega) hd hm hq J1 B1 g1 g2 g3, fun z => absurd rfl z⟩, fun z => absurd rfl z⟩
          refine ⟨p + 1, ?_⟩
          refine holds_loop hb (fun r hr => ⟨(c7 r hr).1, (c7 r hr).2.1, (c7 r hr).2.2.1, (c7 r hr).2.2.2.1⟩) p hlt ?_
          have hve := (c7 p hlt).2.2.2.2
          have hvb : hv p ≤ 2 := by
            have key : ∀ r, r < b → hv r ≤ 2 := by
              intro r
              induction r with
              | zero => intro hr; rw [(c7 0 hr).2.2.2.1]; have := (c7 0 hr).2.1; split <;> simp <;> omega
              | succ r ihr =>
                intro hr
                rw [(c7 (r + 1) hr).2.2.2.1]
                have h1 := (c7 (r + 1) hr).2.1
                have h2 := ihr (by omega)
                split
                · rw [if_neg (by omega), Nat.add_sub_cancel]
                  split <;> omega
                · exact h1
            exact key p hlt
          have hv1 : nI (hv p) = 1 ↔ e1 p = true := by
            rw [← hve, show (1 : Int32) = nI 1 from by decide]
            exact nI_eq (by omega) (by omega)
          rw [hv1]
          refine ⟨fun he => ⟨fun hz => ?_, fun hz => play (fun h => hz ((pas2 sec1).mpr h.2))⟩, fun he => play (fun h => he h.1)⟩
          have e := (pas2 sec1).mp hz
          subst e
          rw [he] at hd hq hm
          simp only [Bool.and_self, if_true, Bool.false_eq_true, if_false, List.nil_append] at hd hq hm
          intro v hv
          rw [hv, nI_1]
          exact ih (p + 1) st1 true J B l hd (by omega) (by omega) hB hl hm hq
        have v91 : vp_in (nI p + 1) 9 := by rw [nI_1]; exact vp_in_nI (by omega) (by omega)
        unfold wp_TuneSetterModel_perform_48
        rw [show (nI p + 1).toNatClampNeg = p + 1 from by rw [nI_1]; exact nI_clamp (by omega)]
        refine ⟨v91, fun h3 => body 1 (Or.inl ⟨rfl, o2.mp (Or.inl h3)⟩), fun h3 => ⟨v91, fun h4 => body 1 (Or.inl ⟨rfl, o2.mp (Or.inr h4)⟩), fun h4 => body 0 (Or.inr ⟨rfl, ?_⟩)⟩⟩
        cases h : cl p with
        | false => rfl
        | true =>
          rcases o2.mpr h with h5 | h5
          · exact absurd h5 h3
          · exact absurd h5 h4
      have two : op p = true → ((nI p = nI st → wp_TuneSetterModel_perform_48 (fun y1 y2 y3 I A => wp_TuneSetterModel_perform_11 post (n + 1) y1 y2 y3 I A) post (nI p) (nI st) (pasI sec) J B) ∧ (¬ nI p = nI st → wp_TuneSetterModel_perform_48 (fun y1 y2 y3 I A => wp_TuneSetterModel_perform_11 post (n + 1) y1 y2 y3 I A) post (nI p) (nI p) 1 J B)) := by
        intro h0
        refine ⟨fun h2 => go st sec hst ?_, fun h2 => go p false (Nat.le_refl _) ?_⟩
        · have e : p = st := (nI_eq (by omega) (by omega)).mp h2
          unfold bNx; rw [e]; simp
        · have e : ¬ p = st := mt (nI_eq (a := p) (b := st) (by omega) (by omega)).mpr h2
          unfold bNx
          rw [h0, show (p != st) = true by simpa using e]
          simp
      refine ⟨fun h2 => two (o1.mp (Or.inl h2)), fun h2 => ⟨v9, fun h4 => two (o1.mp (Or.inr h4)), fun h4 => go st sec hst ?_⟩⟩
      have h0 : op p = false := by
        cases h : op p with
        | false => rfl
        | true =>
          rcases o1.mpr h with h5 | h5
          · exact absurd h5 h2
          · exact absurd h5 h4
      unfold bNx; rw [h0]; simp

/-! a bar begins: on both sides -/
def fil (k : Nat) (B : Nat → Nat → Int32) : Nat → Nat → Int32 := fun a => if a = 11 then (fun x => if x < k then 9 else B 11 x) else B a
theorem fil_0 (B : Nat → Nat → Int32) : fil 0 B = B := by
  funext a x
  unfold fil
  by_cases e : a = 11
  · rw [if_pos e, if_neg (by omega), e]
  · rw [if_neg e]
theorem fil_s (k : Nat) (B : Nat → Nat → Int32) : upd2 (fil k B) 11 k 9 = fil (k + 1) B := by
  funext a x
  by_cases e : a = 11
  · subst e
    rw [upd2_eq]
    unfold fil
    simp only [if_true]
    by_cases e2 : x = k
    · subst e2; rw [upd_eq, if_pos (by omega)]
    · rw [upd_ne e2]
      by_cases e3 : x < k
      · rw [if_pos e3, if_pos (by omega)]
      · rw [if_neg e3, if_neg (by omega)]
  · rw [upd2_ne e]
    unfold fil
    rw [if_neg e, if_neg e]
/-- what follows the character -/
def Look (p : Nat) (f : Int32) (J : Nat → Int32) (B : Nat → Nat → Int32) : Prop := p ≤ 120 ∧ ∃ s : Nat, s ≤ 120 ∧ J 4 = nI s ∧ ((s ≤ p + 1 ∧ f = 0) ∨ (p + 1 < s ∧ B 1 (p + 1) = f))
section BB
variable {p b n : Nat} {c f F L : Int32} {K : KT} {I : Nat → Int32} {A : Nat → Nat → Int32} {J : Nat → Int32} {B : Nat → Nat → Int32} {q : Sc} {sg it fn : Nat → Nat}
theorem mfill_ok {post : Int32 → (Nat → Int32) → (Nat → Nat → Int32) → Prop} (hq : (c = 91 → post 0 (upd J 9 4) (fil 112 B)) ∧ (¬ c = 91 → wp_TuneSetterModel_beginItem c J (fil 112 B) post)) : ∀ m k, k + m = 112 → wp_TuneSetterModel_beginBar_186 post (m + 1) c (nI k) J (fil k B) := by
  intro m
  induction m with
  | zero =>
    intro k hk
    have : k = 112 := by omega
    subst this
    exact ⟨fun _ => hq, fun z => absurd (by decide) z⟩
  | succ m ih =>
    intro k hk
    unfold wp_TuneSetterModel_beginBar_186
    rw [show (112 : Int32) = nI 112 from by decide, nI_clamp (by omega)]
    refine ⟨fun z => absurd z (nI_ge (by omega) (by omega)), fun _ => ⟨vp_in_nI (by omega) (by omega), fun v hv => ?_⟩⟩
    rw [hv, nI_1, fil_s]
    exact ih (k + 1) (by omega)
theorem m123 {post : Int32 → (Nat → Int32) → (Nat → Nat → Int32) → Prop} (h5 : J 5 = nI b) (hb : b < 8) (hq : (c = 91 → post 0 (upd (upd (upd J 5 (nI (b + 1))) 13 0) 9 4) (fil 112 (mbB J B b))) ∧ (¬ c = 91 → wp_TuneSetterModel_beginItem c (upd (upd J 5 (nI (b + 1))) 13 0) (fil 112 (mbB J B b)) post)) : wp_TuneSetterModel_beginBar_123 post c J B := by
  unfold wp_TuneSetterModel_beginBar_123
  rw [h5, nI_1, nI_clamp (by omega), nI_clamp (by omega)]
  refine ⟨vp_in_nI (by omega) (by omega), vp_in_nI hb (by omega), vp_in_nI hb (by omega), vp_in_nI (by omega) (by omega), 113, ?_⟩
  have := mfill_ok (c := c) (J := upd (upd J 5 (nI (b + 1))) 13 0) (B := mbB J B b) (post := post) hq 112 0 (by omega)
  rw [fil_0, show nI 0 = (0 : Int32) from by decide] at this
  exact this
abbrev mkE (c f : Int32) : Prop := c = 91 ∧ (f = 49 ∨ f = 50)
theorem m47 {post : Int32 → (Nat → Int32) → (Nat → Nat → Int32) → Prop} (h5 : J 5 = nI b) (hb : b ≤ 8) (h8 : J 8 = nI n) (hn : n ≤ 48) (hl : Look p f J B) (hmany : (b = 8 ∨ (¬ mkE c f ∧ n = 48)) → post (-6) J B) (hq : b < 8 → (mkE c f ∨ n < 48) → wp_TuneSetterModel_beginBar_123 post c J B) : wp_TuneSetterModel_beginBar_47 post c (nI p) J B := by
  obtain ⟨hp, s, s1, s2, s3⟩ := hl
  have e8 : J 5 = 8 ↔ b = 8 := by
    rw [h5, show (8 : Int32) = nI 8 from by decide]; exact nI_eq (by omega) (by omega)
  have e48 : J 8 = 48 ↔ n = 48 := by
    rw [h8, show (48 : Int32) = nI 48 from by decide]; exact nI_eq (by omega) (by omega)
  have many : ¬ mkE c f → ¬ b = 8 → (((J 8) = 48 → post (-6) J B) ∧ (¬ (J 8) = 48 → wp_TuneSetterModel_beginBar_123 post c J B)) := by
    intro hm hb8
    refine ⟨fun z => hmany (Or.inr ⟨hm, e48.mp z⟩), fun z => hq (by omega) (Or.inr ?_)⟩
    have := mt e48.mpr z
    omega
  have item : ¬ mkE c f → ¬ b = 8 → wp_TuneSetterModel_beginBar_105 post c J B := fun hm hb8 => ⟨fun _ => many hm hb8, fun z => absurd rfl z⟩
  unfold wp_TuneSetterModel_beginBar_47
  refine ⟨fun z => hmany (Or.inl (e8.mp z)), fun z => ?_⟩
  have hb8 : ¬ b = 8 := mt e8.mpr z
  refine ⟨fun hc => ?_, fun hc => item (fun h => hc h.1) hb8⟩
  rw [nI_1, s2, nI_clamp (by omega)]
  have ele : nI s ≤ nI (p + 1) ↔ s ≤ p + 1 := nI_leI (by omega) (by omega)
  rcases s3 with ⟨t1, t2⟩ | ⟨t1, t2⟩
  · refine ⟨fun _ => item (fun h => by rcases h.2 with e | e <;> rw [t2] at e <;> revert e <;> decide) hb8, fun z => absurd (ele.mpr t1) z⟩
  · have v := vp_in_nI (n := p + 1) (N := 121) (by omega) (by omega)
    rw [t2]
    refine ⟨fun z => absurd (ele.mp z) (by omega), fun _ => ⟨v, fun z1 => ⟨fun z2 => absurd z2 (by decide), fun _ => hq (by omega) (Or.inl ⟨hc, Or.inl z1⟩)⟩, fun z1 => ⟨v, fun z2 => ⟨fun z3 => absurd z3 (by decide), fun _ => hq (by omega) (Or.inl ⟨hc, Or.inr z2⟩)⟩, fun z2 => item (fun h => ?_) hb8⟩⟩⟩
    rcases h.2 with e | e
    · exact z1 e
    · exact z2 e
theorem full_ok {post : Int32 → (Nat → Int32) → (Nat → Nat → Int32) → Prop} (h : Fix I A J B) (hq : post (I 12) J B) : wp_TuneSetterModel_full J B post := by
  obtain ⟨⟨r1, r2, r3, r4, r5, r6, r7⟩, -, -, -, f1, -⟩ := h
  refine ⟨by rcases r2 with e | e | e <;> rw [e] <;> decide, ?_⟩
  rw [← r5, ← f1]
  exact hq
/-- the ticks of the latest bar, on both sides -/
def Lb (b : Nat) (B : Nat → Nat → Int32) : Int32 := if b = 0 then 0 else B 4 (b - 1)
theorem Lb_lbt (h : Base b n p q sg it fn I A J B) : lbt I A (Lb b B) := by
  obtain ⟨-, s, hB, hD⟩ := h
  unfold Lb
  rcases Nat.eq_zero_or_pos b with e | e
  · subst e
    exact Or.inl ⟨s.1, if_pos rfl⟩
  · obtain ⟨b', rfl⟩ : ∃ b', b = b' + 1 := ⟨b - 1, by omega⟩
    refine Or.inr ⟨b', by have := hD.1.1; omega, s.1, ?_⟩
    rw [if_neg (by omega), Nat.add_sub_cancel]
    exact ((hB.1 b' (by omega)).1).symm
theorem mbar {post : Int32 → (Nat → Int32) → (Nat → Nat → Int32) → Prop} (hF : Fix I A J B) (hc : biE c) (h5 : J 5 = nI b) (hb : b ≤ 8) (hbars : 2 ≤ b → Lb b B < I 12 → post (-5) (upd J 7 (J 10)) B) (hq : (b < 2 ∨ ¬ Lb b B < I 12) → wp_TuneSetterModel_beginBar_47 post c (nI p) J B) : wp_TuneSetterModel_beginBar c (nI p) J B post := by
  unfold wp_TuneSetterModel_beginBar
  rw [beginsItem_iff, b2_t hc, h5]
  refine ⟨fun z => absurd z (by decide), fun _ => ⟨fun z => hq (Or.inl ?_), fun z => ?_⟩⟩
  · rw [show (1 : Int32) = nI 1 from by decide] at z
    have := (nI_leI (a := b) (b := 1) (by omega) (by omega)).mp z
    omega
  · have hb2 : 2 ≤ b := by
      rw [show (1 : Int32) = nI 1 from by decide] at z
      have := mt (nI_leI (a := b) (b := 1) (by omega) (by omega)).mpr z
      omega
    obtain ⟨b', rfl⟩ : ∃ b', b = b' + 1 := ⟨b - 1, by omega⟩
    rw [nI_pred, nI_clamp (by omega)]
    have eL : Lb (b' + 1) B = B 4 b' := by unfold Lb; rw [if_neg (by omega), Nat.add_sub_cancel]
    rw [eL] at hbars hq
    refine ⟨vp_in_nI (by omega) (by omega), full_ok hF ⟨fun z2 => hq (Or.inr ?_), fun z2 => hbars hb2 ?_⟩⟩
    · grind
    · grind
theorem mbar_no {post : Int32 → (Nat → Int32) → (Nat → Nat → Int32) → Prop} (hc : ¬ biE c) (hq : post (-2) J B) : wp_TuneSetterModel_beginBar c (nI p) J B post := by
  unfold wp_TuneSetterModel_beginBar
  rw [beginsItem_iff, b2_f hc]
  exact ⟨fun _ => hq, fun z => absurd rfl z⟩
theorem bv_4 {c : Int32} (h : biE c) : ¬ bv c = 4 := by
  rcases bv_opI h with e | e | e | e | e | e <;> rw [e] <;> decide
theorem bar_sim {R : (Nat → Int32) → (Nat → Nat → Int32) → Prop} (hR : ∀ I1 A1, wp_TuneSetterModel_beginBar c (nI p) J B (K I1 A1) → R I1 A1) (hB : Base b n p q sg it fn I A J B) (g : Ou n q I) (hl : lineR (A 4 b) (B 5 b)) (hst : ¬ I 14 = 9) (hs : I 15 = nI p) (hJ : J 7 = nI p) (hlk : Look p f J B) (h16 : b = 0 ∨ J 10 = I 16) (hc : biE c) (hg : Good p c f K) : wp_Reader_step_61 R c (if mkE c f then 4 else bv c) I A := by
  have hD := hB.2.2.2
  have hS := hB.2.1
  have hv4 : (if mkE c f then 4 else bv c) = 4 ↔ mkE c f := by
    by_cases h : mkE c f
    · rw [if_pos h]; exact ⟨fun _ => h, fun _ => rfl⟩
    · rw [if_neg h]; exact ⟨fun z => absurd z (bv_4 hc), fun z => absurd z h⟩
  have go : ∀ I1 A1, (b < 2 ∨ ¬ Lb b B < I 12) → b < 8 → (mkE c f ∨ n < 48) → ((c = 91 → K I1 A1 0 (upd (upd (upd J 5 (nI (b + 1))) 13 0) 9 4) (fil 112 (mbB J B b))) ∧ (¬ c = 91 → wp_TuneSetterModel_beginItem c (upd (upd J 5 (nI (b + 1))) 13 0) (fil 112 (mbB J B b)) (K I1 A1))) → R I1 A1 := by
    intro I1 A1 hok hb8 hmn hq
    refine hR I1 A1 (mbar hB.1 hc hS.2.1 hD.1.1 (fun h1 h2 => ?_) (fun _ => m47 hS.2.1 hD.1.1 hS.2.2.2.1 hD.1.2.1 hlk (fun h => ?_) (fun _ _ => m123 hS.2.1 hb8 hq)))
    · exfalso
      rcases hok with h | h
      · omega
      · exact h h2
    · exfalso
      rcases h with h | h
      · omega
      · rcases hmn with h2 | h2
        · exact h.1 h2
        · omega
  refine s61_bar (b := b) (ic := n) (L := Lb b B) hS.2.2.2.2.2 g.1 g.2.1 ?_ g.2.2.1 hS.1 hD.1.1 hS.2.2.1 hD.1.2.1 (Lb_lbt hB) (fun h1 h2 => ?_) (fun hok h => ?_) (fun hok hb8 h4 A2 hA => ?_) (fun hok hb8 h4 hn A2 hA => ?_)
  · by_cases h : mkE c f
    · rw [if_pos h]; exact Or.inl rfl
    · rw [if_neg h]; exact Or.inr ⟨g.2.1, bv_opI hc⟩
  · refine hR _ _ (mbar hB.1 hc hS.2.1 hD.1.1 (fun _ _ => hg.1 _ _ _ _ _ hB.1 (by decide) rfl ?_) (fun h => ?_))
    · show I 16 = J 10
      rcases h16 with e | e
      · omega
      · exact e.symm
    · exfalso
      rcases h with h | h
      · omega
      · exact h h2
  · refine hR _ _ (mbar hB.1 hc hS.2.1 hD.1.1 (fun h1 h2 => ?_) (fun _ => m47 hS.2.1 hD.1.1 hS.2.2.2.1 hD.1.2.1 hlk (fun _ => hg.1 _ _ _ _ _ (fixF hB.1) (by decide) rfl (by show I 15 = J 7; rw [hs, hJ])) (fun hb8 hmn => ?_)))
    · exfalso
      rcases hok with z | z
      · omega
      · exact z h2
    · exfalso
      rcases h with z | z
      · omega
      · rcases hmn with h2 | h2
        · exact z.1 (hv4.mpr h2)
        · omega
  · have hmk := hv4.mp h4
    have hob := open_bar hB g hl hb8 hA (B2 := fil 112 (mbB J B b)) (fun a ha => if_neg ha) (fun x hx => by unfold fil; rw [if_pos rfl, if_pos hx])
    rw [if_pos hmk]
    refine tk_4 (go _ _ hok hb8 (Or.inl hmk) ⟨fun _ => hg.2.1 _ _ _ _ (by rw [hmk.1]; decide) hS.2.2.2.2.2 (i_mark ⟨b, n, q, sg, upN it (b + 1) n, fn, hob.1.p2 (Nat.le_succ p), hob.2, rfl, rfl, hmk.2⟩), fun z => absurd hmk.1 z⟩)
  · have hmk : ¬ mkE c f := fun z => h4 (hv4.mpr z)
    have hob := open_bar hB g hl hb8 hA (B2 := fil 112 (mbB J B b)) (fun a ha => if_neg ha) (fun x hx => by unfold fil; rw [if_pos rfl, if_pos hx])
    rw [if_neg hmk]
    by_cases e : c = 91
    · subst e
      obtain ⟨o1, o2, o3, o4⟩ := open_item hob.1 hob.2 hn
      refine tk_8 (go _ _ hok hb8 (Or.inr hn) ⟨fun _ => hg.2.1 _ _ _ _ (by decide) hS.2.2.2.2.2 (i_cho ⟨rfl, Or.inr ⟨rfl, fun z => hmk ⟨rfl, Or.inl z⟩, fun z => hmk ⟨rfl, Or.inr z⟩, n, hn, hS.2.2.2.1, b, n, qNew q n, upN sg n 0, upN (upN it (b + 1) n) (b + 1) (n + 1), upN fn (n + 1) (fn n), 0, o1.p2 (Nat.le_succ p), o2, o3, ⟨rfl, rfl, ?_, o4.2.2.2⟩, Or.inl ⟨rfl, o4.2.2.1⟩⟩⟩), fun z => absurd rfl z⟩)
      rw [o4.2.2.1]; exact (by decide : (0 : Int32) = nI 0)
    · exact item_take (f := f) (tl := 0) (K := K) (fun I1 A1 h => go I1 A1 hok hb8 (Or.inr hn) ⟨fun z => absurd z e, fun _ => h⟩) hob.1 hob.2 hst hc (fun _ => rfl) hn hg
end BB

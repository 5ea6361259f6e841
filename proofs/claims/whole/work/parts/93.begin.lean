/-! a note, an item begins: on both sides -/
section BG
variable {p b0 n0 n tl : Nat} {c f : Int32} {K : KT} {I : Nat → Int32} {A : Nat → Nat → Int32} {J : Nat → Int32} {B : Nat → Nat → Int32} {q : Sc} {sg it fn : Nat → Nat}
theorem oc_b (c : Int32) : 0 ≤ oc c ∧ oc c ≤ 1 := by unfold oc; split <;> omega
theorem sign_base {A1 : Nat → Nat → Int32} (h : Base (b0 + 1) (n0 + 1) p q sg it fn I A J B) (hit : it b0 ≤ n0) (w : wid A A1 b0 1) : Base (b0 + 1) (n0 + 1) (p + 1) q (upN sg n0 (sg n0 + 1)) it fn I A1 J (upd2 B 8 n0 (B 8 n0 + 1)) := by
  obtain ⟨hF, s, hB, hD⟩ := h
  obtain ⟨w1, w2, w3⟩ := w
  refine ⟨Fix.arr hF (w1 1 (by decide)) (w1 23 (by decide)) rfl rfl, s, ?_, ?_⟩
  · rw [w1 4 (by decide), w1 5 (by decide), w1 6 (by decide)]
    exact hB
  · rw [w1 8 (by decide), w1 9 (by decide), w1 10 (by decide), w1 11 (by decide), w1 12 (by decide)]
    exact it_sign hD hit w2 w3
theorem note_sim {R : (Nat → Int32) → (Nat → Nat → Int32) → Prop} (hR : ∀ I1 A1, wp_TuneSetterModel_beginNote c J B (K I1 A1) → R I1 A1) (hB : Base (b0 + 1) (n0 + 1) p q sg it fn I A J B) (hI : Im b0 n0 tl tl q it I A J B) (hL : Len1 I J) (hC : Ch n0 q I J) (hm : q.1 n0 < 4) (h6 : I 6 = 99) (hst : ¬ I 14 = 9) (hc : bnE c) (hg : Good p c f K) : takes c (nv c) R I A := by
  obtain ⟨i1, i2, i3, i4, i5, i6, i7, i8, i9⟩ := hI
  have hD := hB.2.2.2
  have hb := hD.1.1
  have hn := hD.1.2.1
  have hfn := hD.1.2.2.2
  have h3 := hB.2.1.2.2.2.2.2
  by_cases hl : ltr c
  · obtain ⟨l, l1, l2⟩ := ltr_ex hl
    rw [nv_l hl]
    refine tk_11 l1 l2 (hR _ _ (beginNote_l l1 l2 (hg.2.1 _ _ _ _ (oth_ltr hl).1 h3 (i_let ⟨b0, n0, q, sg, it, fn, tl, hB.p2 (Nat.le_succ p), ⟨i1, i2, i3, i4, i5, i6, i7, i8, i9⟩, hL, hC, hm, rfl, by omega, ⟨l, oc c, l1, rfl, rfl, rfl, ?_, ?_, rfl, Or.inl ⟨rfl, h6⟩⟩, Or.inl ⟨rfl, rfl⟩⟩))))
    · have := oc_b c; omega
    · have := oc_b c; omega
  · have hc2 : c = 94 ∨ c = 95 ∨ c = 61 := by
      rcases hc with h | h | h | h
      · exact Or.inl h
      · exact Or.inr (Or.inl h)
      · exact Or.inr (Or.inr h)
      · exact absurd h hl
    have h0 : ¬ c = 0 := by rcases hc2 with h | h | h <;> subst h <;> decide
    have key : ∀ (A1 : Nat → Nat → Int32) (v : Int32), wid A A1 b0 1 → ((v = 9 ∧ ((sgn c = 1 ∧ c = 94) ∨ (sgn c = -1 ∧ c = 95))) ∨ (v = 10 ∧ (sgn c = 0 ∨ sgn c = 2 ∨ sgn c = -2))) → wp_TuneSetterModel_beginNote c J B (K (upd (upd (upd I 19 c) 6 (zI (sgn c))) 14 v) A1) := by
      intro A1 v w hv
      refine beginNote_s hc2 hB.2.1.2.2.2.1 (by omega) (hg.2.1 _ _ _ _ h0 h3 (i_sig ⟨b0, n0, q, upN sg n0 (sg n0 + 1), it, fn, tl, sign_base hB i6 w, ⟨i1, i2, i3, i4, i5, i6, i7, i8, ?_⟩, hL, hC, hm, rfl, (by decide : ¬ (1 : Int32) = 0), sgn c, rfl, rfl, hv⟩))
      rw [w.1 14 (by decide)]
      exact i9
    rcases hc2 with h | h | h
    · subst h
      exact tk_9 hB.2.1.1 (by omega) (fun A1 w => hR _ _ (key A1 9 w (Or.inl ⟨rfl, Or.inl ⟨by decide, rfl⟩⟩)))
    · subst h
      exact tk_9 hB.2.1.1 (by omega) (fun A1 w => hR _ _ (key A1 9 w (Or.inl ⟨rfl, Or.inr ⟨by decide, rfl⟩⟩)))
    · subst h
      exact tk_10 hB.2.1.1 (by omega) hst (fun A1 w => hR _ _ (key A1 10 w (Or.inr ⟨rfl, Or.inl (by decide)⟩)))
theorem core_sim {R : (Nat → Int32) → (Nat → Nat → Int32) → Prop} (hR : ∀ I1 A1, wp_TuneSetterModel_core c J B (K I1 A1) → R I1 A1) (hB : Base (b0 + 1) (n0 + 1) p q sg it fn I A J B) (hI : Im b0 n0 tl tl q it I A J B) (hL : Len1 I J) (hC : I 22 = 0 ∧ J 11 = 0 ∧ q.1 n0 = 0 ∧ I 6 = 99) (hst : ¬ I 14 = 9) (hc : c = 91 ∨ c = 122 ∨ bnE c) (hg : Good p c f K) : takes c (cv c) R I A := by
  obtain ⟨c1, c2, c3, c4⟩ := hC
  have h3 := hB.2.1.2.2.2.2.2
  by_cases e1 : c = 91
  · subst e1
    refine tk_8 (hR _ _ ⟨fun _ => hg.2.1 _ _ _ _ (by decide) h3 (i_cho ⟨rfl, Or.inl ⟨rfl, b0, n0, q, sg, it, fn, tl, hB.p2 (Nat.le_succ p), hI, hL, ⟨rfl, rfl, ?_, c4⟩, Or.inl ⟨rfl, c3⟩⟩⟩), fun z => absurd rfl z⟩)
    rw [c3]; exact (by decide : (0 : Int32) = nI 0)
  · by_cases e2 : c = 122
    · subst e2
      refine tk_14 (hR _ _ ⟨fun z => absurd z e1, fun _ => ⟨fun _ => hg.2.1 _ _ _ _ (by decide) h3 (i_num ⟨b0, n0, q, sg, it, fn, tl, 1, 1, hB.p2 (Nat.le_succ p), hI, rfl, c4, ?_, rfl, hL.1, hL.2.1, by decide, by decide, ⟨Or.inl ⟨rfl, rfl⟩, Or.inl ⟨rfl, rfl⟩⟩, Or.inl ⟨rfl, hL.2.2.1, rfl, rfl, rfl, rfl, rfl⟩⟩), fun z => absurd rfl z⟩⟩)
      rw [c3]
      exact ⟨fun z => absurd z (by show ¬ (1 : Int32) = 0; decide), fun z => absurd z (by decide)⟩
    · have hbn : bnE c := by
        rcases hc with h | h | h
        · exact absurd h e1
        · exact absurd h e2
        · exact h
      rw [cv_n hbn]
      refine note_sim (f := f) (K := K) (fun I1 A1 h => hR I1 A1 ?_) hB hI hL (Or.inl ⟨c1, c2, c3⟩) (by omega) c4 hst hbn hg
      refine ⟨fun z => absurd z e1, fun _ => ⟨fun z => absurd z e2, fun _ => ?_⟩⟩
      rw [beginsNote_iff, b2_t hbn]
      exact ⟨fun z => absurd z (by decide), fun _ => h⟩
theorem mitem_ok {post : Int32 → (Nat → Int32) → (Nat → Nat → Int32) → Prop} (hc : biE c) (h40 : c = 40 → J 13 ≤ 0) (hq : wp_TuneSetterModel_beginItem_23 post c J B) : wp_TuneSetterModel_beginItem c J B post := by
  unfold wp_TuneSetterModel_beginItem
  rw [beginsItem_iff, b2_t hc]
  exact ⟨fun z => absurd z (by decide), fun _ => ⟨fun z => ⟨fun _ => hq, fun z2 => absurd (h40 z) z2⟩, fun _ => hq⟩⟩
theorem mitem_no {post : Int32 → (Nat → Int32) → (Nat → Nat → Int32) → Prop} (hc : ¬ biE c ∨ (c = 40 ∧ ¬ J 13 ≤ 0)) (hq : post (-2) J B) : wp_TuneSetterModel_beginItem c J B post := by
  unfold wp_TuneSetterModel_beginItem
  rw [beginsItem_iff]
  by_cases h : biE c
  · have h2 : c = 40 ∧ ¬ J 13 ≤ 0 := by
      rcases hc with e | e
      · exact absurd h e
      · exact e
    rw [b2_t h]
    exact ⟨fun z => absurd z (by decide), fun _ => ⟨fun _ => ⟨fun z => absurd z h2.2, fun _ => hq⟩, fun z => absurd h2.1 z⟩⟩
  · rw [b2_f h]
    exact ⟨fun _ => hq, fun z => absurd rfl z⟩
theorem bv_opI {c : Int32} (h : biE c) : bv c = 6 ∨ bv c = 8 ∨ bv c = 14 ∨ ntS (bv c) := by
  rcases h with h | h | h | h | h | h | h
  · subst h; exact Or.inl (by decide)
  · subst h; exact Or.inr (Or.inl (by decide))
  · subst h; exact Or.inr (Or.inr (Or.inl (by decide)))
  · subst h; exact Or.inr (Or.inr (Or.inr (Or.inl (by decide))))
  · subst h; exact Or.inr (Or.inr (Or.inr (Or.inl (by decide))))
  · subst h; exact Or.inr (Or.inr (Or.inr (Or.inr (Or.inl (by decide)))))
  · exact Or.inr (Or.inr (Or.inr (Or.inr (Or.inr (bv_l h)))))
/-- the new item, taken -/
theorem item_take {R : (Nat → Int32) → (Nat → Nat → Int32) → Prop} (hR : ∀ I1 A1, wp_TuneSetterModel_beginItem c J B (K I1 A1) → R I1 A1) (hB : Base (b0 + 1) n p q sg it fn I A J B) (g : Gp n tl q I A J B) (hst : ¬ I 14 = 9) (hc : biE c) (h40 : c = 40 → tl = 0) (hn : n < 48) (hg : Good p c f K) : takes c (bv c) R (itI I n) (itA I A b0 n) := by
  obtain ⟨o1, o2, o3, o4⟩ := open_item hB g hn
  have h13 : c = 40 → J 13 ≤ 0 := fun z => by rw [g.2.2.2.2.1, h40 z]; decide
  have h48 : ¬ J 8 = 48 := by
    rw [hB.2.1.2.2.2.1, show (48 : Int32) = nI 48 from by decide]
    exact fun z => by have := (nI_eq (a := n) (b := 48) (by omega) (by omega)).mp z; omega
  by_cases e : c = 40
  · subst e
    refine tk_6 (hR _ _ (mitem_ok hc h13 ⟨fun z => absurd z h48, fun _ => mopenItem_ok hB.2.1.2.2.2.1 hn ⟨fun _ => hg.2.1 _ _ _ _ (by decide) hB.2.1.2.2.2.2.2 (i_par ⟨b0, n, qNew q n, upN sg n 0, upN it (b0 + 1) (n + 1), upN fn (n + 1) (fn n), o1.p2 (Nat.le_succ p), ?_, o3, o4, rfl, rfl⟩), fun z => absurd rfl z⟩⟩))
    obtain ⟨i1, i2, i3, i4, i5, i6, i7, i8, i9⟩ := o2
    refine ⟨i1, i2, ?_, rfl, by omega, i6, i7, i8, i9⟩
    rw [h40 rfl] at i3
    exact i3
  · have hc2 : c = 91 ∨ c = 122 ∨ bnE c := by
      rcases hc with h | h
      · exact absurd h e
      · exact h
    rw [bv_c e]
    refine core_sim (f := f) (K := K) (fun I1 A1 h => hR I1 A1 ?_) o1 o2 o3 o4 hst hc2 hg
    exact mitem_ok hc h13 ⟨fun z => absurd z h48, fun _ => mopenItem_ok hB.2.1.2.2.2.1 hn ⟨fun z => absurd z e, fun _ => h⟩⟩
theorem fixF {e w : Int32} (h : Fix I A J B) : Fix (upd (upd I 3 e) 4 w) A J B := h
theorem item_sim {R : (Nat → Int32) → (Nat → Nat → Int32) → Prop} (hR : ∀ I1 A1, wp_TuneSetterModel_beginItem c J B (K I1 A1) → R I1 A1) (hB : Base (b0 + 1) n p q sg it fn I A J B) (g : Gp n tl q I A J B) (hst : ¬ I 14 = 9) (hs : I 15 = nI p) (hJ : J 7 = nI p) (hc : biE c) (h40 : c = 40 → tl = 0) (hg : Good p c f K) : wp_Reader_step_61 R c (bv c) I A := by
  have hD := hB.2.2.2
  have h13 : c = 40 → J 13 ≤ 0 := fun z => by rw [g.2.2.2.2.1, h40 z]; decide
  refine s61_item (b := b0) (ic := n) hB.2.1.2.2.2.2.2 (by rw [g.1]; decide) ⟨g.2.1, bv_opI hc⟩ g.2.2.1 hB.2.1.1 (by have := hD.1.1; omega) hB.2.1.2.2.1 hD.1.2.1 (fun hn => ?_) (fun hn => item_take (f := f) hR hB g hst hc h40 hn hg)
  refine hR _ _ (mitem_ok hc h13 ⟨fun _ => hg.1 _ _ _ _ _ (fixF hB.1) (by decide) rfl ?_, fun z => absurd ?_ z⟩)
  · show I 15 = J 7
    rw [hs, hJ]
  · rw [hB.2.1.2.2.2.1, hn]; decide
end BG

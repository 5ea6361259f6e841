/-! steps by mode: lines, bars, what stands between items -/
/-- the character, on both sides: 0 and -1 at the end -/
def Cr (c cr : Int32) : Prop := (c = cr ∧ ¬ c = 0 ∧ ¬ c = -1) ∨ (c = 0 ∧ cr = -1)
section CR
variable {c cr : Int32}
theorem Cr_of (h : Cr c cr) (h0 : ¬ c = 0) : cr = c := by
  rcases h with ⟨e, -⟩ | ⟨e, -⟩
  · exact e.symm
  · exact absurd e h0
theorem Cr_k {k : Int32} (h : Cr c cr) (k0 : ¬ k = 0) (k1 : ¬ k = -1) : cr = k ↔ c = k := by
  rcases h with ⟨e, -⟩ | ⟨e1, e2⟩
  · rw [e]
  · rw [e1, e2]; exact ⟨fun z => absurd z.symm k1, fun z => absurd z.symm k0⟩
theorem Cr_bn (h : Cr c cr) : bnE cr ↔ bnE c := by
  rcases h with ⟨e, -⟩ | ⟨e1, e2⟩
  · rw [e]
  · rw [e1, e2]; decide
theorem Cr_bi (h : Cr c cr) : biE cr ↔ biE c := by
  rcases h with ⟨e, -⟩ | ⟨e1, e2⟩
  · rw [e]
  · rw [e1, e2]; decide
theorem Cr_dg (h : Cr c cr) : dig cr ↔ dig c := by
  rcases h with ⟨e, -⟩ | ⟨e1, e2⟩
  · rw [e]
  · rw [e1, e2]; decide
theorem Cr_lt (h : Cr c cr) : ltr cr ↔ ltr c := by
  rcases h with ⟨e, -⟩ | ⟨e1, e2⟩
  · rw [e]
  · rw [e1, e2]; decide
theorem bi0 (h : biE c) : ¬ c = 0 := fun z => by rw [z] at h; revert h; decide
theorem bn0 (h : bnE c) : ¬ c = 0 := bi0 (biE_n h)
theorem dg0 (h : dig c) : ¬ c = 0 := fun z => by rw [z] at h; revert h; decide
theorem bv_m (h : biE c) : ¬ bv c = -1 := by
  rcases bv_opI h with e | e | e | e | e | e <;> rw [e] <;> decide
end CR
/-- states in which no note, no item can end -/
abbrev plainS (st : Int32) : Prop := ¬ (11 ≤ st ∧ st ≤ 17) ∧ 0 ≤ st ∧ st ≤ 20 ∧ (tb_MAY st.toNatClampNeg &&& 16384) = 0
theorem plain_of {st ch c : Int32} (h : ¬ (11 ≤ st ∧ st ≤ 17)) : ¬ lenE st ch c ∧ ¬ octE st c := by
  have ho : ¬ octE st c := by
    rintro (⟨e, -⟩ | ⟨e, -⟩ | ⟨e, -⟩) <;> exact h (by rw [e]; decide)
  refine ⟨?_, ho⟩
  rintro (⟨e | e, -⟩ | ⟨e | e | e, -⟩)
  · exact h (by rw [e]; decide)
  · exact h (by rw [e]; decide)
  · exact h (by rw [e]; decide)
  · exact h (by rw [e]; decide)
  · exact ho e.1
theorem plain_nd {st ch : Int32} (h : plainS st) : ¬ mv st ch 16384 := by
  refine fun z => (mv_o ?_).mp z h.2.2.2
  rintro (e | e | e) <;> exact h.1 (by rw [e]; decide)
def Env (p : Nat) (c cr f : Int32) (I J : Nat → Int32) (B : Nat → Nat → Int32) : Prop := I 15 = nI p ∧ J 7 = nI p ∧ Look p f J B ∧ Cr c cr
section MD
variable {p b b0 n n0 tl : Nat} {c cr f : Int32} {K : KT} {I : Nat → Int32} {A : Nat → Nat → Int32} {J : Nat → Int32} {B : Nat → Nat → Int32} {q : Sc} {sg it fn : Nat → Nat} {R : (Nat → Int32) → (Nat → Nat → Int32) → Prop}
theorem good_bad {e : Int32} (hg : Good p c f K) (hF : Fix I A J B) (hv : Env p c cr f I J B) (he : e < 0) : K (upd (upd I 3 e) 4 (I 15)) A e J B :=
  hg.1 _ _ _ _ _ (fixF hF) he rfl (by show I 15 = J 7; rw [hv.1, hv.2.1])
theorem plain_bad {st : Int32} (h14 : I 14 = st) (hst : plainS st) (h3 : I 3 = 0) (hf : folF st (I 22) (I 20) (I 17) (I 19) (I 11) (I 0) 0 c f = -1) (hq : failed (-2) (I 15) R I A) : wp_Reader_step c f I A R := by
  have hp := plain_of (ch := I 22) (c := c) hst.1
  subst h14
  exact step_plain h3 hp.1 hp.2 (s31_bad (rs := 0) h3 hst.2.1 hst.2.2.1 (fun z => absurd z (plain_nd hst)) hf hq)
theorem plain_go {st v : Int32} (h14 : I 14 = st) (hst : plainS st) (h3 : I 3 = 0) (hf : folF st (I 22) (I 20) (I 17) (I 19) (I 11) (I 0) 0 c f = v) (hn : ¬ v = -1) (hq : wp_Reader_step_61 R c v I A) : wp_Reader_step c f I A R := by
  have hp := plain_of (ch := I 22) (c := c) hst.1
  subst h14
  exact step_plain h3 hp.1 hp.2 (s31_go (rs := 0) h3 hst.2.1 hst.2.2.1 (fun z => absurd z (plain_nd hst)) hf hn hq)
/-- what opens nothing -/
theorem s61_no {v : Int32} (h3 : I 3 = 0) (hv : ¬ (v = 1 ∨ v = 2 ∨ v = 4 ∨ v = 6 ∨ v = 8 ∨ v = 9 ∨ v = 10 ∨ v = 11 ∨ v = 14)) (hq : takes c v R I A) : wp_Reader_step_61 R c v I A := by
  refine s61_plain h3 ?_ ?_ ?_ ?_ hq
  · rintro (e | e)
    · exact hv (Or.inl e)
    · exact hv (Or.inr (Or.inl e))
  · rintro ⟨-, e | ⟨-, e | e | e | e | e | e⟩⟩
    · exact hv (by rw [e]; decide)
    · exact hv (by rw [e]; decide)
    · exact hv (by rw [e]; decide)
    · exact hv (by rw [e]; decide)
    · exact hv (by rw [e]; decide)
    · exact hv (by rw [e]; decide)
    · exact hv (by rw [e]; decide)
  · rintro ⟨-, e | e | e | e | e | e⟩
    · exact hv (by rw [e]; decide)
    · exact hv (by rw [e]; decide)
    · exact hv (by rw [e]; decide)
    · exact hv (by rw [e]; decide)
    · exact hv (by rw [e]; decide)
    · exact hv (by rw [e]; decide)
  · rintro ⟨-, e | e | e, -⟩
    · exact hv (by rw [e]; decide)
    · exact hv (by rw [e]; decide)
    · exact hv (by rw [e]; decide)
/-- in an item: what opens no line, and no note of a chord -/
theorem s61_in {v : Int32} (h3 : I 3 = 0) (h20 : I 20 = 1) (h21 : I 21 = 1) (hv : ¬ (v = 1 ∨ v = 2)) (hC : ¬ opC (I 22) (I 14) v) (hq : takes c v R I A) : wp_Reader_step_61 R c v I A :=
  s61_plain h3 hv (fun z => absurd z.1 (by rw [h20]; decide)) (fun z => absurd z.1 (by rw [h21]; decide)) hC hq
theorem full_nneg (h : Fix I A J B) : ¬ I 12 < 0 := by
  obtain ⟨⟨⟨a1, a2⟩, r2, r3, r4, r5, r6, r7⟩, -, -, -, f1, -⟩ := h
  rw [f1, r5]
  have : J 0 = 1 ∨ J 0 = 2 ∨ J 0 = 3 ∨ J 0 = 4 ∨ J 0 = 5 ∨ J 0 = 6 ∨ J 0 = 7 ∨ J 0 = 8 ∨ J 0 = 9 ∨ J 0 = 10 ∨ J 0 = 11 ∨ J 0 = 12 := by grind
  rcases this with e | e | e | e | e | e | e | e | e | e | e | e <;> rw [e] <;> rcases r2 with e2 | e2 | e2 <;> rw [e2] <;> decide
theorem insF_i {t : Int32} (e1 : ¬ c = 32) (e2 : ¬ (c = 124 ∨ c = 58)) (h : biE c ∧ ¬ (c = 40 ∧ ¬ t = 0)) : insF t c = bv c := by
  unfold insF; rw [if_neg e1, if_neg (fun z => e2 (Or.inl z)), if_neg (fun z => e2 (Or.inr z)), if_pos h]
theorem insF_x {t : Int32} (e1 : ¬ c = 32) (e2 : ¬ (c = 124 ∨ c = 58)) (h : ¬ (biE c ∧ ¬ (c = 40 ∧ ¬ t = 0))) : insF t c = -1 := by
  unfold insF; rw [if_neg e1, if_neg (fun z => e2 (Or.inl z)), if_neg (fun z => e2 (Or.inr z)), if_neg h]
/-- a line begins -/
theorem line_sim (hR : ∀ I1 A1, wp_TuneSetterModel_beginLine c (nI p) J B (K I1 A1) → R I1 A1) (hB : Base b n p q sg it fn I A J B) (h21 : I 21 = 0) (h22 : I 22 = 0) (h17 : I 17 = 0) (h6 : I 6 = 99) (hd : done q n) (hL : ¬ I 12 < Lb b B) (hs : I 15 = nI p) (hc : c = 124 ∨ c = 58) (hg : Good p c f K) : wp_Reader_step_61 R c (if c = 124 then 1 else 2) I A := by
  have hD := hB.2.2.2
  have h3 := hB.2.1.2.2.2.2.2
  have hc0 : ¬ c = 0 := by rcases hc with e | e <;> rw [e] <;> decide
  refine s61_line (L := Lb b B) h3 (by split; exact Or.inl rfl; exact Or.inr rfl) (Lb_lbt hB) (fun z => ?_) (fun _ _ => ?_)
  · exfalso
    rcases z with z | z
    · exact hL z
    · exact z (by rw [h17]; decide)
  · by_cases e : c = 124
    · rw [if_pos e]
      refine tk_1 (b := b) hB.2.1.1 (by have := hD.1.1; omega) (hR _ _ ⟨fun _ => hg.2.1 _ _ _ _ hc0 h3 (i_bet ⟨b, n, q, sg, it, fn, ⟨hB.1, hB.2.1, bar_lineA hB.2.2.1, it_p hD (Nat.le_succ p)⟩, ⟨rfl, h21, h22, h17, h6, hd⟩, Or.inr (Or.inl ⟨rfl, rfl, hs.symm, upd_eq _ _ _⟩)⟩), fun z => absurd e z⟩)
    · rw [if_neg e]
      refine tk_2 (hR _ _ ⟨fun z => absurd z e, fun _ => hg.2.1 _ _ _ _ hc0 h3 (i_col ⟨b, n, q, sg, it, fn, hB.p2 (Nat.le_succ p), ⟨rfl, h21, h22, h17, h6, hd⟩, rfl, rfl, hs.symm⟩)⟩)
/-- between the items of a bar -/
theorem inside_sim {rs : Int32} (hR : ∀ I1 A1, wp_TuneSetterModel_inside cr (nI p) J B (K I1 A1) → R I1 A1) (hB : Base (b0 + 1) n p q sg it fn I A J B) (g : Gp n tl q I A J B) (hv : Env p c cr f I J B) (h9 : ¬ I 14 = 9) (h0 : 0 ≤ I 14) (h1 : I 14 ≤ 20) (hr : mv (I 14) (I 22) 16384 → ∃ ic : Nat, ic < 48 ∧ I 1 = nI (ic + 1) ∧ (A 9 ic = I 2 ↔ ¬ rs = 0)) (hf : folF (I 14) (I 22) (I 20) (I 17) (I 19) (I 11) (I 0) rs c f = insF (I 17) c) (hJ9 : J 9 = 12) (hg : Good p c f K) : wp_Reader_step_31 R c f I A := by
  have h3 := hB.2.1.2.2.2.2.2
  have hc := hv.2.2.2
  have hD := hB.2.2.2
  have hb8 : b0 + 1 ≤ 8 := hD.1.1
  have ht : ∀ {x : Int32}, x = nI tl → (x ≤ 0 ↔ tl = 0) := by
    intro x hx
    rw [hx, show (0 : Int32) = nI 0 from by decide]
    have h4 := g.2.2.2.2.2.1
    exact ⟨fun z => by have := (nI_leI (a := tl) (b := 0) (by omega) (by omega)).mp z; omega, fun z => (nI_leI (by omega) (by omega)).mpr (by omega)⟩
  by_cases e1 : c = 32
  · have ec : cr = c := Cr_of hc (by rw [e1]; decide)
    rw [ec] at hR
    refine s31_go (v := 19) h3 h0 h1 hr (hf.trans (by unfold insF; rw [if_pos e1])) (by decide) (s61_no h3 (by decide) (tk_x (Or.inr (Or.inl rfl)) (hR _ _ ⟨fun _ => hg.2.1 _ _ _ _ (by rw [e1]; decide) h3 (i_ins ⟨b0, n, q, sg, it, fn, tl, hB.p2 (Nat.le_succ p), g, Or.inr rfl, hJ9⟩), fun z => absurd e1 z⟩)))
  by_cases e2 : c = 124 ∨ c = 58
  · have hc0 : ¬ c = 0 := by rcases e2 with e | e <;> rw [e] <;> decide
    have ec : cr = c := Cr_of hc hc0
    rw [ec] at hR
    have mid : ∀ {post : Int32 → (Nat → Int32) → (Nat → Nat → Int32) → Prop}, ((I 12 < B 4 b0 ∨ ¬ J 13 ≤ 0) → post (-5) J B) → (¬ I 12 < B 4 b0 → J 13 ≤ 0 → wp_TuneSetterModel_beginLine c (nI p) J B post) → wp_TuneSetterModel_inside c (nI p) J B post := by
      intro post y1 y2
      have m : wp_TuneSetterModel_inside_26 post c (nI p) J B := by
        unfold wp_TuneSetterModel_inside_26
        rw [hB.2.1.2.1, nI_pred, nI_clamp (by omega)]
        exact ⟨vp_in_nI (by omega) (by omega), full_ok hB.1 ⟨fun z => y1 (Or.inl z), fun z => ⟨fun z2 => y2 z z2, fun z2 => y1 (Or.inr z2)⟩⟩⟩
      exact ⟨fun z => absurd z e1, fun _ => ⟨fun _ => m, fun z => ⟨fun _ => m, fun z2 => absurd e2 (by rintro (y | y); exact z y; exact z2 y)⟩⟩⟩
    have eL : Lb (b0 + 1) B = B 4 b0 := by unfold Lb; rw [if_neg (by omega), Nat.add_sub_cancel]
    have ev : insF (I 17) c = if c = 124 then 1 else 2 := by
      unfold insF
      rw [if_neg e1]
      rcases e2 with e | e <;> rw [e] <;> rfl
    by_cases hbad : I 12 < B 4 b0 ∨ ¬ I 17 ≤ 0
    · refine s31_go h3 h0 h1 hr (hf.trans ev) (by split <;> decide) (s61_line (L := Lb (b0 + 1) B) h3 (by split; exact Or.inl rfl; exact Or.inr rfl) (Lb_lbt hB) (fun _ => ?_) (fun z1 z2 => ?_))
      · refine hR _ _ (mid (fun _ => good_bad hg hB.1 hv (by decide)) (fun z1 z2 => ?_))
        exfalso
        rcases hbad with z | z
        · exact z1 z
        · exact z ((ht g.2.2.2.1).mpr ((ht g.2.2.2.2.1).mp z2))
      · exfalso
        rw [eL] at z1
        rcases hbad with z | z
        · exact z1 z
        · exact z z2
    · have z1 : ¬ I 12 < B 4 b0 := fun z => hbad (Or.inl z)
      have z2 : I 17 ≤ 0 := Decidable.byContradiction (fun z => hbad (Or.inr z))
      have t0 : tl = 0 := (ht g.2.2.2.1).mp z2
      refine s31_go h3 h0 h1 hr (hf.trans ev) (by split <;> decide) (line_sim (f := f) (K := K) (fun I1 A1 h => hR I1 A1 (mid (fun z => ?_) (fun _ _ => h))) hB g.2.1 g.2.2.1 (g.2.2.2.1.trans (by rw [t0]; decide)) g.2.2.2.2.2.2.1 g.2.2.2.2.2.2.2.1 (by rw [eL]; exact z1) hv.1 e2 hg)
      exfalso
      rcases z with z | z
      · exact z1 z
      · exact z ((ht g.2.2.2.2.1).mpr t0)
  have t17 : I 17 = 0 ↔ tl = 0 := by
    rw [g.2.2.2.1, show (0 : Int32) = nI 0 from by decide]
    have h4 := g.2.2.2.2.2.1
    exact nI_eq (by omega) (by omega)
  have k32 : ¬ cr = 32 := mt (Cr_k hc (by decide) (by decide)).mp e1
  have k124 : ¬ cr = 124 := fun z => e2 (Or.inl ((Cr_k hc (by decide) (by decide)).mp z))
  have k58 : ¬ cr = 58 := fun z => e2 (Or.inr ((Cr_k hc (by decide) (by decide)).mp z))
  have up : ∀ I1 A1, wp_TuneSetterModel_beginItem cr J B (K I1 A1) → R I1 A1 := fun I1 A1 h => hR I1 A1 ⟨fun z => absurd z k32, fun _ => ⟨fun z => absurd z k124, fun _ => ⟨fun z => absurd z k58, fun _ => h⟩⟩⟩
  by_cases e3 : biE c ∧ ¬ (c = 40 ∧ ¬ I 17 = 0)
  · have ec : cr = c := Cr_of hc (bi0 e3.1)
    rw [ec] at up
    refine s31_go h3 h0 h1 hr (hf.trans (insF_i e1 e2 e3)) (bv_m e3.1) (item_sim (f := f) up hB g h9 hv.1 hv.2.1 e3.1 (fun z => ?_) hg)
    exact Decidable.byContradiction (fun y => e3.2 ⟨z, fun w => y (t17.mp w)⟩)
  · refine s31_bad h3 h0 h1 hr (hf.trans (insF_x e1 e2 e3)) (up _ _ (mitem_no ?_ (good_bad hg hB.1 hv (by decide))))
    by_cases e4 : biE c
    · have e5 : c = 40 ∧ ¬ I 17 = 0 := Decidable.byContradiction (fun z => e3 ⟨e4, z⟩)
      refine Or.inr ⟨(Cr_k hc (by decide) (by decide)).mpr e5.1, fun z => e5.2 (t17.mpr ((ht g.2.2.2.2.1).mp z))⟩
    · exact Or.inl (mt (Cr_bi hc).mp e4)
end MD

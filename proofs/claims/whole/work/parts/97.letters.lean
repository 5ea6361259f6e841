/-! steps by mode: a letter, a number; then every step -/
section LT
variable {p b0 n0 tl : Nat} {c cr f : Int32} {K : KT} {I : Nat → Int32} {A : Nat → Nat → Int32} {J : Nat → Int32} {B : Nat → Nat → Int32} {q : Sc} {sg it fn : Nat → Nat} {R : (Nat → Int32) → (Nat → Nat → Int32) → Prop}
section FL
variable {st ch ib tl ls dg b0 rs : Int32}
theorem F_oct (hst : st = 11 ∨ st = 12 ∨ st = 13) (hch : ch = 0 ∨ ch = 1) (hgo : ¬ octE st c) : folF st ch ib tl ls dg b0 rs c f = (if c = 39 then 12 else 13) ∧ (c = 39 ∨ c = 44) := by
  rcases hst with e | e | e <;> subst e
  · have hc : c = 39 ∨ c = 44 := by
      by_cases a : c = 39
      · exact Or.inl a
      · by_cases b : c = 44
        · exact Or.inr b
        · exact absurd (Or.inl ⟨rfl, a, b⟩) hgo
    refine ⟨?_, hc⟩
    rcases hc with y | y <;> subst y <;> rcases hch with z | z <;> subst z
    · exact F_o11_39_0
    · exact F_o11_39_1
    · exact F_o11_44_0
    · exact F_o11_44_1
  · have hc : c = 39 := Decidable.byContradiction (fun a => hgo (Or.inr (Or.inl ⟨rfl, a⟩)))
    refine ⟨?_, Or.inl hc⟩
    subst hc
    rcases hch with z | z <;> subst z
    · exact F_o12_39_0
    · exact F_o12_39_1
  · have hc : c = 44 := Decidable.byContradiction (fun a => hgo (Or.inr (Or.inr ⟨rfl, a⟩)))
    refine ⟨?_, Or.inr hc⟩
    subst hc
    rcases hch with z | z <;> subst z
    · exact F_o13_44_0
    · exact F_o13_44_1
theorem octE_11 (h : octE 11 c) : ¬ c = 39 ∧ ¬ c = 44 := by
  rcases h with ⟨-, a, b⟩ | ⟨a, -⟩ | ⟨a, -⟩
  · exact ⟨a, b⟩
  · exact absurd a (by decide)
  · exact absurd a (by decide)
theorem octE_12 (h : octE 12 c) : ¬ c = 39 := by
  rcases h with ⟨a, -⟩ | ⟨-, a⟩ | ⟨a, -⟩
  · exact absurd a (by decide)
  · exact a
  · exact absurd a (by decide)
theorem octE_13 (h : octE 13 c) : ¬ c = 44 := by
  rcases h with ⟨a, -⟩ | ⟨a, -⟩ | ⟨-, a⟩
  · exact absurd a (by decide)
  · exact absurd a (by decide)
  · exact a
theorem F_nend (hst : st = 11 ∨ st = 12 ∨ st = 13) (hch : ch = 0) (hib : ib = 1) (ho : octE st c) (hd : ¬ dig c) (h47 : ¬ c = 47) : folF st ch ib tl ls dg b0 rs c f = if c = 45 ∧ rs = 0 then 18 else insF tl c := by
  subst hch; subst hib
  rcases hst with e | e | e <;> subst e
  · exact F_n11 (octE_11 ho).1 (octE_11 ho).2 hd h47
  · exact F_n12 (octE_12 ho) hd h47
  · exact F_n13 (octE_13 ho) hd h47
theorem F_cend (hst : st = 11 ∨ st = 12 ∨ st = 13) (hch : ch = 1) (ho : octE st c) : folF st ch ib tl ls dg b0 rs c f = if c = 93 then 14 else if bnE c then bv c else -1 := by
  subst hch
  rcases hst with e | e | e <;> subst e
  · exact F_c11 (octE_11 ho).1 (octE_11 ho).2
  · exact F_c12 (octE_12 ho)
  · exact F_c13 (octE_13 ho)
theorem F_ndig (hst : st = 11 ∨ st = 12 ∨ st = 13) (hch : ch = 0) (hd : dig c) : folF st ch ib tl ls dg b0 rs c f = if dg < 3 then 15 else -1 := by
  subst hch
  rcases hst with e | e | e <;> subst e
  · exact F_d11 hd
  · exact F_d12 hd
  · exact F_d13 hd
theorem F_nsl (hst : st = 11 ∨ st = 12 ∨ st = 13) (hch : ch = 0) : folF st ch ib tl ls dg b0 rs 47 f = 16 := by
  subst hch
  rcases hst with e | e | e <;> subst e
  · exact F_s11
  · exact F_s12
  · exact F_s13
theorem nodash1 (hst : st = 11 ∨ st = 12 ∨ st = 13) : ¬ mv st 1 16384 := by
  rw [mv_1 hst]
  rcases hst with e | e | e <;> subst e <;> decide
end FL
theorem goL_iff {st mk : Int32} (h : (st = 11 ∧ mk = 0) ∨ (st = 12 ∧ mk = 1) ∨ (st = 13 ∧ mk = -1)) : goL c mk ↔ ¬ octE st c := by
  by_cases a : c = 39
  · subst a
    rcases h with ⟨e1, e2⟩ | ⟨e1, e2⟩ | ⟨e1, e2⟩ <;> subst e1 <;> subst e2 <;> decide
  · by_cases b : c = 44
    · subst b
      rcases h with ⟨e1, e2⟩ | ⟨e1, e2⟩ | ⟨e1, e2⟩ <;> subst e1 <;> subst e2 <;> decide
    · refine ⟨fun z => ?_, fun z => absurd ?_ z⟩
      · rcases z with ⟨y, -⟩ | ⟨y, -⟩
        · exact absurd y a
        · exact absurd y b
      · rcases h with ⟨e1, e2⟩ | ⟨e1, e2⟩ | ⟨e1, e2⟩
        · exact Or.inl ⟨e1, a, b⟩
        · exact Or.inr (Or.inl ⟨e1, a⟩)
        · exact Or.inr (Or.inr ⟨e1, b⟩)
theorem Cr_gl {mk : Int32} (h : Cr c cr) : goL cr mk ↔ goL c mk := by
  unfold goL
  rw [Cr_k h (by decide) (by decide), Cr_k h (by decide) (by decide)]
theorem m_let (h : S_let p I A J B) (hv : EnvQ p c cr f I J B) (hg : Good p c f K) : Step R p c cr f K I A J B := by
  intro hX
  obtain ⟨b0, n0, q, sg, it, fn, tl, hB, hI, hL, hC, hm, h9, hfn, hN, hst⟩ := h
  have h3 := hB.2.1.2.2.2.2.2
  have hD := hB.2.2.2
  have hc := hv.2.2.2
  have hp : p ≤ 120 := hv.2.2.1.1
  have hn : n0 + 1 ≤ 48 := hD.1.2.1
  have hb8 : b0 + 1 ≤ 8 := hD.1.1
  have hs3 : I 14 = 11 ∨ I 14 = 12 ∨ I 14 = 13 := by
    rcases hst with ⟨e, -⟩ | ⟨e, -⟩ | ⟨e, -⟩
    · exact Or.inl e
    · exact Or.inr (Or.inl e)
    · exact Or.inr (Or.inr e)
  have h0 : 0 ≤ I 14 := by rcases hs3 with e | e | e <;> rw [e] <;> decide
  have h1 : I 14 ≤ 20 := by rcases hs3 with e | e | e <;> rw [e] <;> decide
  have hn9 : ¬ I 14 = 9 := by rcases hs3 with e | e | e <;> rw [e] <;> decide
  have hn10 : ¬ I 14 = 10 := by rcases hs3 with e | e | e <;> rw [e] <;> decide
  have gl : goL c (J 18) ↔ ¬ octE (I 14) c := goL_iff hst
  have gr : goL cr (J 18) ↔ ¬ octE (I 14) c := (Cr_gl hc).trans gl
  have l16 : ¬ (I 14 = 16 ∨ I 14 = 17) := by rcases hs3 with e | e | e <;> rw [e] <;> decide
  have l14 : ¬ I 14 = 14 := by rcases hs3 with e | e | e <;> rw [e] <;> decide
  have l15 : ¬ I 14 = 15 := by rcases hs3 with e | e | e <;> rw [e] <;> decide
  by_cases ho : ¬ octE (I 14) c
  · -- a mark of an octave
    have h22 : I 22 = 0 ∨ I 22 = 1 := by
      rcases hC with ⟨e, -⟩ | ⟨e, -⟩
      · exact Or.inl e
      · exact Or.inr e
    have hl : ¬ lenE (I 14) (I 22) c := by
      rintro (⟨e, -⟩ | ⟨e | e | e, -⟩)
      · exact l16 e
      · exact l14 e
      · exact l15 e
      · exact ho e.1
    have hF := F_oct (f := f) (ib := I 20) (tl := I 17) (ls := I 19) (dg := I 11) (b0 := I 0) (rs := if A 9 n0 = I 2 then 1 else 0) hs3 h22 ho
    have hc0 : ¬ c = 0 := by rcases hF.2 with e | e <;> rw [e] <;> decide
    have ec : cr = c := Cr_of hc hc0
    have hgl : goL cr (J 18) := gr.mpr ho
    have hr : mv (I 14) (I 22) 16384 → ∃ ic : Nat, ic < 48 ∧ I 1 = nI (ic + 1) ∧ (A 9 ic = I 2 ↔ ¬ (if A 9 n0 = I 2 then (1 : Int32) else 0) = 0) := by
      intro _
      refine ⟨n0, by omega, hB.2.1.2.2.1, ?_⟩
      by_cases e : A 9 n0 = I 2
      · rw [if_pos e]; exact ⟨fun _ => by decide, fun _ => e⟩
      · rw [if_neg e]; exact ⟨fun z => absurd z e, fun z => absurd rfl z⟩
    obtain ⟨l, o, hl7, h7, h16, h17, o1, o2, h8, hs⟩ := hN
    refine step_plain h3 hl ho (s31_go h3 h0 h1 hr hF.1 (by split <;> decide) ?_)
    rcases hF.2 with e | e
    · rw [if_pos e]
      refine s61_no h3 (by decide) (tk_12 (hX _ _ (nx_9 h9 hgl ?_)))
      rw [ec]
      have c44 : ¬ c = 44 := by rw [e]; decide
      refine ⟨fun z => absurd z c44, fun _ => ⟨fun z => absurd z c44, fun _ => hg.2.1 _ _ _ _ hc0 h3 (i_let ⟨b0, n0, q, sg, it, fn, tl, hB.p2 (Nat.le_succ p), hI, hL, hC, hm, h9, by omega, ⟨l, o + 1, hl7, h7, h16, ?_, by omega, by omega, ?_, hs⟩, Or.inr (Or.inl ⟨rfl, rfl⟩)⟩)⟩⟩
      · show J 17 + 1 = zI (o + 1)
        rw [h17, show (1 : Int32) = zI 1 from by decide, zI_add]
      · show I 8 + 12 = zI ((plN l : Int) + 12 * (o + 1))
        rw [h8, show (12 : Int32) = zI 12 from by decide, zI_add]
        congr 1; omega
    · have c39 : ¬ c = 39 := by rw [e]; decide
      rw [if_neg c39]
      refine s61_no h3 (by decide) (tk_13 (hX _ _ (nx_9 h9 hgl ?_)))
      rw [ec]
      refine ⟨fun _ => ⟨fun _ => hg.2.1 _ _ _ _ hc0 h3 (i_let ⟨b0, n0, q, sg, it, fn, tl, hB.p2 (Nat.le_succ p), hI, hL, hC, hm, h9, by omega, ⟨l, o - 1, hl7, h7, h16, ?_, by omega, by omega, ?_, hs⟩, Or.inr (Or.inr ⟨rfl, rfl⟩)⟩), fun z => absurd e z⟩, fun z => absurd e z⟩
      · show J 17 + -1 = zI (o - 1)
        rw [h17, show (-1 : Int32) = zI (-1) from by decide, zI_add]
        congr 1
      · show I 8 + -12 = zI ((plN l : Int) + 12 * (o - 1))
        rw [h8, show (-12 : Int32) = zI (-12) from by decide, zI_add]
        congr 1; omega
  · -- the note ends
    replace ho : octE (I 14) c := Decidable.not_not.mp ho
    have hgn : ¬ goL cr (J 18) := fun z => (gr.mp z) ho
    obtain ⟨i1, i2, i3, i4, i5, i6, i7, i8, i9⟩ := hI
    have h5 : I 5 = J 3 := by
      obtain ⟨⟨-, -, -, -, -, -, r7⟩, -, -, -, -, -, f3⟩ := hB.1
      rw [f3, r7]
    have hm9 : B 9 n0 = nI (q.1 n0) := (hD.2.2.2.2 n0 (by omega)).2.2.2.2.1
    have j12 : J 12 = 0 := hL.2.2.2
    rcases hC with ⟨c22, c11, cq⟩ | ⟨c22, c11, c18⟩
    · by_cases hd : c = 47 ∨ dig c
      · -- a number begins
        have hc0 : ¬ c = 0 := by
          rcases hd with e | e
          · rw [e]; decide
          · exact dg0 e
        have ec : cr = c := Cr_of hc hc0
        have hl : ¬ lenE (I 14) (I 22) c := by
          rintro (⟨e, -⟩ | ⟨-, e1, e2⟩)
          · exact l16 e
          · rcases hd with y | y
            · exact e2 y
            · exact e1 y
        rcases tone_sim (p := p) (J := oN J) (n0 := n0) (m := q.1 n0) hN hp i9 h5 hB.2.1.2.2.2.2.1 (by omega) hB.2.1.2.2.1 (by omega) hB.2.1.2.2.2.1 hm9 hm with ⟨⟨A2, ha, hE⟩, hT⟩ | ⟨t, ht, A2, B2, ha, hb, hH, hE, hT, hN3⟩
        · refine step_note h3 hl ho (hE _ (s31_no (show ¬ (-4 : Int32) = 0 by decide) (hX _ _ (nx_9g h9 hgn c11 (by rw [ec]; exact hd) (n127_bad hT (hg.1 _ _ _ _ _ ?_ (by decide) rfl ?_))))))
          · exact Fix.arr (I := upd (upd (upd I 6 99) 3 (-4)) 4 (I 15)) (A := A) (J := oN J) (B := B) hB.1 (ha 1 (by decide)) (ha 23 (by decide)) rfl rfl
          · show I 15 = J 7
            rw [hv.1, hv.2.1]
        · have hB2 := note_base (t := t) hB hm hfn ht ha hb
          have hq1 : 0 < (qNote q n0 t).1 n0 := by
            show 0 < upN q.1 n0 (q.1 n0 + 1) n0
            rw [upN_eq]; omega
          have i3' : ∀ (I1 : Nat → Int32), I1 20 = I 20 → I1 21 = I 21 → I1 17 = I 17 → Im b0 n0 tl tl (qNote q n0 t) it I1 A2 (oN J) B2 := fun I1 a b d => ⟨a.trans i1, b.trans i2, d.trans i3, i4, i5, i6, i7, i8, hH⟩
          refine step_note h3 hl ho (hE _ ?_)
          have hr : mv (I 14) (I 22) 16384 → ∃ ic : Nat, ic < 48 ∧ I 1 = nI (ic + 1) ∧ (A2 9 ic = nI (fn (n0 + 1) + 1) ↔ ¬ (if A2 9 n0 = nI (fn (n0 + 1) + 1) then (1 : Int32) else 0) = 0) := by
            intro _
            refine ⟨n0, by omega, hB.2.1.2.2.1, ?_⟩
            by_cases e : A2 9 n0 = nI (fn (n0 + 1) + 1)
            · rw [if_pos e]; exact ⟨fun _ => by decide, fun _ => e⟩
            · rw [if_neg e]; exact ⟨fun z => absurd z e, fun z => absurd rfl z⟩
          by_cases hdg : dig c
          · have hF := F_ndig (f := f) (ib := I 20) (tl := I 17) (ls := I 19) (dg := I 11) (b0 := I 0) (rs := if A2 9 n0 = nI (fn (n0 + 1) + 1) then 1 else 0) hs3 c22 hdg
            rw [if_pos (show I 11 < 3 by rw [hL.2.2.1]; decide)] at hF
            refine s31_go (I := upd (upd I 6 99) 2 (nI (fn (n0 + 1) + 1))) h3 h0 h1 hr hF (by decide) (s61_no h3 (by decide) ?_)
            refine num_top (f := f) (K := K) (J := oN J) (B := B2) (d := 0) (T := 0) (fun I1 A1 h => hX _ _ (nx_9g h9 hgn c11 (by rw [ec]; exact hd) (n127_ok ht hT hN3 (n158_n ?_)))) hB2 (i3' _ rfl rfl rfl) c22 rfl ⟨fun _ => hq1, fun _ => j12⟩ (by decide) hL.2.2.1 (by decide) (fun z => absurd z (by decide)) rfl rfl rfl rfl rfl hL.2.1 hdg hg
            rw [ec]; exact h
          · have e47 : c = 47 := by
              rcases hd with y | y
              · exact y
              · exact absurd y hdg
            rw [e47] at ec
            subst e47
            have hF := F_nsl (f := f) (ib := I 20) (tl := I 17) (ls := I 19) (dg := I 11) (b0 := I 0) (rs := if A2 9 n0 = nI (fn (n0 + 1) + 1) then 1 else 0) hs3 c22
            refine s31_go (I := upd (upd I 6 99) 2 (nI (fn (n0 + 1) + 1))) h3 h0 h1 hr hF (by decide) (s61_no h3 (by decide) ?_)
            refine num_slash (f := f) (K := K) (J := oN J) (B := B2) (tp := 1) (fun I1 A1 h => hX _ _ (nx_9g h9 hgn c11 (by rw [ec]; exact hd) (n127_ok ht hT hN3 (n158_n ?_)))) hB2 (i3' _ rfl rfl rfl) c22 rfl ⟨fun _ => hq1, fun _ => j12⟩ hL.1 (by omega) (Or.inl ⟨rfl, rfl⟩) rfl rfl hg
            rw [ec]; exact h
      · -- the item ends
        have h47 : ¬ c = 47 := fun z => hd (Or.inl z)
        have hdg : ¬ dig c := fun z => hd (Or.inr z)
        have r47 : ¬ cr = 47 := mt (Cr_k hc (by decide) (by decide)).mp h47
        have rdg : ¬ dig cr := mt (Cr_dg hc).mp hdg
        have hl : lenE (I 14) (I 22) c := Or.inr ⟨Or.inr (Or.inr ⟨ho, c22⟩), hdg, h47⟩
        obtain ⟨un, u1, u2, u3, u4⟩ := unit_ok hB.1
        have hLr : Lr 1 1 (oN J) := ⟨Or.inl ⟨rfl, rfl⟩, Or.inl ⟨rfl, rfl⟩⟩
        have up : ∀ {post : Int32 → (Nat → Int32) → (Nat → Nat → Int32) → Prop}, (tickV 1 1 un (decide (0 < tl)) = 0 → post (-3) (oN J) B) → (0 < tickV 1 1 un (decide (0 < tl)) → wp_TuneSetterModel_next_127 post cr (nI p) 1 1 1 (oN J) B) → wp_TuneSetterModel_next cr (nI p) J B post := by
          intro post y1 y2
          refine nx_9e h9 hgn c11 rdg r47 (hasLength_ok (J := oN J) hLr (by omega) (by omega) u1 u4 u3 i4 i5 ?_)
          by_cases e : 0 < tickV 1 1 un (decide (0 < tl))
          · rw [b2_t e]; exact ⟨fun z => absurd z (by decide), fun _ => y2 e⟩
          · rw [b2_f e]; exact ⟨fun _ => y1 (by omega), fun z => absurd rfl z⟩
        refine step_item hl (endItem_ok (b := b0) (i := n0) (tp := 1) (bt := 1) (un := un) (tl := tl) hB.2.1.1 (by omega) hB.2.1.2.2.1 (by omega) hL.1 hL.2.1 (by omega) (by omega) u2 u1 i3 i5 (fun z => ?_) (fun z A1 hA1 => ?_))
        · exact s12_bad (show ¬ (-3 : Int32) = 0 by decide) (hX _ _ (up (fun _ => good_bad (J := oN J) hg hB.1 hv (by decide)) (fun y => by omega)))
        · have hA14 : A1 14 = A 14 := hA1.1 14 (by decide) (by decide) (by decide)
          refine s12_note h3 ho ?_
          rcases tone_sim (p := p) (I := upd (upd I 21 0) 17 (nI (tl - 1))) (A := A1) (J := oN J) (B := B) (n0 := n0) (m := q.1 n0) hN hp (by rw [hA14]; exact i9) h5 hB.2.1.2.2.2.2.1 (by omega) hB.2.1.2.2.1 (by omega) hB.2.1.2.2.2.1 hm9 hm with ⟨⟨A2, ha, hE⟩, hT⟩ | ⟨t, ht, A2, B2, ha, hb, hH, hE, hT, hN3⟩
          · refine hE _ (s31_no (show ¬ (-4 : Int32) = 0 by decide) (hX _ _ (up (fun y => by omega) (fun _ => n127_bad hT (hg.1 _ _ _ _ _ ?_ (by decide) rfl ?_)))))
            · exact Fix.arr (I := upd (upd (upd (upd (upd I 21 0) 17 (nI (tl - 1))) 6 99) 3 (-4)) 4 (I 15)) (A := A) (J := oN J) (B := B) hB.1 ((ha 1 (by decide)).trans (hA1.1 1 (by decide) (by decide) (by decide))) ((ha 23 (by decide)).trans (hA1.1 23 (by decide) (by decide) (by decide))) rfl rfl
            · show I 15 = J 7
              rw [hv.1, hv.2.1]
          · have hd1 := done_base (x := nI (tl - 1)) (y := nI (tl - 1)) (t := tickV 1 1 un (decide (0 < tl))) hB i6 i7 (tickV_le _ _ _ _) hA1
            have hB2 := note_base (t := t) (B1 := upd2 (upd2 B2 6 n0 (nI (tickV 1 1 un (decide (0 < tl))))) 4 b0 (B2 4 b0 + nI (tickV 1 1 un (decide (0 < tl))))) hd1 hm hfn ht ha (fun a h11 => by
              have e4 : B2 4 = B 4 := hb 4 (by decide)
              rw [e4]
              have e1 : upd2 (upd2 B2 6 n0 (nI (tickV 1 1 un (decide (0 < tl))))) 4 b0 (B 4 b0 + nI (tickV 1 1 un (decide (0 < tl)))) a = upd2 (upd2 (upd2 (upd2 B 10 (4 * n0 + q.1 n0) (nI t)) 9 n0 (nI (q.1 n0 + 1))) 6 n0 (nI (tickV 1 1 un (decide (0 < tl))))) 4 b0 (B 4 b0 + nI (tickV 1 1 un (decide (0 < tl)))) a := upd2_cg (upd2_cg (hb a h11))
              rw [e1]
              by_cases x4 : a = 4
              · subst x4; rfl
              by_cases x6 : a = 6
              · subst x6; rfl
              rw [upd2_ne x4, upd2_ne x6]
              refine (upd2_cg (upd2_cg ?_)).symm
              rw [upd2_ne x4, upd2_ne x6])
            refine hE _ (ends_sim (K := K) (J := upd (oN J) 13 (nI (tl - 1))) (B := upd2 (upd2 B2 6 n0 (nI (tickV 1 1 un (decide (0 < tl))))) 4 b0 (B2 4 b0 + nI (tickV 1 1 un (decide (0 < tl))))) (tl := tl - 1) (fun I1 A1 h => hX _ _ (up (fun y => by omega) (fun _ => n127_ok ht hT hN3 (n158_i (itemDone_ok (J := oN J) hLr (by omega) (by omega) u1 u4 u3 i4 i5 hB.2.1.2.2.2.1 (by omega) hB.2.1.2.1 (by omega) z h))))) hB2 ⟨i1, rfl, c22, rfl, rfl, by omega, rfl, ?_, hH⟩ ?_ hn9 h0 h1 ⟨fun _ => ?_, fun _ => j12⟩ ?_ hg)
            · intro i hi
              show 0 < upN q.2.1 n0 (tickV 1 1 un (decide (0 < tl))) i
              by_cases e : i = n0
              · rw [e, upN_eq]; exact z
              · rw [upN_ne e]; exact i8 i (by omega)
            · refine ⟨hv.1, hv.2.1, ?_, hc⟩
              obtain ⟨l1, s, l2, l3, l4⟩ := hv.2.2.1
              refine ⟨l1, s, l2, l3, ?_⟩
              rcases l4 with y | ⟨y1, y2⟩
              · exact Or.inl y
              · refine Or.inr ⟨y1, ?_⟩
                have e1 : B2 1 = B 1 := hb 1 (by decide)
                show B2 1 (p + 1) = f
                rw [e1]; exact y2
            · show 0 < upN q.1 n0 (q.1 n0 + 1) n0
              rw [upN_eq]; omega
            · have hF := F_nend (f := f) (tl := nI (tl - 1)) (ls := I 19) (dg := I 11) (b0 := I 0) (rs := J 12) hs3 c22 i1 ho hdg h47
              exact hF
    · -- in a chord
      have hl : ¬ lenE (I 14) (I 22) c := by
        rintro (⟨e, -⟩ | ⟨e | e | e, -⟩)
        · exact l16 e
        · exact l14 e
        · exact l15 e
        · exact absurd (c22.symm.trans e.2) (by decide)
      rcases tone_sim (p := p) (J := J) (n0 := n0) (m := q.1 n0) hN hp i9 h5 hB.2.1.2.2.2.2.1 (by omega) hB.2.1.2.2.1 (by omega) hB.2.1.2.2.2.1 hm9 hm with ⟨⟨A2, ha, hE⟩, hT⟩ | ⟨t, ht, A2, B2, ha, hb, hH, hE, hT, hN3⟩
      · refine step_note h3 hl ho (hE _ (s31_no (show ¬ (-4 : Int32) = 0 by decide) (hX _ _ (nx_9c h9 hgn c11 (n127_bad hT (hg.1 _ _ _ _ _ ?_ (by decide) rfl ?_))))))
        · exact Fix.arr (I := upd (upd (upd I 6 99) 3 (-4)) 4 (I 15)) (A := A) (J := J) (B := B) hB.1 (ha 1 (by decide)) (ha 23 (by decide)) rfl rfl
        · show I 15 = J 7
          rw [hv.1, hv.2.1]
      · have hB2 := note_base (t := t) hB hm hfn ht ha hb
        have hq1 : (qNote q n0 t).1 n0 = q.1 n0 + 1 := upN_eq _ _ _
        refine step_note h3 hl ho (hE _ (chord_sim (K := K) (J := J) (B := B2) (rs := 0) (tl := tl) (fun I1 A1 h => hX _ _ (nx_9c h9 hgn c11 (n127_ok ht hT hN3 ⟨fun _ => ⟨fun _ => ⟨fun z => absurd z (by decide), fun _ => h⟩, fun z => absurd rfl z⟩, fun z => absurd rfl z⟩))) hB2 ⟨i1, i2, i3, i4, i5, i6, i7, i8, hH⟩ hL ⟨c22, c11, ?_, rfl⟩ ?_ h0 h1 hn9 hn10 ?_ ?_ hg))
        · rw [hq1]; exact c18
        · refine ⟨hv.1, hv.2.1, ?_, hc⟩
          obtain ⟨l1, s, l2, l3, l4⟩ := hv.2.2.1
          refine ⟨l1, s, l2, l3, ?_⟩
          rcases l4 with y | ⟨y1, y2⟩
          · exact Or.inl y
          · refine Or.inr ⟨y1, ?_⟩
            have e1 : B2 1 = B 1 := hb 1 (by decide)
            rw [e1]; exact y2
        · show ¬ mv (I 14) (I 22) 16384
          rw [c22]; exact nodash1 hs3
        · have hF := F_cend (f := f) (ib := I 20) (tl := I 17) (ls := I 19) (dg := I 11) (b0 := I 0) (rs := 0) hs3 c22 ho
          refine Eq.trans hF ?_
          by_cases e : c = 93
          · rw [if_pos e, if_pos ⟨e, by rw [hq1]; omega⟩]
          · rw [if_neg e, if_neg (show ¬ (c = 93 ∧ 0 < (qNote q n0 t).1 n0) from fun z => e z.1)]
theorem rest_hr (hB : Base (b0 + 1) (n0 + 1) p q sg it fn I A J B) (hp : p ≤ 120) (hrs : J 12 = 0 ↔ 0 < q.1 n0) : mv (I 14) (I 22) 16384 → ∃ ic : Nat, ic < 48 ∧ I 1 = nI (ic + 1) ∧ (A 9 ic = I 2 ↔ ¬ J 12 = 0) := by
  have hD := hB.2.2.2
  have hn : n0 + 1 ≤ 48 := hD.1.2.1
  intro _
  refine ⟨n0, by omega, hB.2.1.2.2.1, ?_⟩
  have d1 := (hD.2.2.2.1 n0 (by omega)).1
  have d2 := (hD.2.2.2.2 n0 (by omega)).1
  have d3 := (hD.2.2.2.1 n0 (by omega)).2
  have d4 := hD.1.2.2.2
  rw [d1, hB.2.1.2.2.2.2.1, nI_eq (by omega) (by omega), hrs]
  omega
theorem num_end {tp bt : Nat} (hB : Base (b0 + 1) (n0 + 1) p q sg it fn I A J B) (hI : Im b0 n0 tl tl q it I A J B) (h22 : I 22 = 0) (h6 : I 6 = 99) (h12 : J 12 = 0 ↔ 0 < q.1 n0) (h9 : J 9 = 11) (i9 : I 9 = nI tp) (i10 : I 10 = nI bt) (tp9 : tp ≤ 999) (bt9 : bt ≤ 999) (hLr : Lr tp bt J) (hs : I 14 = 14 ∨ I 14 = 15 ∨ I 14 = 16 ∨ I 14 = 17) (hl : lenE (I 14) (I 22) c) (hdg : ¬ dig c) (hgn : ¬ goN cr (J 21) (J 20) (J 23)) (hf : ∀ t : Int32, folF (I 14) (I 22) 1 t (I 19) (I 11) (I 0) (J 12) c f = if c = 45 ∧ J 12 = 0 then 18 else insF t c) (hv : EnvQ p c cr f I J B) (hg : Good p c f K) : Step R p c cr f K I A J B := by
  intro hX
  have h3 := hB.2.1.2.2.2.2.2
  have hD := hB.2.2.2
  have hc := hv.2.2.2
  have hn : n0 + 1 ≤ 48 := hD.1.2.1
  have hb8 : b0 + 1 ≤ 8 := hD.1.1
  have h0 : 0 ≤ I 14 := by rcases hs with e | e | e | e <;> rw [e] <;> decide
  have h1 : I 14 ≤ 20 := by rcases hs with e | e | e | e <;> rw [e] <;> decide
  have hn9 : ¬ I 14 = 9 := by rcases hs with e | e | e | e <;> rw [e] <;> decide
  have ho : ¬ octE (I 14) c := by
    rintro (⟨e, -⟩ | ⟨e, -⟩ | ⟨e, -⟩)
    · rcases hs with y | y | y | y <;> exact absurd (y.symm.trans e) (by decide)
    · rcases hs with y | y | y | y <;> exact absurd (y.symm.trans e) (by decide)
    · rcases hs with y | y | y | y <;> exact absurd (y.symm.trans e) (by decide)
  have rdg : ¬ dig cr := mt (Cr_dg hc).mp hdg
  obtain ⟨i1, i2, i3, i4, i5, i6, i7, i8, i9'⟩ := hI
  obtain ⟨un, u1, u2, u3, u4⟩ := unit_ok hB.1
  have up : ∀ {post : Int32 → (Nat → Int32) → (Nat → Nat → Int32) → Prop}, (tickV tp bt un (decide (0 < tl)) = 0 → post (-3) J B) → (0 < tickV tp bt un (decide (0 < tl)) → wp_TuneSetterModel_next_127 post cr (nI p) 0 1 1 J B) → wp_TuneSetterModel_next cr (nI p) J B post := by
    intro post y1 y2
    refine nx_11e h9 rdg hgn (hasLength_ok hLr tp9 bt9 u1 u4 u3 i4 i5 ?_)
    by_cases e : 0 < tickV tp bt un (decide (0 < tl))
    · rw [b2_t e]; exact ⟨fun z => absurd z (by decide), fun _ => y2 e⟩
    · rw [b2_f e]; exact ⟨fun _ => y1 (by omega), fun z => absurd rfl z⟩
  refine step_item hl (endItem_ok (b := b0) (i := n0) (tp := tp) (bt := bt) (un := un) (tl := tl) hB.2.1.1 (by omega) hB.2.1.2.2.1 (by omega) i9 i10 tp9 bt9 u2 u1 i3 i5 (fun z => ?_) (fun z A1 hA1 => ?_))
  · exact s12_bad (show ¬ (-3 : Int32) = 0 by decide) (hX _ _ (up (fun _ => good_bad hg hB.1 hv (by decide)) (fun y => by omega)))
  · have hA14 : A1 14 = A 14 := hA1.1 14 (by decide) (by decide) (by decide)
    have hd1 := done_base (x := nI (tl - 1)) (y := nI (tl - 1)) (t := tickV tp bt un (decide (0 < tl))) hB i6 i7 (tickV_le _ _ _ _) hA1
    refine s12_plain h3 ho (ends_sim (K := K) (tl := tl - 1) (fun I1 A1 h => hX _ _ (up (fun y => by omega) (fun _ => n127_n (n158_i (itemDone_ok hLr tp9 bt9 u1 u4 u3 i4 i5 hB.2.1.2.2.2.1 (by omega) hB.2.1.2.1 (by omega) z h))))) hd1 ⟨i1, rfl, h22, rfl, rfl, by omega, h6, ?_, ?_⟩ hv hn9 h0 h1 h12 ?_ hg)
    · intro i hi
      show 0 < upN q.2.1 n0 (tickV tp bt un (decide (0 < tl))) i
      by_cases e : i = n0
      · rw [e, upN_eq]; exact z
      · rw [upN_ne e]; exact i8 i (by omega)
    · rw [hA14]; exact i9'
    · show folF (I 14) (I 22) (I 20) (nI (tl - 1)) (I 19) (I 11) (I 0) (J 12) c f = if c = 45 ∧ J 12 = 0 then 18 else insF (nI (tl - 1)) c
      rw [i1]; exact hf _
theorem m_num (h : S_num p I A J B) (hv : EnvQ p c cr f I J B) (hg : Good p c f K) : Step R p c cr f K I A J B := by
  intro hX
  obtain ⟨b0, n0, q, sg, it, fn, tl, tp, bt, hB, hI, h22, h6, h12, h9, i9, i10, tp9, bt9, hLr, hNs⟩ := h
  have h3 := hB.2.1.2.2.2.2.2
  have hc := hv.2.2.2
  have hp : p ≤ 120 := hv.2.2.1.1
  have hr := rest_hr hB hp h12
  have hi1 := hI.1
  have l3 : ∀ {d : Nat} {x : Int32}, d ≤ 3 → x = nI d → (x < 3 ↔ d < 3) := by
    intro d x hd hx
    rw [hx, show (3 : Int32) = nI 3 from by decide]
    exact nI_ltI (by omega) (by omega)
  -- before the slash
  have top : ∀ (d T : Nat), (I 14 = 14 ∨ I 14 = 15) → d ≤ 3 → I 11 = nI d → T < 10 ^ d → (0 < d → I 9 = nI T) → J 19 = nI T → J 20 = nI d → J 21 = 0 → J 22 = 0 → J 23 = 0 → wp_Reader_step c f I A R := by
    intro d T h14 hd3 i11 hT iT j19 j20 j21 j22 j23
    have h0 : 0 ≤ I 14 := by rcases h14 with e | e <;> rw [e] <;> decide
    have h1 : I 14 ≤ 20 := by rcases h14 with e | e <;> rw [e] <;> decide
    have ho : ¬ octE (I 14) c := by
      rintro (⟨e, -⟩ | ⟨e, -⟩ | ⟨e, -⟩)
      · rcases h14 with y | y <;> exact absurd (y.symm.trans e) (by decide)
      · rcases h14 with y | y <;> exact absurd (y.symm.trans e) (by decide)
      · rcases h14 with y | y <;> exact absurd (y.symm.trans e) (by decide)
    have hnl : (dig c ∨ c = 47) → ¬ lenE (I 14) (I 22) c := by
      rintro hd (⟨e, -⟩ | ⟨-, e1, e2⟩)
      · rcases h14 with y | y
        · rw [y] at e; exact absurd e (by decide)
        · rw [y] at e; exact absurd e (by decide)
      · rcases hd with y | y
        · exact e1 y
        · exact e2 y
    have i10' : I 10 = 1 := by
      rcases hLr.2 with ⟨-, e⟩ | ⟨e, -⟩ | ⟨e, -⟩
      · rw [i10, e]; decide
      · exact absurd j21 e
      · exact absurd j21 e
    by_cases hd : dig c
    · have ec : cr = c := Cr_of hc (dg0 hd)
      have hF : folF (I 14) (I 22) (I 20) (I 17) (I 19) (I 11) (I 0) (J 12) c f = if I 11 < 3 then 15 else -1 := by
        rcases h14 with e | e
        · rw [e]; exact F_d14 hd
        · rw [e]; exact F_d15 hd
      by_cases hd4 : d < 3
      · rw [if_pos ((l3 hd3 i11).mpr hd4)] at hF
        refine step_plain h3 (hnl (Or.inl hd)) ho (s31_go h3 h0 h1 hr hF (by decide) (s61_no h3 (by decide) (num_top (f := f) (K := K) (fun I1 A1 h => hX _ _ (nx_11g h9 (by rw [ec]; exact Or.inr ⟨hd, Or.inl ⟨j21, (l3 hd3 j20).mpr hd4⟩⟩) (by rw [ec]; exact h))) hB hI h22 h6 h12 hd4 i11 hT iT j19 j20 j21 j22 j23 i10' hd hg)))
      · rw [if_neg (mt (l3 hd3 i11).mp hd4)] at hF
        refine step_plain h3 (hnl (Or.inl hd)) ho (s31_bad h3 h0 h1 hr hF (hX _ _ (nx_11b h9 (by rw [ec]; exact hd) ?_ (good_bad hg hB.1 hv (by decide)))))
        rw [ec]
        rintro (⟨e, -⟩ | ⟨-, ⟨-, e⟩ | ⟨e, -⟩⟩)
        · exact dig47 hd e
        · exact hd4 ((l3 hd3 j20).mp e)
        · exact e j21
    · by_cases h47 : c = 47
      · have ec : cr = 47 := (Cr_k hc (by decide) (by decide)).mpr h47
        have hnl2 := hnl (Or.inr h47)
        subst h47
        have hF : folF (I 14) (I 22) (I 20) (I 17) (I 19) (I 11) (I 0) (J 12) 47 f = 16 := by
          rcases h14 with e | e
          · rw [e]; exact F_s14
          · rw [e]; exact F_s15
        exact step_plain h3 hnl2 ho (s31_go h3 h0 h1 hr hF (by decide) (s61_no h3 (by decide) (num_slash (f := f) (K := K) (fun I1 A1 h => hX _ _ (nx_11g h9 (by rw [ec]; exact Or.inl ⟨rfl, j21⟩) (by rw [ec]; exact h))) hB hI h22 h6 h12 i9 tp9 hLr.1 j22 j23 hg)))
      · refine num_end hB hI h22 h6 h12 h9 i9 i10 tp9 bt9 hLr (by rcases h14 with e | e; exact Or.inl e; exact Or.inr (Or.inl e)) (Or.inr ⟨by rcases h14 with e | e; exact Or.inl e; exact Or.inr (Or.inl e), hd, h47⟩) hd ?_ (fun t => ?_) hv hg hX
        · rintro (⟨e, -⟩ | ⟨e, -⟩)
          · exact h47 ((Cr_k hc (by decide) (by decide)).mp e)
          · exact hd ((Cr_dg hc).mp e)
        · rcases h14 with e | e
          · rw [e]; exact F_n14 hd h47
          · rw [e]; exact F_n15 hd h47
  -- behind the slash
  have bot : ∀ (d T : Nat), (I 14 = 16 ∨ I 14 = 17) → d ≤ 3 → I 11 = nI d → T < 10 ^ d → (0 < d → I 10 = nI T) → J 22 = nI T → J 23 = nI d → ¬ J 21 = 0 → wp_Reader_step c f I A R := by
    intro d T h14 hd3 i11 hT iT j22 j23 j21
    have h0 : 0 ≤ I 14 := by rcases h14 with e | e <;> rw [e] <;> decide
    have h1 : I 14 ≤ 20 := by rcases h14 with e | e <;> rw [e] <;> decide
    have ho : ¬ octE (I 14) c := by
      rintro (⟨e, -⟩ | ⟨e, -⟩ | ⟨e, -⟩)
      · rcases h14 with y | y <;> exact absurd (y.symm.trans e) (by decide)
      · rcases h14 with y | y <;> exact absurd (y.symm.trans e) (by decide)
      · rcases h14 with y | y <;> exact absurd (y.symm.trans e) (by decide)
    have hnl : dig c → ¬ lenE (I 14) (I 22) c := by
      rintro hd (⟨-, e⟩ | ⟨-, e1, -⟩)
      · exact e hd
      · exact e1 hd
    by_cases hd : dig c
    · have ec : cr = c := Cr_of hc (dg0 hd)
      have hF : folF (I 14) (I 22) (I 20) (I 17) (I 19) (I 11) (I 0) (J 12) c f = if I 11 < 3 then 17 else -1 := by
        rcases h14 with e | e
        · rw [e]; exact F_d16 hd
        · rw [e]; exact F_d17 hd
      by_cases hd4 : d < 3
      · rw [if_pos ((l3 hd3 i11).mpr hd4)] at hF
        refine step_plain h3 (hnl hd) ho (s31_go h3 h0 h1 hr hF (by decide) (s61_no h3 (by decide) (num_bot (f := f) (K := K) (fun I1 A1 h => hX _ _ (nx_11g h9 (by rw [ec]; exact Or.inr ⟨hd, Or.inr ⟨j21, (l3 hd3 j23).mpr hd4⟩⟩) (by rw [ec]; exact h))) hB hI h22 h6 h12 hd4 i11 hT iT j22 j23 j21 i9 tp9 hLr.1 hd hg)))
      · rw [if_neg (mt (l3 hd3 i11).mp hd4)] at hF
        refine step_plain h3 (hnl hd) ho (s31_bad h3 h0 h1 hr hF (hX _ _ (nx_11b h9 (by rw [ec]; exact hd) ?_ (good_bad hg hB.1 hv (by decide)))))
        rw [ec]
        rintro (⟨e, -⟩ | ⟨-, ⟨e, -⟩ | ⟨-, e⟩⟩)
        · exact dig47 hd e
        · exact j21 e
        · exact hd4 ((l3 hd3 j23).mp e)
    · refine num_end hB hI h22 h6 h12 h9 i9 i10 tp9 bt9 hLr (by rcases h14 with e | e; exact Or.inr (Or.inr (Or.inl e)); exact Or.inr (Or.inr (Or.inr e))) (Or.inl ⟨h14, hd⟩) hd ?_ (fun t => ?_) hv hg hX
      · rintro (⟨-, e⟩ | ⟨e, -⟩)
        · exact j21 e
        · exact hd ((Cr_dg hc).mp e)
      · rcases h14 with e | e
        · rw [e]; exact F_n16 hd
        · rw [e]; exact F_n17 hd
  rcases hNs with ⟨h14, i11, j19, j20, j21, j22, j23⟩ | ⟨h14, j21, j22, j23, d, d1, d3, hT, i11, j20⟩ | ⟨h14, i11, j21, j22, j23⟩ | ⟨h14, j21, d, d1, d3, hT, i11, j23⟩
  · exact top 0 0 (Or.inl h14) (by omega) i11 (by decide) (fun z => absurd z (by decide)) j19 j20 j21 j22 j23
  · refine top d tp (Or.inr h14) d3 i11 hT (fun _ => i9) ?_ j20 j21 j22 j23
    rcases hLr.1 with ⟨e, -⟩ | ⟨-, e⟩
    · rw [j20] at e; exact absurd e (nI_ne0 (by omega) (by omega))
    · exact e
  · exact bot 0 0 (Or.inl h14) (by omega) i11 (by decide) (fun z => absurd z (by decide)) j22 j23 j21
  · refine bot d bt (Or.inr h14) d3 i11 hT (fun _ => i10) ?_ j23 j21
    rcases hLr.2 with ⟨e, -⟩ | ⟨-, e, -⟩ | ⟨-, -, e⟩
    · exact absurd e j21
    · rw [j23] at e; exact absurd e (nI_ne0 (by omega) (by omega))
    · exact e
/-- every step -/
theorem step_sim (h : SIM p c I A J B) (hv : EnvQ p c cr f I J B) (hg : Good p c f K) : Step R p c cr f K I A J B := by
  intro hX
  rcases h with h | h | h | h | h | h | h | h | h | h | h
  · exact m_bet h hv hg hX
  · exact m_col h hv hg hX
  · exact m_mark h hv hg hX
  · exact m_end h hv hg hX
  · exact m_ins h hv hg hX
  · exact m_par h hv hg hX
  · exact m_tri h hv hg hX
  · exact m_cho h hv hg hX
  · exact m_sig h hv hg hX
  · exact m_let h hv hg hX
  · exact m_num h hv hg hX
end LT

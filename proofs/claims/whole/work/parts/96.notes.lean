/-! steps by mode: signs, letters, numbers -/
section NS
variable {p b0 n0 tl : Nat} {c cr f : Int32} {K : KT} {I : Nat → Int32} {A : Nat → Nat → Int32} {J : Nat → Int32} {B : Nat → Nat → Int32} {q : Sc} {sg it fn : Nat → Nat} {R : (Nat → Int32) → (Nat → Nat → Int32) → Prop}
theorem sig_fail {post : Int32 → (Nat → Int32) → (Nat → Nat → Int32) → Prop} (h94 : c = 94 → ¬ J 14 = 1) (h95 : c = 95 → ¬ J 14 = -1) (hl : ¬ ltr c) (hq : post (-2) J B) : wp_TuneSetterModel_goOnSign c J B post := by
  have h40 : wp_TuneSetterModel_goOnSign_40 post c J B := by
    unfold wp_TuneSetterModel_goOnSign_40
    rw [letterOf_no hl]
    exact ⟨fun z => absurd z (by decide), fun _ => hq⟩
  have h14 : wp_TuneSetterModel_goOnSign_14 post c J B := ⟨fun z => ⟨fun y => absurd y (h95 z), fun _ => h40⟩, fun _ => h40⟩
  exact ⟨fun z => ⟨fun y => absurd y (h94 z), fun _ => h14⟩, fun _ => h14⟩
theorem m_sig (h : S_sig p I A J B) (hv : EnvQ p c cr f I J B) (hg : Good p c f K) : Step R p c cr f K I A J B := by
  intro hX
  obtain ⟨b0, n0, q, sg, it, fn, tl, hB, hI, hL, hC, hm, h9, h15, s, j14, i6, hst⟩ := h
  have h3 := hB.2.1.2.2.2.2.2
  have hD := hB.2.2.2
  have hc := hv.2.2.2
  have hs : -2 ≤ s ∧ s ≤ 2 := by
    rcases hst with ⟨-, ⟨e, -⟩ | ⟨e, -⟩⟩ | ⟨-, e | e | e⟩ <;> omega
  have hst2 : plainS (I 14) ∧ (I 14 = 9 ∨ I 14 = 10) := by
    rcases hst with ⟨e, -⟩ | ⟨e, -⟩ <;> rw [e] <;> decide
  have hoc : ∀ v, ¬ opC (I 22) (I 14) v := by
    rintro v ⟨-, -, y1, y2⟩
    rcases hst2.2 with e | e
    · exact y1 e
    · exact y2 e
  have j1 : J 14 = 1 ↔ s = 1 := by
    rw [j14, show (1 : Int32) = zI 1 from by decide]; exact zI_eq (by omega) (by omega) (by omega) (by omega)
  have jm : J 14 = -1 ↔ s = -1 := by
    rw [j14, show (-1 : Int32) = zI (-1) from by decide]; exact zI_eq (by omega) (by omega) (by omega) (by omega)
  have letter : ltr c → folF (I 14) (I 22) (I 20) (I 17) (I 19) (I 11) (I 0) 0 c f = 11 → wp_Reader_step c f I A R := by
    intro hl hF
    have ho := oth_ltr hl
    have ec : cr = c := Cr_of hc ho.1
    have n94 : ¬ c = 94 := ho.2.2.2.2.2.2.2.2.2.2.2.1
    have n95 : ¬ c = 95 := ho.2.2.2.2.2.2.2.2.2.2.2.2.1
    obtain ⟨l, l1, l2⟩ := ltr_ex hl
    refine plain_go rfl hst2.1 h3 hF (by decide) (s61_in h3 hI.1 hI.2.1 (by decide) (hoc _) (tk_11 l1 l2 (hX _ _ (nx_8 h9 ?_))))
    rw [ec]
    have h40 : wp_TuneSetterModel_goOnSign_40 (K (upd (upd (upd I 7 (nI l)) 8 (zI ((plN l : Int) + 12 * oc c))) 14 11) A) c J B := by
      unfold wp_TuneSetterModel_goOnSign_40
      rw [letterOf_yes l1 l2]
      refine ⟨fun _ => openLetter_l l1 l2 (hg.2.1 _ _ _ _ ho.1 h3 (i_let ⟨b0, n0, q, sg, it, fn, tl, hB.p2 (Nat.le_succ p), hI, hL, hC, hm, rfl, ?_, ⟨l, oc c, l1, rfl, rfl, rfl, ?_, ?_, rfl, Or.inr ⟨h15, s, hs.1, hs.2, j14, i6⟩⟩, Or.inl ⟨rfl, rfl⟩⟩)), fun z => absurd (nI_pos' (by omega)) z⟩
      · have := hD.1.2.2.2; omega
      · have := oc_b c; omega
      · have := oc_b c; omega
    exact ⟨fun z => absurd z n94, fun _ => ⟨fun z => absurd z n95, fun _ => h40⟩⟩
  rcases hst with ⟨h14, hs9⟩ | ⟨h14, hs10⟩
  · have hF : folF (I 14) (I 22) (I 20) (I 17) (I 19) (I 11) (I 0) 0 c f = if (c = 94 ∨ c = 95) ∧ I 19 = c then 10 else if ltr c then 11 else -1 := by rw [h14]; exact F_9
    by_cases e : (c = 94 ∨ c = 95) ∧ I 19 = c
    · rw [if_pos e] at hF
      have hc0 : ¬ c = 0 := by rcases e.1 with y | y <;> rw [y] <;> decide
      have ec : cr = c := Cr_of hc hc0
      refine plain_go rfl hst2.1 h3 hF (by decide) (s61_in h3 hI.1 hI.2.1 (by decide) (hoc _) (tk_10d h14 (hX _ _ (nx_8 h9 ?_))))
      rw [ec]
      rcases hs9 with ⟨s1, i19⟩ | ⟨s1, i19⟩
      · have c94 : c = 94 := e.2.symm.trans i19
        refine ⟨fun _ => ⟨fun _ => hg.2.1 _ _ _ _ hc0 h3 (i_sig ⟨b0, n0, q, sg, it, fn, tl, hB.p2 (Nat.le_succ p), hI, hL, hC, hm, h9, h15, 2, ?_, ?_, Or.inr ⟨rfl, Or.inr (Or.inl rfl)⟩⟩), fun z => absurd (j1.mpr s1) z⟩, fun z => absurd c94 z⟩
        · show (2 : Int32) * J 14 = zI 2
          rw [j14, s1]; decide
        · show (2 : Int32) * I 6 = zI 2
          rw [i6, s1]; decide
      · have c95 : c = 95 := e.2.symm.trans i19
        refine ⟨fun z => absurd (c95.symm.trans z) (by decide), fun _ => ⟨fun _ => ⟨fun _ => hg.2.1 _ _ _ _ hc0 h3 (i_sig ⟨b0, n0, q, sg, it, fn, tl, hB.p2 (Nat.le_succ p), hI, hL, hC, hm, h9, h15, -2, ?_, ?_, Or.inr ⟨rfl, Or.inr (Or.inr rfl)⟩⟩), fun z => absurd (jm.mpr s1) z⟩, fun z => absurd c95 z⟩⟩
        · show (2 : Int32) * J 14 = zI (-2)
          rw [j14, s1]; decide
        · show (2 : Int32) * I 6 = zI (-2)
          rw [i6, s1]; decide
    · rw [if_neg e] at hF
      by_cases hl : ltr c
      · rw [if_pos hl] at hF
        exact letter hl hF
      · rw [if_neg hl] at hF
        refine plain_bad rfl hst2.1 h3 hF (hX _ _ (nx_8 h9 (sig_fail (fun z y => ?_) (fun z y => ?_) (mt (Cr_lt hc).mp hl) (good_bad hg hB.1 hv (by decide)))))
        · have c94 := (Cr_k hc (by decide) (by decide)).mp z
          rcases hs9 with ⟨s1, i19⟩ | ⟨s1, i19⟩
          · exact e ⟨Or.inl c94, i19.trans c94.symm⟩
          · have := j1.mp y; omega
        · have c95 := (Cr_k hc (by decide) (by decide)).mp z
          rcases hs9 with ⟨s1, i19⟩ | ⟨s1, i19⟩
          · have := jm.mp y; omega
          · exact e ⟨Or.inr c95, i19.trans c95.symm⟩
  · have hF : folF (I 14) (I 22) (I 20) (I 17) (I 19) (I 11) (I 0) 0 c f = if ltr c then 11 else -1 := by rw [h14]; exact F_10
    by_cases hl : ltr c
    · rw [if_pos hl] at hF
      exact letter hl hF
    · rw [if_neg hl] at hF
      refine plain_bad rfl hst2.1 h3 hF (hX _ _ (nx_8 h9 (sig_fail (fun z y => ?_) (fun z y => ?_) (mt (Cr_lt hc).mp hl) (good_bad hg hB.1 hv (by decide)))))
      · have := j1.mp y; omega
      · have := jm.mp y; omega
theorem upd2_cg {X Y : Nat → Nat → Int32} {a k i : Nat} {v : Int32} (h : X a = Y a) : upd2 X k i v a = upd2 Y k i v a := by
  by_cases e : a = k
  · subst e; rw [upd2_eq, upd2_eq, h]
  · rw [upd2_ne e, upd2_ne e, h]
/-- the pitch of a note, on both sides -/
theorem tone_sim {nn m : Nat} (hN : NtS p I J) (hp : p ≤ 120) (hH : HR (A 14) (B 11)) (h5 : I 5 = J 3) (h2 : I 2 = nI nn) (hnn : nn < 120) (h1 : I 1 = nI (n0 + 1)) (hn : n0 < 48) (h8 : J 8 = nI (n0 + 1)) (hm : B 9 n0 = nI m) (hm4 : m < 4) :
    ((∃ A2 : Nat → Nat → Int32, (∀ a, a ≠ 14 → A2 a = A a) ∧ ∀ post : (Nat → Int32) → (Nat → Nat → Int32) → Prop, failed (-4) (I 15) post (upd I 6 99) A2 → wp_Reader_endNote I A post) ∧ ∀ post2 : Int32 → (Nat → Int32) → (Nat → Nat → Int32) → Prop, (∀ r : Int32, (r < 0 ∨ (¬ r < 0 ∧ ¬ r ≤ 127)) → post2 r J B) → wp_TuneSetterModel_toneOf J B post2)
    ∨ ∃ t : Nat, t < 128 ∧ ∃ A2 B2 : Nat → Nat → Int32, (∀ a, a ≠ 14 → A2 a = upd2 (upd2 A 12 nn (nI t)) 9 (n0 + 1) (nI (nn + 1)) a) ∧ (∀ a, a ≠ 11 → B2 a = upd2 (upd2 B 10 (4 * n0 + m) (nI t)) 9 n0 (nI (m + 1)) a) ∧ HR (A2 14) (B2 11) ∧ (∀ post : (Nat → Int32) → (Nat → Nat → Int32) → Prop, post (upd (upd I 6 99) 2 (nI (nn + 1))) A2 → wp_Reader_endNote I A post) ∧ (∀ post2 : Int32 → (Nat → Int32) → (Nat → Nat → Int32) → Prop, post2 (nI t) J B → wp_TuneSetterModel_toneOf J B post2) ∧ ∀ post3 : (Nat → Int32) → (Nat → Nat → Int32) → Prop, post3 J B2 → wp_TuneSetterModel_noteDone (nI t) J B post3 := by
  obtain ⟨l, o, hl, h7, h16, h17, o1, o2, hI8, hs⟩ := hN
  have hb := plN_b hl
  have b1 := hb.1
  have b2 := hb.2.1
  by_cases hout : (plN l : Int) + 12 * o < -2 ∨ 129 < (plN l : Int) + 12 * o
  · refine Or.inl ⟨⟨A, fun _ _ => rfl, fun post h => endNote_out h7 hl hI8 (by omega) (by omega) hout ?_ h2 hnn h1 (by omega) h⟩, fun post2 h => toneOf_out hl h16 h17 (by omega) (by omega) ?_ hH.1 hout h⟩
    · rcases hs with ⟨-, e⟩ | ⟨-, s, s1, s2, -, e⟩
      · exact Or.inl e
      · exact Or.inr ⟨s, s1, s2, e⟩
    · rcases hs with ⟨e, -⟩ | ⟨e, s, s1, s2, e2, -⟩
      · exact Or.inl e
      · exact Or.inr ⟨e, s, s1, s2, e2⟩
  · have n1 : -2 ≤ (plN l : Int) + 12 * o := by omega
    have n2 : (plN l : Int) + 12 * o ≤ 129 := by omega
    have badR : ∀ {s : Int}, -2 ≤ s → s ≤ 2 → ((plN l : Int) + 12 * o + s < 0 ∨ 127 < (plN l : Int) + 12 * o + s) → (zI ((plN l : Int) + 12 * o + s) < 0 ∨ (¬ zI ((plN l : Int) + 12 * o + s) < 0 ∧ ¬ zI ((plN l : Int) + 12 * o + s) ≤ 127)) := by
      intro s s1 s2 hbad
      rw [show (0 : Int32) = zI 0 from by decide, show (127 : Int32) = zI 127 from by decide, zI_lt (by omega) (by omega) (by omega) (by omega), zI_le (by omega) (by omega) (by omega) (by omega)]
      omega
    rcases hs with ⟨j15, i6⟩ | ⟨j15, s, s1, s2, j14, i6⟩
    · obtain ⟨s, s1, s2, hsA, hsB⟩ : ∃ s : Int, -2 ≤ s ∧ s ≤ 2 ∧ ((A 14 ((plN l : Int) + 12 * o + 2).toNat = 99 ∧ ownE (I 5) l = zI s) ∨ A 14 ((plN l : Int) + 12 * o + 2).toNat = zI s) ∧ ((B 11 (hix l o) = 9 ∧ ownE (J 3) l = zI s) ∨ B 11 (hix l o) = zI s) := by
        rcases hH.2 l o hl n1 n2 with ⟨a, b⟩ | ⟨s, s1, s2, a, b⟩
        · obtain ⟨s, s1, s2, e⟩ := ownE_z (I 5) l
          exact ⟨s, s1, s2, Or.inl ⟨a, e⟩, Or.inl ⟨b, by rw [← h5]; exact e⟩⟩
        · exact ⟨s, s1, s2, Or.inr a, Or.inr b⟩
      by_cases hbad : (plN l : Int) + 12 * o + s < 0 ∨ 127 < (plN l : Int) + 12 * o + s
      · exact Or.inl ⟨⟨A, fun _ _ => rfl, fun post h => endNote_u h7 hl hI8 n1 n2 i6 hsA s1 s2 h2 hnn h1 (by omega) (fun _ => h) (fun t e ht => by omega)⟩, fun post2 h => toneOf_in hl h16 h17 (by omega) (by omega) s1 s2 (Or.inr ⟨j15, hsB⟩) (h _ (badR s1 s2 hbad))⟩
      · obtain ⟨t, et⟩ : ∃ t : Nat, (t : Int) = (plN l : Int) + 12 * o + s := ⟨((plN l : Int) + 12 * o + s).toNat, by omega⟩
        refine Or.inr ⟨t, by omega, upd2 (upd2 A 12 nn (nI t)) 9 (n0 + 1) (nI (nn + 1)), upd2 (upd2 B 10 (4 * n0 + m) (nI t)) 9 n0 (nI (m + 1)), fun _ _ => rfl, fun _ _ => rfl, hH, fun post h => endNote_u h7 hl hI8 n1 n2 i6 hsA s1 s2 h2 hnn h1 (by omega) (fun z => absurd z hbad) (fun t2 e ht => ?_), fun post2 h => toneOf_in hl h16 h17 (by omega) (by omega) s1 s2 (Or.inr ⟨j15, hsB⟩) ?_, fun post3 h => noteDone_ok hl h16 h17 (by omega) (by omega) h8 hn hm hm4 ?_⟩
        · have e2 : t2 = t := by omega
          rw [e2]; exact h
        · rw [← et, zI_nat]; exact h
        · rw [if_pos j15]; exact h
    · by_cases hbad : (plN l : Int) + 12 * o + s < 0 ∨ 127 < (plN l : Int) + 12 * o + s
      · exact Or.inl ⟨⟨upd2 A 14 ((plN l : Int) + 12 * o + 2).toNat (zI s), fun a ha => upd2_ne ha, fun post h => endNote_s hI8 n1 n2 i6 s1 s2 h2 hnn h1 (by omega) (fun _ => h) (fun t e ht => by omega)⟩, fun post2 h => toneOf_in hl h16 h17 (by omega) (by omega) s1 s2 (Or.inl ⟨j15, j14⟩) (h _ (badR s1 s2 hbad))⟩
      · obtain ⟨t, et⟩ : ∃ t : Nat, (t : Int) = (plN l : Int) + 12 * o + s := ⟨((plN l : Int) + 12 * o + s).toNat, by omega⟩
        refine Or.inr ⟨t, by omega, upd2 (upd2 (upd2 A 14 ((plN l : Int) + 12 * o + 2).toNat (zI s)) 12 nn (nI t)) 9 (n0 + 1) (nI (nn + 1)), upd2 (upd2 (upd2 B 10 (4 * n0 + m) (nI t)) 9 n0 (nI (m + 1))) 11 (hix l o) (J 14), fun a ha => upd2_cg (upd2_cg (upd2_ne ha)), fun a ha => upd2_ne ha, ?_, fun post h => endNote_s hI8 n1 n2 i6 s1 s2 h2 hnn h1 (by omega) (fun z => absurd z hbad) (fun t2 e ht => ?_), fun post2 h => toneOf_in hl h16 h17 (by omega) (by omega) s1 s2 (Or.inl ⟨j15, j14⟩) ?_, fun post3 h => noteDone_ok hl h16 h17 (by omega) (by omega) h8 hn hm hm4 ?_⟩
        · rw [j14]
          exact HR_set hH hl n1 n2 s1 s2
        · have e2 : t2 = t := by omega
          rw [e2]; exact h
        · rw [← et, zI_nat]; exact h
        · rw [if_neg j15]; exact h
theorem note_base {t : Nat} {A1 B1 : Nat → Nat → Int32} (hB : Base (b0 + 1) (n0 + 1) p q sg it fn I A J B) (hm : q.1 n0 < 4) (hp : fn (n0 + 1) + 1 ≤ p) (ht : t < 128) (ha : ∀ a, a ≠ 14 → A1 a = upd2 (upd2 A 12 (fn (n0 + 1)) (nI t)) 9 (n0 + 1) (nI (fn (n0 + 1) + 1)) a) (hb : ∀ a, a ≠ 11 → B1 a = upd2 (upd2 B 10 (4 * n0 + q.1 n0) (nI t)) 9 n0 (nI (q.1 n0 + 1)) a) : Base (b0 + 1) (n0 + 1) p (qNote q n0 t) sg it (upN fn (n0 + 1) (fn (n0 + 1) + 1)) (upd (upd I 6 99) 2 (nI (fn (n0 + 1) + 1))) A1 J B1 := by
  obtain ⟨hF, ⟨s1, s2, s3, s4, s5, s6⟩, hDB, hD⟩ := hB
  refine ⟨?_, ⟨s1, s2, s3, s4, ?_, s6⟩, ?_, ?_⟩
  · exact Fix.arr (I := upd (upd I 6 99) 2 (nI (fn (n0 + 1) + 1))) (A := A) (J := J) (B := B) hF (ha 1 (by decide)) (ha 23 (by decide)) (hb 1 (by decide)) (hb 17 (by decide))
  · rw [upN_eq]; rfl
  · rw [ha 4 (by decide), ha 5 (by decide), ha 6 (by decide), hb 3 (by decide), hb 4 (by decide), hb 5 (by decide)]
    exact hDB
  · rw [ha 7 (by decide), ha 8 (by decide), ha 9 (by decide), ha 10 (by decide), ha 11 (by decide), ha 12 (by decide), hb 2 (by decide), hb 6 (by decide), hb 7 (by decide), hb 8 (by decide), hb 9 (by decide), hb 10 (by decide)]
    exact it_note hD hm hp ht
theorem done_base {t : Nat} {A1 : Nat → Nat → Int32} {x y : Int32} (hB : Base (b0 + 1) (n0 + 1) p q sg it fn I A J B) (hit : it b0 ≤ n0) (h0 : q.2.1 n0 = 0) (ht : t ≤ 1536) (he : edA A A1 b0 n0 t) : Base (b0 + 1) (n0 + 1) p (q.1, upN q.2.1 n0 t, q.2.2.1, q.2.2.2) sg it fn (upd (upd I 21 0) 17 x) A1 (upd J 13 y) (upd2 (upd2 B 6 n0 (nI t)) 4 b0 (B 4 b0 + nI t)) := by
  obtain ⟨hF, hS, hDB, hD⟩ := hB
  obtain ⟨e1, e2, e3, e4, e5⟩ := he
  have a1 : ∀ a, a ≠ 6 → a ≠ 7 → a ≠ 10 → A1 a = A a := e1
  refine ⟨?_, hS, ?_, ?_⟩
  · exact Fix.arr (I := upd (upd I 21 0) 17 x) (A := A) (J := upd J 13 y) (B := B) hF (a1 1 (by decide) (by decide) (by decide)) (a1 23 (by decide) (by decide) (by decide)) rfl rfl
  · rw [a1 4 (by decide) (by decide) (by decide), a1 5 (by decide) (by decide) (by decide), e3]
    exact bar_add hDB
  · rw [a1 8 (by decide) (by decide) (by decide), a1 9 (by decide) (by decide) (by decide), a1 11 (by decide) (by decide) (by decide), a1 12 (by decide) (by decide) (by decide), e2]
    exact it_done hD hit h0 ht e4 e5
theorem unit_ok (h : Fix I A J B) : ∃ un : Nat, un ≤ 96 ∧ I 13 = nI un ∧ (384 : Int32) / J 2 = nI un ∧ ¬ J 2 = 0 := by
  obtain ⟨⟨r1, r2, r3, r4, r5, r6, r7⟩, -, -, -, -, f2, -⟩ := h
  rw [f2, r6]
  rcases r3 with e | e | e
  · exact ⟨96, by omega, by rw [e]; decide, by rw [e]; decide, by rw [e]; decide⟩
  · exact ⟨48, by omega, by rw [e]; decide, by rw [e]; decide, by rw [e]; decide⟩
  · exact ⟨24, by omega, by rw [e]; decide, by rw [e]; decide, by rw [e]; decide⟩
/-- behind an item -/
theorem ends_sim (hR : ∀ I1 A1, ENDS cr (nI p) (K I1 A1) J B → R I1 A1) (hB : Base (b0 + 1) (n0 + 1) p q sg it fn I A J B) (g : Gp (n0 + 1) tl q I A J B) (hv : EnvQ p c cr f I J B) (h9 : ¬ I 14 = 9) (h0 : 0 ≤ I 14) (h1 : I 14 ≤ 20) (hrs : J 12 = 0 ↔ 0 < q.1 n0) (hf : folF (I 14) (I 22) (I 20) (I 17) (I 19) (I 11) (I 0) (J 12) c f = if c = 45 ∧ J 12 = 0 then 18 else insF (I 17) c) (hg : Good p c f K) : wp_Reader_step_31 R c f I A := by
  have h3 := hB.2.1.2.2.2.2.2
  have hD := hB.2.2.2
  have hc := hv.2.2.2
  have hn : n0 + 1 ≤ 48 := hD.1.2.1
  have hp : p ≤ 120 := hv.2.2.1.1
  have hr : mv (I 14) (I 22) 16384 → ∃ ic : Nat, ic < 48 ∧ I 1 = nI (ic + 1) ∧ (A 9 ic = I 2 ↔ ¬ J 12 = 0) := by
    intro _
    refine ⟨n0, by omega, hB.2.1.2.2.1, ?_⟩
    have d1 := (hD.2.2.2.1 n0 (by omega)).1
    have d2 := (hD.2.2.2.2 n0 (by omega)).1
    have d3 := (hD.2.2.2.1 n0 (by omega)).2
    have d4 := hD.1.2.2.2
    rw [d1, hB.2.1.2.2.2.2.1, nI_eq (by omega) (by omega), hrs]
    omega
  by_cases e : c = 45 ∧ J 12 = 0
  · rw [if_pos e] at hf
    have ec : cr = c := Cr_of hc (by rw [e.1]; decide)
    refine s31_go h3 h0 h1 hr hf (by decide) (s61_no h3 (by decide) (tk_18 (n := n0) hB.2.1.2.2.1 (by omega) (hR _ _ ⟨fun _ => ⟨fun _ => ?_, fun z => absurd e.2 z⟩, fun z => absurd (ec.trans e.1) z⟩)))
    rw [hB.2.1.2.2.2.1, nI_pred, nI_clamp (by omega)]
    refine ⟨vp_in_nI (by omega) (by omega), hg.2.1 _ _ _ _ (by rw [e.1]; decide) h3 (i_ins ⟨b0, n0 + 1, (q.1, q.2.1, q.2.2.1, fun i => if i = n0 then true else q.2.2.2 i), sg, it, fn, tl, ⟨hB.1, hB.2.1, hB.2.2.1, it_p (it_tie hD) (Nat.le_succ p)⟩, g, Or.inl rfl, rfl⟩)⟩
  · rw [if_neg e] at hf
    refine inside_sim (K := K) (J := upd J 9 12) (fun I1 A1 h => hR I1 A1 ⟨fun z => ⟨fun y => ?_, fun _ => h⟩, fun _ => h⟩) hB g hv h9 h0 h1 hr hf rfl hg
    exact absurd ⟨(Cr_k hc (by decide) (by decide)).mp z, y⟩ e
theorem dig_ex (h : dig c) : ∃ k : Nat, k ≤ 9 ∧ c - 48 = nI k := by
  have : c = 48 ∨ c = 49 ∨ c = 50 ∨ c = 51 ∨ c = 52 ∨ c = 53 ∨ c = 54 ∨ c = 55 ∨ c = 56 ∨ c = 57 := by grind
  rcases this with e | e | e | e | e | e | e | e | e | e
  · exact ⟨0, by omega, by rw [e]; decide⟩
  · exact ⟨1, by omega, by rw [e]; decide⟩
  · exact ⟨2, by omega, by rw [e]; decide⟩
  · exact ⟨3, by omega, by rw [e]; decide⟩
  · exact ⟨4, by omega, by rw [e]; decide⟩
  · exact ⟨5, by omega, by rw [e]; decide⟩
  · exact ⟨6, by omega, by rw [e]; decide⟩
  · exact ⟨7, by omega, by rw [e]; decide⟩
  · exact ⟨8, by omega, by rw [e]; decide⟩
  · exact ⟨9, by omega, by rw [e]; decide⟩
theorem dig_cl {x y : Int32} {d T k : Nat} (hd : d < 3) (hT : T < 10 ^ d) (hx : x = nI d) (hy : 0 < d → y = nI T) (hk : c - 48 = nI k) : (if x = 0 then c - 48 else (10 : Int32) * y + (c - 48)) = nI (10 * T + k) := by
  by_cases e : d = 0
  · subst e
    rw [if_pos (by rw [hx]; decide), hk, show T = 0 by omega]
    congr 1; omega
  · rw [if_neg (by rw [hx]; exact nI_ne0 (by omega) (by omega)), hy (by omega), hk, show (10 : Int32) = nI 10 from by decide, pk_mul, nI_add]
theorem dig_rf {y : Int32} {T k : Nat} (hy : y = nI T) (hk : c - 48 = nI k) : ((10 : Int32) * y + c) - 48 = nI (10 * T + k) := by
  have : ((10 : Int32) * y + c) - 48 = (10 : Int32) * y + (c - 48) := by grind
  rw [this, hy, hk, show (10 : Int32) = nI 10 from by decide, pk_mul, nI_add]
theorem dig_pw {d T k : Nat} (hd : d < 3) (hT : T < 10 ^ d) (hk : k ≤ 9) : 10 * T + k < 10 ^ (d + 1) ∧ 10 * T + k ≤ 999 := by
  have : d = 0 ∨ d = 1 ∨ d = 2 := by omega
  rcases this with e | e | e <;> subst e <;> omega
theorem dig47 (h : dig c) : ¬ c = 47 := fun z => by rw [z] at h; revert h; decide
theorem num_top {d T : Nat} (hR : ∀ I1 A1, wp_TuneSetterModel_count c (upd J 9 11) B (fun J1 B1 => K I1 A1 0 J1 B1) → R I1 A1) (hB : Base (b0 + 1) (n0 + 1) p q sg it fn I A J B) (hI : Im b0 n0 tl tl q it I A J B) (h22 : I 22 = 0) (h6 : I 6 = 99) (h12 : J 12 = 0 ↔ 0 < q.1 n0) (hd : d < 3) (h11 : I 11 = nI d) (hT : T < 10 ^ d) (h9 : 0 < d → I 9 = nI T) (h19 : J 19 = nI T) (h20 : J 20 = nI d) (h21 : J 21 = 0) (j22 : J 22 = 0) (h23 : J 23 = 0) (h10 : I 10 = 1) (hc : dig c) (hg : Good p c f K) : takes c 15 R I A := by
  obtain ⟨k, k9, hk⟩ := dig_ex hc
  have hpw := dig_pw hd hT k9
  have h3 := hB.2.1.2.2.2.2.2
  refine tk_15 (hR _ _ ⟨fun z => absurd z (dig47 hc), fun _ => ⟨fun _ => hg.2.1 _ _ _ _ (dg0 hc) h3 (i_num ⟨b0, n0, q, sg, it, fn, tl, 10 * T + k, 1, hB.p2 (Nat.le_succ p), hI, h22, h6, h12, rfl, dig_cl hd hT h11 h9 hk, h10, hpw.2, by omega, ⟨Or.inr ⟨?_, dig_rf h19 hk⟩, Or.inl ⟨h21, rfl⟩⟩, Or.inr (Or.inl ⟨rfl, h21, j22, h23, d + 1, by omega, by omega, hpw.1, ?_, ?_⟩)⟩), fun z => absurd h21 z⟩⟩)
  · show ¬ J 20 + 1 = 0
    rw [h20, nI_1]; exact nI_ne0 (by omega) (by omega)
  · show I 11 + 1 = nI (d + 1)
    rw [h11, nI_1]
  · show J 20 + 1 = nI (d + 1)
    rw [h20, nI_1]
theorem num_slash {tp : Nat} (hR : ∀ I1 A1, wp_TuneSetterModel_count 47 (upd J 9 11) B (fun J1 B1 => K I1 A1 0 J1 B1) → R I1 A1) (hB : Base (b0 + 1) (n0 + 1) p q sg it fn I A J B) (hI : Im b0 n0 tl tl q it I A J B) (h22 : I 22 = 0) (h6 : I 6 = 99) (h12 : J 12 = 0 ↔ 0 < q.1 n0) (h9 : I 9 = nI tp) (htp : tp ≤ 999) (hL : (J 20 = 0 ∧ tp = 1) ∨ (¬ J 20 = 0 ∧ J 19 = nI tp)) (j22 : J 22 = 0) (h23 : J 23 = 0) (hg : Good p 47 f K) : takes 47 16 R I A := by
  have h3 := hB.2.1.2.2.2.2.2
  exact tk_16 (hR _ _ ⟨fun _ => hg.2.1 _ _ _ _ (by decide) h3 (i_num ⟨b0, n0, q, sg, it, fn, tl, tp, 2, hB.p2 (Nat.le_succ p), hI, h22, h6, h12, rfl, h9, (by decide : (2 : Int32) = nI 2), htp, by omega, ⟨hL, Or.inr (Or.inl ⟨(by decide : ¬ (1 : Int32) = 0), h23, rfl⟩)⟩, Or.inr (Or.inr (Or.inl ⟨rfl, rfl, (by decide : ¬ (1 : Int32) = 0), j22, h23⟩))⟩), fun z => absurd rfl z⟩)
theorem num_bot {d T tp : Nat} (hR : ∀ I1 A1, wp_TuneSetterModel_count c (upd J 9 11) B (fun J1 B1 => K I1 A1 0 J1 B1) → R I1 A1) (hB : Base (b0 + 1) (n0 + 1) p q sg it fn I A J B) (hI : Im b0 n0 tl tl q it I A J B) (h22 : I 22 = 0) (h6 : I 6 = 99) (h12 : J 12 = 0 ↔ 0 < q.1 n0) (hd : d < 3) (h11 : I 11 = nI d) (hT : T < 10 ^ d) (h10 : 0 < d → I 10 = nI T) (j22 : J 22 = nI T) (h23 : J 23 = nI d) (h21 : ¬ J 21 = 0) (h9 : I 9 = nI tp) (htp : tp ≤ 999) (hL : (J 20 = 0 ∧ tp = 1) ∨ (¬ J 20 = 0 ∧ J 19 = nI tp)) (hc : dig c) (hg : Good p c f K) : takes c 17 R I A := by
  obtain ⟨k, k9, hk⟩ := dig_ex hc
  have hpw := dig_pw hd hT k9
  have h3 := hB.2.1.2.2.2.2.2
  refine tk_17 (hR _ _ ⟨fun z => absurd z (dig47 hc), fun _ => ⟨fun z => absurd z h21, fun _ => hg.2.1 _ _ _ _ (dg0 hc) h3 (i_num ⟨b0, n0, q, sg, it, fn, tl, tp, 10 * T + k, hB.p2 (Nat.le_succ p), hI, h22, h6, h12, rfl, h9, dig_cl hd hT h11 h10 hk, htp, hpw.2, ⟨hL, Or.inr (Or.inr ⟨h21, ?_, dig_rf j22 hk⟩)⟩, Or.inr (Or.inr (Or.inr ⟨rfl, h21, d + 1, by omega, by omega, hpw.1, ?_, ?_⟩))⟩)⟩⟩)
  · show ¬ J 23 + 1 = 0
    rw [h23, nI_1]; exact nI_ne0 (by omega) (by omega)
  · show I 11 + 1 = nI (d + 1)
    rw [h11, nI_1]
  · show J 23 + 1 = nI (d + 1)
    rw [h23, nI_1]
end NS

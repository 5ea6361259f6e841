/-! where a character leads, as one function -/
def folF (st ch ib tl ls dg b0 rs c f : Int32) : Int32 :=
  if c = 0 then (if mv st ch 32768 then (if b0 ≤ 0 then -1 else 20) else -1)
  else if c = 32 then (if mv st ch 1 then (if st = 0 ∨ st = 5 then st else if ib = 0 then 3 else 19) else -1)
  else if c = 124 then (if mv st ch 4 then 3 else if mv st ch 2 then 1 else -1)
  else if c = 58 then (if mv st ch 4 then 3 else if mv st ch 2 then 2 else -1)
  else if c = 91 then (if mv st ch 8 ∧ (f = 49 ∨ f = 50) then 4 else if mv st ch 32 then 8 else -1)
  else if c = 40 then (if mv st ch 16 ∧ tl = 0 then 6 else -1)
  else if c = 93 then (if mv st ch 2048 then 14 else -1)
  else if c = 122 then (if mv st ch 32 then 14 else -1)
  else if c = 94 then (if mv st ch 128 ∧ ls = 94 then 10 else if mv st ch 64 then 9 else -1)
  else if c = 95 then (if mv st ch 128 ∧ ls = 95 then 10 else if mv st ch 64 then 9 else -1)
  else if c = 61 then (if mv st ch 64 then 10 else -1)
  else if c = 39 then (if mv st ch 512 then 12 else -1)
  else if c = 44 then (if mv st ch 1024 then 13 else -1)
  else if c = 47 then (if mv st ch 8192 then 16 else -1)
  else if c = 45 then (if mv st ch 16384 then (if rs = 0 then 18 else -1) else -1)
  else if dig c then (if mv st ch 4096 then folD st dg c else -1)
  else if ltr c then (if mv st ch 320 then 11 else -1)
  else -1
section FF
variable {I : Nat → Int32} {A : Nat → Nat → Int32} {c f rs : Int32}
theorem follow_ok {post : Int32 → (Nat → Int32) → (Nat → Nat → Int32) → Prop} (h0 : 0 ≤ I 14) (h1 : I 14 ≤ 20) (hr : mv (I 14) (I 22) 16384 → ∃ ic : Nat, ic < 48 ∧ I 1 = nI (ic + 1) ∧ (A 9 ic = I 2 ↔ ¬ rs = 0)) (hq : post (folF (I 14) (I 22) (I 20) (I 17) (I 19) (I 11) (I 0) rs c f) I A) : wp_Reader_follow c f I A post := by
  unfold folF at hq
  by_cases c1 : c = 0
  · subst c1; rw [fol_end h0 h1]; exact hq
  rw [if_neg c1] at hq
  by_cases c2 : c = 32
  · subst c2; rw [fol_space h0 h1]; exact hq
  rw [if_neg c2] at hq
  by_cases c3 : c = 124
  · subst c3; rw [fol_bar h0 h1]; exact hq
  rw [if_neg c3] at hq
  by_cases c4 : c = 58
  · subst c4; rw [fol_colon h0 h1]; exact hq
  rw [if_neg c4] at hq
  by_cases c5 : c = 91
  · subst c5; rw [fol_brack h0 h1]; exact hq
  rw [if_neg c5] at hq
  by_cases c6 : c = 40
  · subst c6; rw [fol_paren h0 h1]; exact hq
  rw [if_neg c6] at hq
  by_cases c7 : c = 93
  · subst c7; rw [fol_close h0 h1]; exact hq
  rw [if_neg c7] at hq
  by_cases c8 : c = 122
  · subst c8; rw [fol_z h0 h1]; exact hq
  rw [if_neg c8] at hq
  by_cases c9 : c = 94
  · subst c9; rw [fol_sharp h0 h1]; exact hq
  rw [if_neg c9] at hq
  by_cases c10 : c = 95
  · subst c10; rw [fol_flat h0 h1]; exact hq
  rw [if_neg c10] at hq
  by_cases c11 : c = 61
  · subst c11; rw [fol_eq h0 h1]; exact hq
  rw [if_neg c11] at hq
  by_cases c12 : c = 39
  · subst c12; rw [fol_up h0 h1]; exact hq
  rw [if_neg c12] at hq
  by_cases c13 : c = 44
  · subst c13; rw [fol_down h0 h1]; exact hq
  rw [if_neg c13] at hq
  by_cases c14 : c = 47
  · subst c14; rw [fol_slash h0 h1]; exact hq
  rw [if_neg c14] at hq
  by_cases c15 : c = 45
  · subst c15
    rw [if_pos rfl] at hq
    by_cases hm : mv (I 14) (I 22) 16384
    · obtain ⟨ic, i1, i2, i3⟩ := hr hm
      rw [fol_dash h0 h1 hm i2 i1]
      rw [if_pos hm] at hq
      by_cases e : A 9 ic = I 2
      · rw [if_pos e]; rw [if_neg (i3.mp e)] at hq; exact hq
      · rw [if_neg e]; rw [if_pos (Decidable.byContradiction (fun z => e (i3.mpr z)))] at hq; exact hq
    · rw [fol_dash_no h0 h1 hm]
      rw [if_neg hm] at hq
      exact hq
  rw [if_neg c15] at hq
  by_cases d : dig c
  · rw [if_pos d] at hq
    by_cases hm : mv (I 14) (I 22) 4096
    · rw [if_pos hm] at hq
      rw [fol_dig h0 h1 d hm]; exact hq
    · rw [if_neg hm] at hq
      rw [fol_dig_no h0 h1 d hm]; exact hq
  rw [if_neg d] at hq
  by_cases l : ltr c
  · rw [if_pos l] at hq
    rw [fol_ltr h0 h1 l]; exact hq
  rw [if_neg l] at hq
  rw [fol_none h0 h1 ⟨c1, c2, c12, c6, c13, c15, c14, c4, c11, c5, c7, c9, c10, c8, c3⟩ d l]
  exact hq
/-- what may come next, by state -/
theorem mv_o {st ch x : Int32} (h : ¬ (st = 11 ∨ st = 12 ∨ st = 13)) : mv st ch x ↔ ¬ (tb_MAY st.toNatClampNeg &&& x) = 0 := by unfold mv mayV; rw [if_neg h]
theorem mv_0 {st x : Int32} (h : st = 11 ∨ st = 12 ∨ st = 13) : mv st 0 x ↔ ¬ ((tb_MAY st.toNatClampNeg ||| 28787) &&& x) = 0 := by unfold mv mayV; rw [if_pos h]; rfl
theorem mv_1 {st x : Int32} (h : st = 11 ∨ st = 12 ∨ st = 13) : mv st 1 x ↔ ¬ ((tb_MAY st.toNatClampNeg ||| 2112) &&& x) = 0 := by unfold mv mayV; rw [if_pos h]; rfl
/-- a step, from what a character leads to -/
theorem s31_bad {post : (Nat → Int32) → (Nat → Nat → Int32) → Prop} (h3 : I 3 = 0) (h0 : 0 ≤ I 14) (h1 : I 14 ≤ 20) (hr : mv (I 14) (I 22) 16384 → ∃ ic : Nat, ic < 48 ∧ I 1 = nI (ic + 1) ∧ (A 9 ic = I 2 ↔ ¬ rs = 0)) (hv : folF (I 14) (I 22) (I 20) (I 17) (I 19) (I 11) (I 0) rs c f = -1) (hq : failed (-2) (I 15) post I A) : wp_Reader_step_31 post c f I A := by
  refine ⟨fun _ => follow_ok h0 h1 hr ?_, fun z => absurd h3 z⟩
  rw [hv]
  refine ⟨fun _ => ?_, fun z => absurd rfl z⟩
  show wp_Reader_step_61 post c (-1) (upd (upd I 3 (-2)) 4 (I 15)) A
  refine ⟨fun z => absurd z (by show ¬ (-2 : Int32) = 0; decide), fun _ => ⟨fun z => absurd z (by show ¬ (-2 : Int32) = 0; decide), fun _ => ⟨fun z => absurd z (by show ¬ (-2 : Int32) = 0; decide), fun _ => hq⟩⟩⟩
theorem s31_go {post : (Nat → Int32) → (Nat → Nat → Int32) → Prop} {v : Int32} (h3 : I 3 = 0) (h0 : 0 ≤ I 14) (h1 : I 14 ≤ 20) (hr : mv (I 14) (I 22) 16384 → ∃ ic : Nat, ic < 48 ∧ I 1 = nI (ic + 1) ∧ (A 9 ic = I 2 ↔ ¬ rs = 0)) (hv : folF (I 14) (I 22) (I 20) (I 17) (I 19) (I 11) (I 0) rs c f = v) (hn : ¬ v = -1) (hq : wp_Reader_step_61 post c v I A) : wp_Reader_step_31 post c f I A := by
  refine ⟨fun _ => follow_ok h0 h1 hr ?_, fun z => absurd h3 z⟩
  rw [hv]
  exact ⟨fun z => absurd z hn, fun _ => hq⟩
theorem step_plain {post : (Nat → Int32) → (Nat → Nat → Int32) → Prop} (h3 : I 3 = 0) (hl : ¬ lenE (I 14) (I 22) c) (ho : ¬ octE (I 14) c) (hq : wp_Reader_step_31 post c f I A) : wp_Reader_step c f I A post := by
  unfold wp_Reader_step
  rw [lengthEnds_iff, b2_f hl]
  refine ⟨fun _ => ⟨fun _ => ?_, fun z => absurd h3 z⟩, fun z => absurd rfl z⟩
  rw [octavesEnd_iff, b2_f ho]
  exact ⟨fun _ => hq, fun z => absurd rfl z⟩
theorem step_note {post : (Nat → Int32) → (Nat → Nat → Int32) → Prop} (h3 : I 3 = 0) (hl : ¬ lenE (I 14) (I 22) c) (ho : octE (I 14) c) (hq : wp_Reader_endNote I A (fun I28 A28 => wp_Reader_step_31 post c f I28 A28)) : wp_Reader_step c f I A post := by
  unfold wp_Reader_step
  rw [lengthEnds_iff, b2_f hl]
  refine ⟨fun _ => ⟨fun _ => ?_, fun z => absurd h3 z⟩, fun z => absurd rfl z⟩
  rw [octavesEnd_iff, b2_t ho]
  exact ⟨fun z => absurd z (by decide), fun _ => hq⟩
theorem step_item {post : (Nat → Int32) → (Nat → Nat → Int32) → Prop} (hl : lenE (I 14) (I 22) c) (hq : wp_Reader_endItem I A (fun I9 A9 => wp_Reader_step_12 post c f I9 A9)) : wp_Reader_step c f I A post := by
  unfold wp_Reader_step
  rw [lengthEnds_iff, b2_t hl]
  exact ⟨fun z => absurd z (by decide), fun _ => hq⟩
theorem s12_bad {post : (Nat → Int32) → (Nat → Nat → Int32) → Prop} (h3 : ¬ I 3 = 0) (hq : post I A) : wp_Reader_step_12 post c f I A :=
  ⟨fun z => absurd z h3, fun _ => ⟨fun z => absurd z h3, fun _ => hq⟩⟩
theorem s31_no {post : (Nat → Int32) → (Nat → Nat → Int32) → Prop} (h3 : ¬ I 3 = 0) (hq : post I A) : wp_Reader_step_31 post c f I A :=
  ⟨fun z => absurd z h3, fun _ => hq⟩
theorem s12_plain {post : (Nat → Int32) → (Nat → Nat → Int32) → Prop} (h3 : I 3 = 0) (ho : ¬ octE (I 14) c) (hq : wp_Reader_step_31 post c f I A) : wp_Reader_step_12 post c f I A := by
  refine ⟨fun _ => ?_, fun z => absurd h3 z⟩
  rw [octavesEnd_iff, b2_f ho]
  exact ⟨fun _ => hq, fun z => absurd rfl z⟩
theorem s12_note {post : (Nat → Int32) → (Nat → Nat → Int32) → Prop} (h3 : I 3 = 0) (ho : octE (I 14) c) (hq : wp_Reader_endNote I A (fun I28 A28 => wp_Reader_step_31 post c f I28 A28)) : wp_Reader_step_12 post c f I A := by
  refine ⟨fun _ => ?_, fun z => absurd h3 z⟩
  rw [octavesEnd_iff, b2_t ho]
  exact ⟨fun z => absurd z (by decide), fun _ => hq⟩
end FF

/-! the reference's questions, answered -/
abbrev bnE (x : Int32) : Prop := x = 94 ∨ x = 95 ∨ x = 61 ∨ ltr x
abbrev biE (x : Int32) : Prop := x = 40 ∨ x = 91 ∨ x = 122 ∨ bnE x
abbrev goL (c mk : Int32) : Prop := (c = 39 ∧ 0 ≤ mk) ∨ (c = 44 ∧ mk ≤ 0)
abbrev goN (c sl td bd : Int32) : Prop := (c = 47 ∧ sl = 0) ∨ (dig c ∧ ((sl = 0 ∧ td < 3) ∨ (¬ sl = 0 ∧ bd < 3)))
section RF
variable {J : Nat → Int32} {B : Nat → Nat → Int32} {post : Int32 → (Nat → Int32) → (Nat → Nat → Int32) → Prop} {x : Int32}
theorem misDigit_iff : wp_TuneSetterModel_isDigit x J B post ↔ post (b2 (dig x)) J B := by
  unfold wp_TuneSetterModel_isDigit
  by_cases h : dig x
  · rw [b2_t h]; grind
  · rw [b2_f h]; grind
theorem letterOf_no (h : ¬ ltr x) : wp_TuneSetterModel_letterOf x J B post ↔ post (-1) J B := by
  unfold wp_TuneSetterModel_letterOf wp_TuneSetterModel_letterOf_19
  grind
theorem letterOf_yes {l : Nat} (hl : l < 7) (h : x = nI (65 + l) ∨ x = nI (97 + l)) : wp_TuneSetterModel_letterOf x J B post ↔ post (nI l) J B := by
  unfold wp_TuneSetterModel_letterOf wp_TuneSetterModel_letterOf_19
  rcases h with h | h
  · have e : x - 65 = nI l := by
      rw [h, show (65 : Int32) = nI 65 from by decide, pk_sub (by omega)]; congr 1; omega
    have c1 : ¬ x < 65 := by
      rw [h, show (65 : Int32) = nI 65 from by decide]
      exact fun z => by have := (nI_ltI (a := 65 + l) (b := 65) (by omega) (by omega)).mp z; omega
    have c2 : ¬ 71 < x := by
      rw [h, show (71 : Int32) = nI 71 from by decide]
      exact fun z => by have := (nI_ltI (a := 71) (b := 65 + l) (by omega) (by omega)).mp z; omega
    rw [e]
    exact ⟨fun q => (q.2 c1).2 c2, fun q => ⟨fun z => absurd z c1, fun _ => ⟨fun z => absurd z c2, fun _ => q⟩⟩⟩
  · have e : x - 97 = nI l := by
      rw [h, show (97 : Int32) = nI 97 from by decide, pk_sub (by omega)]; congr 1; omega
    have c1 : ¬ x < 65 := by
      rw [h, show (65 : Int32) = nI 65 from by decide]
      exact fun z => by have := (nI_ltI (a := 97 + l) (b := 65) (by omega) (by omega)).mp z; omega
    have c2 : 71 < x := by
      rw [h, show (71 : Int32) = nI 71 from by decide]
      exact (nI_ltI (by omega) (by omega)).mpr (by omega)
    have c3 : ¬ x < 97 := by
      rw [h, show (97 : Int32) = nI 97 from by decide]
      exact fun z => by have := (nI_ltI (a := 97 + l) (b := 97) (by omega) (by omega)).mp z; omega
    have c4 : ¬ 103 < x := by
      rw [h, show (103 : Int32) = nI 103 from by decide]
      exact fun z => by have := (nI_ltI (a := 103) (b := 97 + l) (by omega) (by omega)).mp z; omega
    rw [e]
    exact ⟨fun q => ((((q.2 c1).1 c2).2 c3).2 c4), fun q => ⟨fun z => absurd z c1, fun _ => ⟨fun _ => ⟨fun z => absurd z c3, fun _ => ⟨fun z => absurd z c4, fun _ => q⟩⟩, fun z => absurd c2 z⟩⟩⟩
theorem nI_nneg {l : Nat} (h : l < 2 ^ 31) : ¬ nI l < 0 := by
  rw [show (0 : Int32) = nI 0 from by decide]
  intro z
  have := (nI_ltI (a := l) (b := 0) h (by omega)).mp z
  omega
theorem beginsNote_iff : wp_TuneSetterModel_beginsNote x J B post ↔ post (b2 (bnE x)) J B := by
  unfold wp_TuneSetterModel_beginsNote
  by_cases h : ltr x
  · obtain ⟨l, l1, l2⟩ := ltr_ex h
    simp only [letterOf_yes l1 l2]
    rw [b2_t (show bnE x from Or.inr (Or.inr (Or.inr h)))]
    have := nI_nneg (l := l) (by omega)
    grind
  · simp only [letterOf_no h]
    by_cases e : bnE x
    · rw [b2_t e]; grind
    · rw [b2_f e]; grind
theorem beginsItem_iff : wp_TuneSetterModel_beginsItem x J B post ↔ post (b2 (biE x)) J B := by
  unfold wp_TuneSetterModel_beginsItem
  simp only [beginsNote_iff, b2_0]
  by_cases e : bnE x
  · rw [b2_t (show biE x from Or.inr (Or.inr (Or.inr e)))]; grind
  · by_cases h : biE x
    · rw [b2_t h]; grind
    · rw [b2_f h]; grind
theorem goesOnLetter_iff : wp_TuneSetterModel_goesOnLetter x J B post ↔ post (b2 (goL x (J 18))) J B := by
  unfold wp_TuneSetterModel_goesOnLetter
  generalize J 18 = mk
  by_cases h : goL x mk
  · rw [b2_t h]; grind
  · rw [b2_f h]; grind
theorem goesOnNumber_iff : wp_TuneSetterModel_goesOnNumber x J B post ↔ post (b2 (goN x (J 21) (J 20) (J 23))) J B := by
  unfold wp_TuneSetterModel_goesOnNumber
  simp only [misDigit_iff, b2_0]
  generalize J 21 = sl
  generalize J 20 = td
  generalize J 23 = bd
  by_cases d : dig x
  · by_cases h : goN x sl td bd
    · rw [b2_t h]; grind
    · rw [b2_f h]; grind
  · by_cases h : goN x sl td bd
    · rw [b2_t h]; grind
    · rw [b2_f h]; grind
theorem beginNote_l {l : Nat} (hl : l < 7) (h : x = nI (65 + l) ∨ x = nI (97 + l)) (hq : post 0 (upd (upd (upd (upd (upd J 15 0) 16 (nI l)) 17 (zI (oc x))) 18 0) 9 9) B) : wp_TuneSetterModel_beginNote x J B post := by
  unfold wp_TuneSetterModel_beginNote
  rw [letterOf_yes hl h]
  refine ⟨fun z => absurd z (nI_nneg (by omega)), fun _ => ?_⟩
  unfold wp_TuneSetterModel_openLetter
  rw [letterOf_yes hl h]
  unfold oc at hq
  refine ⟨fun z => ?_, fun z => ?_⟩
  · rw [if_pos z] at hq; exact hq
  · rw [if_neg z] at hq; exact hq
theorem openLetter_l {post : (Nat → Int32) → (Nat → Nat → Int32) → Prop} {l : Nat} (hl : l < 7) (h : x = nI (65 + l) ∨ x = nI (97 + l)) (hq : post (upd (upd (upd (upd J 16 (nI l)) 17 (zI (oc x))) 18 0) 9 9) B) : wp_TuneSetterModel_openLetter x J B post := by
  unfold wp_TuneSetterModel_openLetter
  rw [letterOf_yes hl h]
  unfold oc at hq
  refine ⟨fun z => ?_, fun z => ?_⟩
  · rw [if_pos z] at hq; exact hq
  · rw [if_neg z] at hq; exact hq
theorem beginNote_s {n : Nat} (h : x = 94 ∨ x = 95 ∨ x = 61) (h8 : J 8 = nI (n + 1)) (hn : n < 48) (hq : post 0 (upd (upd (upd (upd J 15 0) 15 1) 14 (zI (sgn x))) 9 8) (upd2 B 8 n (B 8 n + 1))) : wp_TuneSetterModel_beginNote x J B post := by
  have hx : ¬ ltr x := by rcases h with h | h | h <;> subst h <;> decide
  unfold wp_TuneSetterModel_beginNote
  rw [letterOf_no hx]
  refine ⟨fun _ => ?_, fun z => absurd (by decide) z⟩
  rw [show upd J 15 0 8 = J 8 from rfl, h8, nI_pred, nI_clamp (by omega)]
  unfold sgn at hq
  refine ⟨vp_in_nI hn (by omega), vp_in_nI hn (by omega), fun z => ?_, fun z => ⟨fun z2 => ?_, fun z2 => ?_⟩⟩
  · rw [if_pos z] at hq; exact hq
  · rw [if_neg z, if_pos z2] at hq; exact hq
  · rw [if_neg z, if_neg z2] at hq; exact hq
/-- the ticks that the reference counts -/
def Lr (tp bt : Nat) (J : Nat → Int32) : Prop := ((J 20 = 0 ∧ tp = 1) ∨ (¬ J 20 = 0 ∧ J 19 = nI tp)) ∧ ((J 21 = 0 ∧ bt = 1) ∨ (¬ J 21 = 0 ∧ J 23 = 0 ∧ bt = 2) ∨ (¬ J 21 = 0 ∧ ¬ J 23 = 0 ∧ J 22 = nI bt))
theorem parts_ok {tp bt un tl : Nat} (hL : Lr tp bt J) (h2 : ¬ J 2 = 0) (hu : (384 : Int32) / J 2 = nI un) (h13 : J 13 = nI tl) (htl : tl ≤ 3) (hq : post (nI (tp * un * (if decide (0 < tl) then 2 else 1))) J B) : wp_TuneSetterModel_parts J B post := by
  have body : ∀ s0 : Int32, s0 = nI tp → wp_TuneSetterModel_parts_15 post s0 J B := by
    intro s0 e
    unfold wp_TuneSetterModel_parts_15
    rw [e, hu, h13, pk_mul]
    refine ⟨h2, fun z => ?_, fun z => ?_⟩
    · have e0 : tl = 0 := by
        rw [show (0 : Int32) = nI 0 from by decide] at z
        have := (nI_leI (a := tl) (b := 0) (by omega) (by omega)).mp z
        omega
      rw [show (1 : Int32) = nI 1 from by decide, pk_mul]
      subst e0
      exact hq
    · have e0 : 0 < tl := by
        rw [show (0 : Int32) = nI 0 from by decide] at z
        have := mt (nI_leI (a := tl) (b := 0) (by omega) (by omega)).mpr z
        omega
      rw [show (2 : Int32) = nI 2 from by decide, pk_mul]
      rw [decide_eq_true e0] at hq
      exact hq
  unfold wp_TuneSetterModel_parts
  rcases hL.1 with ⟨a, e⟩ | ⟨a, e⟩
  · exact ⟨fun _ => body 1 (by rw [e]; decide), fun z => absurd a z⟩
  · exact ⟨fun z => absurd z a, fun _ => body _ e⟩
theorem divisor_ok {tp bt tl : Nat} (hL : Lr tp bt J) (h13 : J 13 = nI tl) (htl : tl ≤ 3) (hq : post (nI (bt * (if decide (0 < tl) then 3 else 1))) J B) : wp_TuneSetterModel_divisor J B post := by
  have body : ∀ s0 : Int32, s0 = nI bt → wp_TuneSetterModel_divisor_26 post s0 J B := by
    intro s0 e
    unfold wp_TuneSetterModel_divisor_26
    rw [e, h13]
    refine ⟨fun z => ?_, fun z => ?_⟩
    · have e0 : tl = 0 := by
        rw [show (0 : Int32) = nI 0 from by decide] at z
        have := (nI_leI (a := tl) (b := 0) (by omega) (by omega)).mp z
        omega
      rw [show (1 : Int32) = nI 1 from by decide, pk_mul]
      subst e0
      exact hq
    · have e0 : 0 < tl := by
        rw [show (0 : Int32) = nI 0 from by decide] at z
        have := mt (nI_leI (a := tl) (b := 0) (by omega) (by omega)).mpr z
        omega
      rw [show (3 : Int32) = nI 3 from by decide, pk_mul]
      rw [decide_eq_true e0] at hq
      exact hq
  unfold wp_TuneSetterModel_divisor
  rcases hL.2 with ⟨a, e⟩ | ⟨a, a2, e⟩ | ⟨a, a2, e⟩
  · exact ⟨fun _ => body 1 (by rw [e]; decide), fun z => absurd a z⟩
  · exact ⟨fun z => absurd z a, fun _ => ⟨fun _ => body 2 (by rw [e]; decide), fun z => absurd a2 z⟩⟩
  · exact ⟨fun z => absurd z a, fun _ => ⟨fun z => absurd z a2, fun _ => body _ e⟩⟩
theorem tickV_pos {tp bt un : Nat} {tr : Bool} : 0 < tickV tp bt un tr ↔ 0 < bt * (if tr then 3 else 1) ∧ 0 < tp * un * (if tr then 2 else 1) ∧ (tp * un * (if tr then 2 else 1)) % (bt * (if tr then 3 else 1)) = 0 ∧ (tp * un * (if tr then 2 else 1)) / (bt * (if tr then 3 else 1)) ≤ 1536 := by
  unfold tickV
  generalize (bt * _) = y
  generalize (tp * un * _) = x
  split
  · rename_i h
    constructor
    · intro z; omega
    · rintro ⟨a1, a2, a3, a4⟩
      rcases h with h | h | h
      · omega
      · exact absurd a3 h
      · omega
  · rename_i h
    have h1 : ¬ y = 0 := fun e => h (Or.inl e)
    have h2 : x % y = 0 := Decidable.byContradiction (fun e => h (Or.inr (Or.inl e)))
    have h3 : ¬ 1536 < x / y := fun e => h (Or.inr (Or.inr e))
    constructor
    · intro z
      refine ⟨by omega, ?_, h2, by omega⟩
      rcases Nat.eq_zero_or_pos x with e | e
      · rw [e, Nat.zero_div] at z; omega
      · exact e
    · rintro ⟨a1, a2, a3, a4⟩
      exact Nat.div_pos (Nat.le_of_dvd a2 (Nat.dvd_of_mod_eq_zero h2)) a1
theorem tickV_val {tp bt un : Nat} {tr : Bool} (h : 0 < tickV tp bt un tr) : tickV tp bt un tr = (tp * un * (if tr then 2 else 1)) / (bt * (if tr then 3 else 1)) := by
  unfold tickV at h ⊢
  revert h
  generalize (bt * _) = y
  generalize (tp * un * _) = x
  intro h
  split
  · rename_i h2
    rw [if_pos h2] at h
    omega
  · rfl
theorem pb {tp bt un tl : Nat} (htp : tp ≤ 999) (hbt : bt ≤ 999) (hun : un ≤ 96) : tp * un * (if decide (0 < tl) then 2 else 1) < 2 ^ 31 ∧ bt * (if decide (0 < tl) then 3 else 1) < 2 ^ 31 := by
  have hm : tp * un ≤ 999 * 96 := Nat.mul_le_mul htp hun
  constructor <;> split <;> omega
theorem hasLength_ok {tp bt un tl : Nat} (hL : Lr tp bt J) (htp : tp ≤ 999) (hbt : bt ≤ 999) (hun : un ≤ 96) (h2 : ¬ J 2 = 0) (hu : (384 : Int32) / J 2 = nI un) (h13 : J 13 = nI tl) (htl : tl ≤ 3) (hq : post (b2 (0 < tickV tp bt un (decide (0 < tl)))) J B) : wp_TuneSetterModel_hasLength J B post := by
  obtain ⟨p1, p2⟩ := pb (tl := tl) htp hbt hun
  refine parts_ok hL h2 hu h13 htl (divisor_ok hL h13 htl ?_)
  have key := tickV_pos (tp := tp) (bt := bt) (un := un) (tr := decide (0 < tl))
  revert hq key p1 p2
  generalize tickV tp bt un (decide (0 < tl)) = t
  generalize (bt * _) = y
  generalize (tp * un * _) = a
  intro hq p1 p2 key
  refine ⟨fun z => ?_, fun z => ⟨fun z2 => ?_, fun z2 => ?_⟩⟩
  · rw [show (0 : Int32) = nI 0 from by decide] at z
    have := (nI_leI (a := y) (b := 0) p2 (by omega)).mp z
    rw [b2_f (fun h => by have := (key.mp h).1; omega)] at hq
    exact hq
  · rw [show (0 : Int32) = nI 0 from by decide] at z2
    have := (nI_leI (a := a) (b := 0) p1 (by omega)).mp z2
    rw [b2_f (fun h => by have := (key.mp h).2.1; omega)] at hq
    exact hq
  · have y0 : 0 < y := by
      rw [show (0 : Int32) = nI 0 from by decide] at z
      have := mt (nI_leI (a := y) (b := 0) p2 (by omega)).mpr z
      omega
    have a0 : 0 < a := by
      rw [show (0 : Int32) = nI 0 from by decide] at z2
      have := mt (nI_leI (a := a) (b := 0) p1 (by omega)).mpr z2
      omega
    have hne : ¬ nI y = 0 := nI_ne0 (by omega) p2
    have hdl := Nat.div_le_self a y
    have hml := Nat.mod_lt a y0
    rw [pk_rem p1 (by omega) p2, pk_div p1 (by omega) p2]
    refine ⟨hne, fun z3 => ⟨hne, fun z4 => ?_, fun z4 => ?_⟩, fun z3 => ?_⟩
    · rw [show (1536 : Int32) = nI 1536 from by decide] at z4
      have := (nI_ltI (a := 1536) (b := a / y) (by omega) (by omega)).mp z4
      rw [b2_f (fun h => by have := (key.mp h).2.2.2; omega)] at hq
      exact hq
    · rw [show (1536 : Int32) = nI 1536 from by decide] at z4
      have := mt (nI_ltI (a := 1536) (b := a / y) (by omega) (by omega)).mpr z4
      rw [show (0 : Int32) = nI 0 from by decide] at z3
      have e := (nI_eq (a := a % y) (b := 0) (by omega) (by omega)).mp z3
      rw [b2_t (key.mpr ⟨y0, a0, e, by omega⟩)] at hq
      exact hq
    · rw [show (0 : Int32) = nI 0 from by decide] at z3
      have e := mt (nI_eq (a := a % y) (b := 0) (by omega) (by omega)).mpr z3
      rw [b2_f (fun h => e (key.mp h).2.2.1)] at hq
      exact hq
theorem itemDone_ok {post : (Nat → Int32) → (Nat → Nat → Int32) → Prop} {tp bt un tl n b : Nat} (hL : Lr tp bt J) (htp : tp ≤ 999) (hbt : bt ≤ 999) (hun : un ≤ 96) (h2 : ¬ J 2 = 0) (hu : (384 : Int32) / J 2 = nI un) (h13 : J 13 = nI tl) (htl : tl ≤ 3) (h8 : J 8 = nI (n + 1)) (hn : n < 48) (h5 : J 5 = nI (b + 1)) (hb : b < 8) (ht : 0 < tickV tp bt un (decide (0 < tl)))
    (hq : post (upd J 13 (nI (tl - 1))) (upd2 (upd2 B 6 n (nI (tickV tp bt un (decide (0 < tl))))) 4 b (B 4 b + nI (tickV tp bt un (decide (0 < tl)))))) : wp_TuneSetterModel_itemDone J B post := by
  obtain ⟨p1, p2⟩ := pb (tl := tl) htp hbt hun
  refine parts_ok hL h2 hu h13 htl (divisor_ok hL h13 htl ?_)
  have key := tickV_pos.mp ht
  rw [tickV_val ht] at hq
  revert hq key p1 p2
  generalize (bt * _) = y
  generalize (tp * un * _) = a
  intro hq p1 p2 key
  have hne : ¬ nI y = 0 := nI_ne0 (by omega) p2
  rw [h8, h5, h13, nI_pred, nI_pred, nI_clamp (by omega), nI_clamp (by omega), pk_div p1 (by omega) p2, upd2_eq, upd_eq]
  refine ⟨hne, vp_in_nI hn (by omega), vp_in_nI hb (by omega), vp_in_nI hn (by omega), vp_in_nI hb (by omega), fun z => ?_, fun z => ?_⟩
  · have e0 : tl = 0 := by
      rw [show (0 : Int32) = nI 0 from by decide] at z
      have := (nI_leI (a := tl) (b := 0) (by omega) (by omega)).mp z
      omega
    subst e0
    exact hq
  · obtain ⟨k, rfl⟩ : ∃ k, tl = k + 1 := by
      rw [show (0 : Int32) = nI 0 from by decide] at z
      have := mt (nI_leI (a := tl) (b := 0) (by omega) (by omega)).mpr z
      exact ⟨tl - 1, by omega⟩
    rw [nI_pred]
    exact hq
/-- an item opens, on the reference's side -/
abbrev opJ (J : Nat → Int32) : Nat → Int32 := upd (upd (upd (upd J 8 (J 8 + 1)) 11 0) 12 0) 15 0
abbrev opBB (B : Nat → Nat → Int32) (n : Nat) : Nat → Nat → Int32 := upd2 (upd2 (upd2 B 7 n 0) 8 n 0) 9 n 0
theorem mopenItem_ok {post : (Nat → Int32) → (Nat → Nat → Int32) → Prop} {n : Nat} (h8 : J 8 = nI n) (hn : n < 48) (hq : post (opJ J) (opBB B n)) : wp_TuneSetterModel_openItem J B post := by
  have v := vp_in_nI (n := n) (N := 48) hn (by omega)
  unfold wp_TuneSetterModel_openItem
  rw [h8, nI_clamp (by omega)]
  unfold opJ at hq
  rw [h8] at hq
  exact ⟨v, v, v, hq⟩
end RF

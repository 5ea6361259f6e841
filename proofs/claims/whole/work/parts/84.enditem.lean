/-! an item ends, on the class's side -/
def tickV (tp bt un : Nat) (tr : Bool) : Nat := if bt * (if tr then 3 else 1) = 0 ∨ ¬ (tp * un * (if tr then 2 else 1)) % (bt * (if tr then 3 else 1)) = 0 ∨ 1536 < (tp * un * (if tr then 2 else 1)) / (bt * (if tr then 3 else 1)) then 0 else (tp * un * (if tr then 2 else 1)) / (bt * (if tr then 3 else 1))
theorem tickV_le (tp bt un : Nat) (tr : Bool) : tickV tp bt un tr ≤ 1536 := by
  unfold tickV
  generalize (bt * _) = y
  generalize (tp * un * _) = x
  split <;> omega
section EI
variable {I : Nat → Int32} {A : Nat → Nat → Int32}
theorem ticks30 {post : Int32 → (Nat → Int32) → (Nat → Nat → Int32) → Prop} {a b m : Nat} (ha : a < 2 ^ 31) (hb : b * m < 2 ^ 31) (hq : post (nI (if b * m = 0 ∨ ¬ a % (b * m) = 0 ∨ 1536 < a / (b * m) then 0 else a / (b * m))) I A) : wp_ItemLength_inTicks_30 post (nI a) (nI m) (nI b) I A := by
  intro v hv
  rw [pk_mul] at hv
  subst hv
  by_cases h0 : b * m = 0
  · rw [if_pos (Or.inl h0)] at hq
    exact ⟨fun _ => hq, fun z => absurd (by rw [h0]; decide) z⟩
  · have hne : ¬ nI (b * m) = 0 := nI_ne0 (by omega) hb
    have hdl := Nat.div_le_self a (b * m)
    rw [pk_rem ha (by omega) hb, pk_div ha (by omega) hb]
    refine ⟨fun z => absurd z hne, fun _ => ⟨hne, fun z => ⟨hne, fun z2 => ⟨hne, ?_⟩, fun z2 => ?_⟩, fun z => ?_⟩⟩
    · have e1 : a % (b * m) = 0 := by
        rw [show (0 : Int32) = nI 0 from by decide] at z
        exact (nI_eq (by have := Nat.mod_lt a (show 0 < b * m by omega); omega) (by omega)).mp z
      have e2 : a / (b * m) ≤ 1536 := by
        rw [show (1536 : Int32) = nI 1536 from by decide] at z2
        exact (nI_leI (by omega) (by omega)).mp z2
      rw [if_neg (fun h => by rcases h with h | h | h; exact h0 h; exact h e1; omega)] at hq
      exact hq
    · have e2 : ¬ a / (b * m) ≤ 1536 := by
        rw [show (1536 : Int32) = nI 1536 from by decide] at z2
        exact mt (nI_leI (by omega) (by omega)).mpr z2
      rw [if_pos (Or.inr (Or.inr (by omega)))] at hq
      exact hq
    · have e1 : ¬ a % (b * m) = 0 := by
        rw [show (0 : Int32) = nI 0 from by decide] at z
        exact mt (nI_eq (by have := Nat.mod_lt a (show 0 < b * m by omega); omega) (by omega)).mpr z
      rw [if_pos (Or.inr (Or.inl e1))] at hq
      exact hq
theorem inTicks_ok {post : Int32 → (Nat → Int32) → (Nat → Nat → Int32) → Prop} {tp bt un : Nat} {tr : Bool} {x1 x2 : Int32} (h9 : I 9 = nI tp) (h10 : I 10 = nI bt) (htp : tp ≤ 999) (hbt : bt ≤ 999) (hun : un ≤ 96) (hx1 : x1 = nI un) (hx2 : x2 = if tr then 1 else 0) (hq : post (nI (tickV tp bt un tr)) I A) : wp_ItemLength_inTicks x1 x2 I A post := by
  have hm : tp * un ≤ 999 * 96 := Nat.mul_le_mul htp hun
  subst hx1
  unfold tickV at hq
  unfold wp_ItemLength_inTicks
  rw [h9, h10, pk_mul]
  cases tr with
  | false =>
    simp only [Bool.false_eq_true, if_false] at hq hx2
    subst hx2
    refine ⟨fun _ v hv => ⟨fun _ => ?_, fun z => absurd rfl z⟩, fun z => absurd rfl z⟩
    rw [hv, show (1 : Int32) = nI 1 from by decide, pk_mul]
    exact ticks30 (by omega) (by omega) hq
  | true =>
    simp only [if_true] at hq hx2
    subst hx2
    refine ⟨fun z => absurd z (by decide), fun _ v hv => ⟨fun z => absurd z (by decide), fun _ => ?_⟩⟩
    rw [hv, show (2 : Int32) = nI 2 from by decide, pk_mul, show (3 : Int32) = nI 3 from by decide]
    exact ticks30 (by omega) (by omega) hq
/-- the bar k grows by w: nothing else -/
def wid (A A1 : Nat → Nat → Int32) (k : Nat) (w : Int32) : Prop := (∀ a, a ≠ 7 → A1 a = A a) ∧ A1 7 k = A 7 k + w ∧ ∀ x, x ≠ k → A1 7 x = A 7 x
theorem widen_ok {post : (Nat → Int32) → (Nat → Nat → Int32) → Prop} {b : Nat} {w : Int32} (hb : I 0 = nI (b + 1)) (hb8 : b < 8) (hq : ∀ A1, wid A A1 b w → post I A1) : wp_Tune_widen w I A post := by
  have v := vp_in_nI (n := b) (N := 8) hb8 (by omega)
  unfold wp_Tune_widen
  rw [hb, nI_pred, nI_clamp (by omega)]
  refine ⟨fun z => absurd z (nI_nle (by omega) (by omega)), fun _ => ⟨v, v, hq _ ⟨fun a ha => upd2_ne ha, ?_, fun x hx => ?_⟩⟩⟩
  · rw [upd2_eq, upd_eq]
  · rw [upd2_eq, upd_ne hx]
/-- how often a number can be halved -/
def hlv : Nat → Nat → Nat
  | 0, _ => 0
  | n + 1, h => if h = 0 then 0 else 1 + hlv n (h / 2)
theorem hlv_lgw {t : Nat} (ht : t ≤ 1536) : hlv 7 (t / 48) = lgw t := by
  have key : ∀ h, h < 33 → hlv 7 h = if h < 1 then 0 else if h < 2 then 1 else if h < 4 then 2 else if h < 8 then 3 else if h < 16 then 4 else if h < 32 then 5 else 6 := by decide
  rw [key (t / 48) (by omega)]
  unfold lgw
  repeat' split
  all_goals omega
theorem ticks47 {post : (Nat → Int32) → (Nat → Nat → Int32) → Prop} {b : Nat} (hb : I 0 = nI (b + 1)) (hb8 : b < 8) : ∀ (n h w : Nat) (A A0 : Nat → Nat → Int32), h < 2 ^ n → h < 100 → wid A0 A b (nI w) → (∀ A1, wid A0 A1 b (nI (w + hlv n h)) → post I A1) → wp_Tune_setTicks_47 post (n + 1) (nI h) I A := by
  intro n
  induction n with
  | zero =>
    intro h w A A0 hh hh2 hw hq
    have : h = 0 := by simpa using hh
    subst this
    unfold wp_Tune_setTicks_47
    exact ⟨fun _ => hq A (by simpa [hlv] using hw), fun z => absurd (by decide) z⟩
  | succ n ih =>
    intro h w A A0 hh hh2 hw hq
    unfold wp_Tune_setTicks_47
    by_cases h0 : h = 0
    · subst h0
      exact ⟨fun _ => hq A (by simpa [hlv] using hw), fun z => absurd (by decide) z⟩
    · refine ⟨fun z => absurd z (nI_nle (by omega) (by omega)), fun _ => ?_⟩
      refine widen_ok hb hb8 (fun A1 g => ?_)
      intro v hv
      rw [hv, nd (g := h) (d := 2) (by omega) (by omega) (by omega) 2 (by decide)]
      refine ih (h / 2) (w + 1) A1 A0 (by rw [Nat.pow_succ] at hh; omega) (by omega) ⟨fun a ha => (g.1 a ha).trans (hw.1 a ha), ?_, fun x hx => (g.2.2 x hx).trans (hw.2.2 x hx)⟩ (fun A2 k => hq A2 ?_)
      · rw [g.2.1, hw.2.1, ← nI_1]
        grind
      · have : w + hlv (n + 1) h = w + 1 + hlv n (h / 2) := by
          show w + (if h = 0 then 0 else 1 + hlv n (h / 2)) = _
          rw [if_neg h0]; omega
        rw [this]
        exact k
/-- an item of t ticks has ended: A1 -/
def edA (A A1 : Nat → Nat → Int32) (b i t : Nat) : Prop := (∀ a, a ≠ 6 → a ≠ 7 → a ≠ 10 → A1 a = A a) ∧ A1 10 = upd (A 10) i (nI t) ∧ A1 6 = upd (A 6) b (A 6 b + nI t) ∧ A1 7 b = A 7 b + nI (lgw t) ∧ ∀ x, x ≠ b → A1 7 x = A 7 x
theorem setTicks_ok {post : (Nat → Int32) → (Nat → Nat → Int32) → Prop} {b i t : Nat} (hb : I 0 = nI (b + 1)) (hb8 : b < 8) (hi : I 1 = nI (i + 1)) (hi8 : i < 48) (ht : t ≤ 1536) (hq : ∀ A1, edA A A1 b i t → post I A1) : wp_Tune_setTicks (nI t) I A post := by
  unfold wp_Tune_setTicks
  rw [hb, hi, nI_pred, nI_pred, nI_clamp (by omega), nI_clamp (by omega)]
  have v := vp_in_nI (n := b) (N := 8) hb8 (by omega)
  refine ⟨fun z => absurd z (nI_ne0 (by omega) (by omega)), fun _ => ⟨fun z => absurd z (nI_ne0 (by omega) (by omega)), fun _ => ⟨vp_in_nI hi8 (by omega), v, v, fun w hw => ⟨8, ?_⟩⟩⟩⟩
  rw [hw, nd (g := t) (d := 48) (by omega) (by omega) (by omega) 48 (by decide)]
  refine ticks47 hb hb8 7 (t / 48) 0 _ (upd2 (upd2 A 10 i (nI t)) 6 b (A 6 b + nI t)) (by omega) (by omega) ⟨fun _ _ => rfl, by rw [show nI 0 = (0 : Int32) from by decide]; grind, fun _ _ => rfl⟩ (fun A1 g => hq A1 ⟨fun a a1 a2 a3 => ?_, ?_, ?_, ?_, fun x hx => ?_⟩)
  · rw [g.1 a a2, upd2_ne a1, upd2_ne a3]
  · rw [g.1 10 (by decide), upd2_ne (by decide), upd2_eq]
  · rw [g.1 6 (by decide), upd2_eq, upd2_ne (by decide)]
  · rw [g.2.1, Nat.zero_add, hlv_lgw ht, upd2_ne (by decide), upd2_ne (by decide)]
  · rw [g.2.2 x hx, upd2_ne (by decide), upd2_ne (by decide)]
theorem endItem_ok {post : (Nat → Int32) → (Nat → Nat → Int32) → Prop} {b i tp bt un tl : Nat} (hb : I 0 = nI (b + 1)) (hb8 : b < 8) (hi : I 1 = nI (i + 1)) (hi8 : i < 48) (h9 : I 9 = nI tp) (h10 : I 10 = nI bt) (htp : tp ≤ 999) (hbt : bt ≤ 999) (h13 : I 13 = nI un) (hun : un ≤ 96) (h17 : I 17 = nI tl) (htl : tl ≤ 3)
    (hbad : tickV tp bt un (decide (0 < tl)) = 0 → failed (-3) (I 15) post I A) (hq : 0 < tickV tp bt un (decide (0 < tl)) → ∀ A1, edA A A1 b i (tickV tp bt un (decide (0 < tl))) → post (upd (upd I 21 0) 17 (nI (tl - 1))) A1) : wp_Reader_endItem I A post := by
  have hle := tickV_le tp bt un (decide (0 < tl))
  have body : ∀ s0 : Int32, (s0 = if decide (0 < tl) then 1 else 0) → wp_Reader_endItem_20 post s0 (I 13) I A := by
    intro s0 hs0
    refine inTicks_ok h9 h10 htp hbt hun h13 hs0 ?_
    generalize tickV tp bt un (decide (0 < tl)) = t at *
    refine ⟨fun z => ?_, fun z => ?_⟩
    · refine hbad ?_
      rw [show (0 : Int32) = nI 0 from by decide] at z
      exact (nI_eq (by omega) (by omega)).mp z
    · have ht : 0 < t := by
        rw [show (0 : Int32) = nI 0 from by decide] at z
        have := mt (nI_eq (a := t) (b := 0) (by omega) (by omega)).mpr z
        omega
      refine setTicks_ok hb hb8 hi hi8 hle (fun A1 g => ?_)
      rw [h17]
      refine ⟨fun z2 => ?_, fun z2 => ?_⟩
      · have e : tl = 0 := by
          rw [show (0 : Int32) = nI 0 from by decide] at z2
          have := (nI_leI (a := tl) (b := 0) (by omega) (by omega)).mp z2
          omega
        have := hq ht A1 g
        rw [e] at this
        have e2 : upd (upd I 21 0) 17 (nI (0 - 1)) = upd I 21 0 := by
          funext j
          unfold upd
          by_cases hj : j = 17
          · subst hj; rw [h17, e]; rfl
          · simp [hj]
        rw [e2] at this
        exact this
      · obtain ⟨k, rfl⟩ : ∃ k, tl = k + 1 := by
          rw [show (0 : Int32) = nI 0 from by decide] at z2
          have := mt (nI_leI (a := tl) (b := 0) (by omega) (by omega)).mpr z2
          exact ⟨tl - 1, by omega⟩
        rw [nI_pred]
        exact hq ht A1 g
  unfold wp_Reader_endItem
  rw [h17]
  refine ⟨fun z => body 0 ?_, fun z => body 1 ?_⟩
  · have e : tl = 0 := by
      rw [show (0 : Int32) = nI 0 from by decide] at z
      have := (nI_leI (a := tl) (b := 0) (by omega) (by omega)).mp z
      omega
    subst e; rfl
  · have e : 0 < tl := by
      rw [show (0 : Int32) = nI 0 from by decide] at z
      have := mt (nI_leI (a := tl) (b := 0) (by omega) (by omega)).mpr z
      omega
    rw [decide_eq_true e]; rfl
end EI

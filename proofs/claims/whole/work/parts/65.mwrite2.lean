/-! the reference's file: what is found is written, as often as it is there -/
theorem evsB_rep (x : Nat) (M : List Nat) : ∀ (m t : Nat), evsB t (List.replicate (m + 1) x ++ M) = evsB t (List.replicate (m + 1) x) ++ evsB (x / 256) M := by
  intro m
  induction m with
  | zero => intro t; simp [evsB, List.replicate]
  | succ m ih =>
    intro t
    rw [List.replicate_succ, List.cons_append, evsB, ih, evsB, List.append_assoc]
theorem sorted_split {x : Nat} : ∀ (M : List Nat), M.Pairwise (· ≤ ·) → (∀ y ∈ M, x ≤ y) → M = List.replicate (M.count x) x ++ M.filter (fun y => decide (x < y)) := by
  intro M
  induction M with
  | nil => intro _ _; rfl
  | cons y r ih =>
    intro hs hge
    rw [List.pairwise_cons] at hs
    have hy := hge y List.mem_cons_self
    by_cases e : y = x
    · subst e
      rw [List.count_cons_self, List.replicate_succ, List.filter_cons, if_neg (by simp), List.cons_append]
      congr 1
      exact ih hs.2 (fun z hz => hge z (List.mem_cons_of_mem _ hz))
    · have h0 : (y :: r).count x = 0 := List.count_eq_zero_of_not_mem (fun h => by
        rcases List.mem_cons.mp h with h | h
        · exact e h.symm
        · have := hs.1 x h; omega)
      rw [h0, List.replicate_zero, List.nil_append, List.filter_eq_self.mpr]
      intro z hz
      rcases List.mem_cons.mp hz with h | h
      · subst h; exact decide_eq_true (by omega)
      · have := hs.1 z h; exact decide_eq_true (by omega)
section MX
variable {k24 : Int32 → Int64 → Int32 → (Nat → Int32) → (Nat → Nat → Int32) → Prop} {post : Int32 → (Nat → Int32) → (Nat → Nat → Int32) → Prop}
theorem copy_loop {x q : Nat} (hx : x < 300000000) (hq : q ≤ 128) {more : Int32} : ∀ (m k t n : Nat) (J : Nat → Int32) (B : Nat → Nat → Int32), k + m = q → t ≤ x / 256 → J 26 = nI n → n + 6 * m ≤ 890 → (∀ J1 B1, Put 26 17 J B J1 B1 n (evsB t (List.replicate m x)) → k24 (nI (if m = 0 then t else x / 256)) (lN x) more J1 B1) → wp_TuneSetterModel_write_126 k24 post (m + 1) (nI t) more (lN x) (nI q) (nI k) J B := by
  intro m
  induction m with
  | zero =>
    intro k t n J B hk ht h26 hn hp
    unfold wp_TuneSetterModel_write_126
    exact ⟨fun _ => hp J B (Put.nil h26), fun z => absurd (nI_le (by omega) (by omega)) z⟩
  | succ m ih =>
    intro k t n J B hk ht h26 hn hp
    unfold wp_TuneSetterModel_write_126
    refine ⟨fun z => absurd z (nI_ge (by omega) (by omega)), fun _ w hw => ?_⟩
    rw [show (256 : Int64) = lN 256 from by decide, pk_lDiv (by omega) (by omega) (by omega), lN_i] at hw
    subst hw
    refine emitGap_ok (g := x / 256 - t) h26 (by omega) (by omega) (pk_sub ht) (fun J1 B1 h1 => ?_)
    have gl := gapB_len (x / 256 - t)
    have rest : ∀ s0 : Int32, s0 = nI (if x / 128 % 2 = 1 then 144 else 128) → wp_TuneSetterModel_write_175 k24 (fun y1 y4 y5 y7 y8 I A => wp_TuneSetterModel_write_126 k24 post (m + 1) y1 y4 y5 y7 y8 I A) post more (lN x) (nI q) (nI k) (nI (x / 256)) s0 J1 B1 := by
      intro s0 hs0
      refine emit_ok h1.2.1 (by omega) (by split <;> omega) hs0 (fun J2 B2 h2 => ?_)
      refine emit_ok (v := x % 128) h2.2.1 (by simp; omega) (by omega) (by rw [show (128 : Int64) = lN 128 from by decide, pk_lRem (by omega) (by omega) (by omega), lN_i]) (fun J3 B3 h3 => ?_)
      refine emit_ok (v := 64) h3.2.1 (by simp; omega) (by omega) (by decide) (fun J4 B4 h4 => ?_)
      intro w hw
      rw [hw, nI_1]
      have hall : Put 26 17 J B J4 B4 n (evB t x) := h1.trans (h2.trans (h3.trans h4 rfl) rfl) rfl
      have el := evB_len t x
      refine ih (k + 1) (x / 256) (n + (evB t x).length) J4 B4 (by omega) (Nat.le_refl _) hall.2.1 (by omega) (fun J5 B5 h5 => ?_)
      have := hp J5 B5 (by rw [List.replicate_succ, evsB]; exact hall.trans h5 rfl)
      rw [if_neg (by omega)] at this
      rw [ite_self]
      exact this
    have hcmp : lg_cmp (lN x / 128 - lN x / 128 / 2 * 2) 1 = 0 ↔ x / 128 % 2 = 1 := by
      rw [lg_cmp_eq, show (128 : Int64) = lN 128 from by decide, pk_lDiv (by omega) (by omega) (by omega), show (2 : Int64) = lN 2 from by decide, pk_lRem (by omega) (by omega) (by omega), show (1 : Int64) = lN 1 from by decide, pk_lEQ (by omega) (by omega)]
    rw [hcmp]
    refine ⟨fun z => rest 144 ?_, fun z => rest 128 ?_⟩
    · rw [if_pos z]; decide
    · rw [if_neg z]; decide
end MX
theorem filter_gt {l : List Nat} {la : Option Nat} {x : Nat} (h : gtL la x = true) : (l.filter (gtL la)).filter (fun y => decide (x < y)) = l.filter (gtL (some x)) := by
  rw [List.filter_filter]
  congr 1
  funext y
  cases la with
  | none => simp [gtL]
  | some z =>
    simp only [gtL, decide_eq_true_eq] at h
    simp only [gtL]
    by_cases e : x < y
    · simp [e]; omega
    · simp [e]
theorem outer_loop {post : Int32 → (Nat → Int32) → (Nat → Nat → Int32) → Prop} {o d p : Nat → Nat} {c : Nat} {l : List Nat} (hc : c ≤ 64) (hb : ∀ i, i < c → o i + d i ≤ 800000 ∧ p i < 128) (hs : l.Pairwise (· ≤ ·)) (hpm : l.Perm (evL o d p c)) :
    ∀ (m : Nat) (la : Option Nat) (t n : Nat) (J : Nat → Int32) (B : Nat → Nat → Int32), (l.filter (gtL la)).length ≤ m → (∀ x, la = some x → x < 300000000) → (∀ y ∈ l.filter (gtL la), t ≤ y / 256) → MNotes c o d p B → J 25 = nI c → J 26 = nI n → n + 6 * (l.filter (gtL la)).length ≤ 890 → (∀ (t1 : Int32) (a1 : Int64) (f : Nat) (J1 : Nat → Int32) (B1 : Nat → Nat → Int32), Put 26 17 J B J1 B1 n (evsB t (l.filter (gtL la))) → wp_TuneSetterModel_write_24 post (f + 1) t1 a1 0 J1 B1) → wp_TuneSetterModel_write_24 post (m + 2) (nI t) (laI la) 1 J B := by
  intro m
  induction m with
  | zero =>
    intro la t n J B hm hla ht hB h25 h26 hn hp
    have hnil : l.filter (gtL la) = [] := List.length_eq_zero_iff.mp (by omega)
    unfold wp_TuneSetterModel_write_24
    refine ⟨fun z => absurd z (by decide), fun _ => ⟨2 * c + 1, ?_⟩⟩
    refine search_loop hc hb hB h25 hla (fun y5 y7 hl => ?_) (2 * c) 0 (-1) 0 (by omega) (Or.inl ⟨by simp, rfl, rfl⟩)
    have he : (evL o d p c).filter (gtL la) = [] := List.length_eq_zero_iff.mp (by rw [← (hpm.filter (gtL la)).length_eq, hnil]; rfl)
    rw [he] at hl
    rcases hl with ⟨-, e2, e3⟩ | ⟨x, x1, -⟩
    · subst e2; subst e3
      refine ⟨fun _ => ⟨1, ?_⟩, fun z => absurd (by decide) z⟩
      unfold wp_TuneSetterModel_write_126
      refine ⟨fun _ => hp _ _ 0 J B ?_, fun z => absurd (by decide) z⟩
      rw [hnil]
      exact Put.nil h26
    · cases x1
  | succ m ih =>
    intro la t n J B hm hla ht hB h25 h26 hn hp
    unfold wp_TuneSetterModel_write_24
    refine ⟨fun z => absurd z (by decide), fun _ => ⟨2 * c + 1, ?_⟩⟩
    refine search_loop hc hb hB h25 hla (fun y5 y7 hl => ?_) (2 * c) 0 (-1) 0 (by omega) (Or.inl ⟨by simp, rfl, rfl⟩)
    have hpf := hpm.filter (gtL la)
    have hlen : l.length = 2 * c := by rw [hpm.length_eq, evL_len]
    rcases hl with ⟨e1, e2, e3⟩ | ⟨x, x1, x2, x3, x4⟩
    · subst e2; subst e3
      have hnil : l.filter (gtL la) = [] := List.length_eq_zero_iff.mp (by rw [hpf.length_eq, e1]; rfl)
      refine ⟨fun _ => ⟨1, ?_⟩, fun z => absurd (by decide) z⟩
      unfold wp_TuneSetterModel_write_126
      refine ⟨fun _ => hp _ _ (m + 1) J B ?_, fun z => absurd (by decide) z⟩
      rw [hnil]
      exact Put.nil h26
    · subst x3; subst x4
      have hxb : x < 300000000 := evL_lt hb x (List.mem_filter.mp x1).1
      have hgx : gtL la x = true := (List.mem_filter.mp x1).2
      have hx0 : ¬ lN x < 0 := by
        rw [Int64.lt_iff_toInt_lt, pk_lT (by omega), Int64.toInt_zero]; omega
      have hcnt : (evL o d p c |>.filter (gtL la)).count x = (l.filter (gtL la)).count x := (hpf.count_eq x).symm
      have hmem : x ∈ l.filter (gtL la) := hpf.mem_iff.mpr x1
      have hge : ∀ y ∈ l.filter (gtL la), x ≤ y := fun y hy => x2 y (hpf.mem_iff.mp hy)
      have hsp := sorted_split (l.filter (gtL la)) (hs.filter _) hge
      rw [filter_gt hgx] at hsp
      rw [hcnt]
      have hpos : 0 < (l.filter (gtL la)).count x := List.count_pos_iff.mpr hmem
      have hfl : (l.filter (gtL la)).length ≤ 2 * c := by rw [← hlen]; exact List.length_filter_le _ _
      have hl2 := congrArg List.length hsp
      rw [List.length_append, List.length_replicate] at hl2
      have ht2 : ∀ y ∈ l.filter (gtL (some x)), x / 256 ≤ y / 256 := by
        intro y hy
        have := (List.mem_filter.mp hy).2
        simp only [gtL, decide_eq_true_eq] at this
        omega
      generalize hq : (l.filter (gtL la)).count x = q at *
      refine ⟨fun z => absurd z hx0, fun _ => ⟨q + 1, ?_⟩⟩
      rw [show (0 : Int32) = nI 0 from by decide]
      refine copy_loop hxb (by omega) q 0 t n J B (by omega) (ht x hmem) h26 (by omega) (fun J1 B1 h1 => ?_)
      rw [if_neg (by omega)]
      have hB1 : MNotes c o d p B1 := by
        intro k hk
        rw [h1.2.2.1 13 (by decide), h1.2.2.1 14 (by decide), h1.2.2.1 15 (by decide)]
        exact hB k hk
      have el := evsB_len (List.replicate q x) t
      rw [List.length_replicate] at el
      refine ih (some x) (x / 256) (n + (evsB t (List.replicate q x)).length) J1 B1 (by omega) (fun y hy => by cases hy; exact hxb) ht2 hB1 (by rw [h1.1 25 (by decide)]; exact h25) h1.2.1 (by omega) (fun t1 a1 f J2 B2 h2 => hp t1 a1 f J2 B2 ?_)
      have hsq : q = (q - 1) + 1 := by omega
      rw [hsp]
      have hr := evsB_rep x (l.filter (gtL (some x))) (q - 1) t
      rw [← hsq] at hr
      rw [hr]
      exact h1.trans h2 rfl

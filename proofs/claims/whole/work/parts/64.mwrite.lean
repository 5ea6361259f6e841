/-! the reference's file -/
theorem evL_at (o d p : Nat → Nat) (c : Nat) : ∀ i, i < c → (evL o d p c).getD (2 * i) 0 = o i * 256 + 128 + p i ∧ (evL o d p c).getD (2 * i + 1) 0 = (o i + d i) * 256 + p i := by
  induction c with
  | zero => intro i hi; omega
  | succ n ih =>
    intro i hi
    have hl := evL_len o d p n
    rw [evL]
    by_cases e : i = n
    · subst e
      constructor
      · rw [List.getD_eq_getElem?_getD, List.getElem?_append_right (by omega), hl]; simp
      · rw [List.getD_eq_getElem?_getD, List.getElem?_append_right (by omega), hl]; simp
    · obtain ⟨h1, h2⟩ := ih i (by omega)
      constructor
      · rw [List.getD_eq_getElem?_getD, List.getElem?_append_left (by omega), ← List.getD_eq_getElem?_getD]; exact h1
      · rw [List.getD_eq_getElem?_getD, List.getElem?_append_left (by omega), ← List.getD_eq_getElem?_getD]; exact h2
/-- the notes as the reference holds them -/
def MNotes (c : Nat) (o d p : Nat → Nat) (B : Nat → Nat → Int32) : Prop := ∀ k, k < c → B 13 k = nI (o k) ∧ B 14 k = nI (d k) ∧ B 15 k = nI (p k)
theorem order_ok {post : Int64 → (Nat → Int32) → (Nat → Nat → Int32) → Prop} {o d p : Nat → Nat} {c e : Nat} {J : Nat → Int32} {B : Nat → Nat → Int32} (hc : c ≤ 64) (hb : ∀ i, i < c → o i + d i ≤ 800000 ∧ p i < 128) (hB : MNotes c o d p B) (he : e < 2 * c) (hp : post (lN ((evL o d p c).getD e 0)) J B) : wp_TuneSetterModel_order (nI e) J B post := by
  obtain ⟨b1, b2, b3⟩ := hB (e / 2) (by omega)
  obtain ⟨c1, c2⟩ := hb (e / 2) (by omega)
  obtain ⟨a1, a2⟩ := evL_at o d p c (e / 2) (by omega)
  have v := vp_in_nI (n := e / 2) (N := 64) (by omega) (by omega)
  unfold wp_TuneSetterModel_order
  rw [nm (g := e) (d := 2) (by omega) (by omega) (by omega) 2 (by decide), nd (g := e) (d := 2) (by omega) (by omega) (by omega) 2 (by decide)]
  intro w hw
  subst hw
  unfold wp_TuneSetterModel_order_15 wp_TuneSetterModel_order_44
  rw [nI_clamp (by omega), b1, b2, b3, nI_add, nI_l (by omega), nI_l (by omega), nI_l (by omega)]
  refine ⟨fun q => ?_, fun q => ?_⟩
  · have : e % 2 = 0 := by rw [show (0 : Int32) = nI 0 from by decide] at q; exact (nI_eq (by omega) (by omega)).mp q
    refine ⟨fun z => absurd z (by decide), fun _ => ⟨v, fun z => absurd z (by decide), fun _ => ⟨v, ?_⟩⟩⟩
    rw [show (256 : Int64) = lN 256 from by decide, show (128 : Int64) = lN 128 from by decide, lN_mul, lN_add, lN_add, ← a1, show 2 * (e / 2) = e by omega]
    exact hp
  · have : ¬ e % 2 = 0 := by rw [show (0 : Int32) = nI 0 from by decide] at q; exact mt (nI_eq (by omega) (by omega)).mpr q
    refine ⟨fun _ => ⟨v, v, fun _ => ⟨v, ?_⟩, fun z => absurd rfl z⟩, fun z => absurd rfl z⟩
    rw [show (256 : Int64) = lN 256 from by decide, show (0 : Int64) = lN 0 from by decide, lN_mul, lN_add, lN_add, Nat.add_zero, ← a2, show 2 * (e / 2) + 1 = e by omega]
    exact hp
/-- above the last one that was written -/
def gtL (la : Option Nat) (v : Nat) : Bool := match la with
  | none => true
  | some x => decide (x < v)
def laI (la : Option Nat) : Int64 := match la with
  | none => -1
  | some x => lN x
theorem laI_le {la : Option Nat} (hla : ∀ x, la = some x → x < 300000000) {v : Nat} (hv : v < 300000000) : lN v ≤ laI la ↔ gtL la v = false := by
  cases la with
  | none =>
    show lN v ≤ -1 ↔ true = false
    have h := pk_lT (n := v) (by omega)
    rw [Int64.le_iff_toInt_le, h, show (-1 : Int64).toInt = -1 from by decide]
    constructor
    · intro q; omega
    · intro q; cases q
  | some x =>
    have := hla x rfl
    show lN v ≤ lN x ↔ decide (x < v) = false
    rw [pk_lLE (by omega) (by omega)]
    simp
/-- what the search has found among P -/
def Least (P : List Nat) (y5 : Int64) (y7 : Int32) : Prop := (P = [] ∧ y5 = -1 ∧ y7 = 0) ∨ ∃ x, x ∈ P ∧ (∀ y ∈ P, x ≤ y) ∧ y5 = lN x ∧ y7 = nI (P.count x)
section MW
variable {k24 : Int32 → Int64 → Int32 → (Nat → Int32) → (Nat → Nat → Int32) → Prop} {post : Int32 → (Nat → Int32) → (Nat → Nat → Int32) → Prop} {J : Nat → Int32} {B : Nat → Nat → Int32}
theorem search_loop {o d p : Nat → Nat} {c : Nat} {la : Option Nat} {now : Int32} (hc : c ≤ 64) (hb : ∀ i, i < c → o i + d i ≤ 800000 ∧ p i < 128) (hB : MNotes c o d p B) (hJ : J 25 = nI c) (hla : ∀ x, la = some x → x < 300000000)
    (hp : ∀ (y5 : Int64) (y7 : Int32), Least ((evL o d p c).filter (gtL la)) y5 y7 → ((y5 < 0 → ∃ n126, wp_TuneSetterModel_write_126 k24 post n126 now 0 y5 y7 0 J B) ∧ (¬ y5 < 0 → ∃ n126, wp_TuneSetterModel_write_126 k24 post n126 now 1 y5 y7 0 J B))) :
    ∀ (m e : Nat) (y5 : Int64) (y7 : Int32), e + m = 2 * c → Least (((evL o d p c).take e).filter (gtL la)) y5 y7 → wp_TuneSetterModel_write_40 k24 post (m + 1) now (laI la) y5 y7 (nI e) J B := by
  intro m
  induction m with
  | zero =>
    intro e y5 y7 he hl
    unfold wp_TuneSetterModel_write_40
    rw [hJ, show (2 : Int32) = nI 2 from by decide, pk_mul]
    refine ⟨fun _ => ?_, fun q => absurd (nI_le (by omega) (by omega)) q⟩
    rw [List.take_of_length_le (by rw [evL_len]; omega)] at hl
    have := hp y5 y7 hl
    rw [lg_cmp_lt]
    exact this
  | succ m ih =>
    intro e y5 y7 he hl
    unfold wp_TuneSetterModel_write_40
    rw [hJ, show (2 : Int32) = nI 2 from by decide, pk_mul]
    refine ⟨fun q => absurd q (nI_ge (by omega) (by omega)), fun _ => ?_⟩
    have hel : e < (evL o d p c).length := by rw [evL_len]; omega
    have hvb : (evL o d p c).getD e 0 < 300000000 := by rw [getD_at hel]; exact evL_lt hb _ (List.getElem_mem _)
    have htk : (evL o d p c).take (e + 1) = (evL o d p c).take e ++ [(evL o d p c).getD e 0] := by
      rw [List.take_succ_eq_append_getElem hel, getD_at hel]
    refine order_ok hc hb hB (by omega) ?_
    generalize (evL o d p c).getD e 0 = v at *
    have hlt : ∀ y ∈ ((evL o d p c).take e).filter (gtL la), y < 300000000 := fun y hy => evL_lt hb y (List.mem_of_mem_take (List.mem_filter.mp hy).1)
    generalize hP : ((evL o d p c).take e).filter (gtL la) = P at *
    have nextL : ∀ (y5' : Int64) (y7' : Int32), Least (P ++ [v].filter (gtL la)) y5' y7' → ∀ w : Int32, w = nI e + 1 → wp_TuneSetterModel_write_40 k24 post (m + 1) now (laI la) y5' y7' w J B := by
      intro y5' y7' hl' w hw
      rw [hw, nI_1]
      refine ih (e + 1) y5' y7' (by omega) ?_
      rw [htk, List.filter_append, hP]
      exact hl'
    rw [lg_cmp_le, laI_le hla hvb]
    refine ⟨fun hg => ?_, fun hg => ?_⟩
    · refine nextL y5 y7 ?_
      rw [List.filter_cons, hg]
      simpa using hl
    · have hg : gtL la v = true := by simpa using hg
      have hf : [v].filter (gtL la) = [v] := by rw [List.filter_cons, hg]; rfl
      rw [hf] at nextL
      rw [lg_cmp_lt, lg_cmp_gt]
      rcases hl with ⟨e1, e2, e3⟩ | ⟨x, x1, x2, x3, x4⟩
      · subst e1; subst e2; subst e3
        refine ⟨fun _ => ?_, fun z => absurd (by decide) z⟩
        unfold wp_TuneSetterModel_write_81
        rw [lg_cmp_eq]
        refine ⟨fun z => ?_, fun _ w hw => nextL (lN v) 1 (Or.inr ⟨v, by simp, by simp, rfl, ?_⟩) w hw⟩
        · exfalso
          have := congrArg Int64.toInt z
          rw [pk_lT (by omega), show (-1 : Int64).toInt = -1 from by decide] at this
          omega
        · rw [List.nil_append, List.count_cons_self, List.count_nil]; decide
      · subst x3; subst x4
        have hxb := hlt x x1
        have hx0 : ¬ lN x < 0 := by
          rw [Int64.lt_iff_toInt_lt, pk_lT (by omega), Int64.toInt_zero]; omega
        refine ⟨fun z => absurd z hx0, fun _ => ?_⟩
        rw [pk_lLT (by omega) (by omega)]
        refine ⟨fun hgt => nextL (lN x) (nI (P.count x)) (Or.inr ⟨x, List.mem_append_left _ x1, fun y hy => ?_, rfl, ?_⟩), fun hgt => ?_⟩
        · rcases List.mem_append.mp hy with h | h
          · exact x2 y h
          · have := List.mem_singleton.mp h; omega
        · rw [List.count_append, List.count_cons_of_ne (by omega)]; simp
        · unfold wp_TuneSetterModel_write_81
          rw [lg_cmp_eq, pk_lEQ (by omega) (by omega)]
          refine ⟨fun hvx a ha w hw => ?_, fun hvx w hw => ?_⟩
          · subst hvx
            rw [ha, nI_1]
            refine nextL (lN v) (nI (P.count v + 1)) (Or.inr ⟨v, List.mem_append_left _ x1, fun y hy => ?_, rfl, ?_⟩) w hw
            · rcases List.mem_append.mp hy with h | h
              · exact x2 y h
              · have := List.mem_singleton.mp h; omega
            · rw [List.count_append, List.count_cons_self]; simp
          · refine nextL (lN v) 1 (Or.inr ⟨v, by simp, fun y hy => ?_, rfl, ?_⟩) w hw
            · rcases List.mem_append.mp hy with h | h
              · have := x2 y h; omega
              · have := List.mem_singleton.mp h; omega
            · have : P.count v = 0 := List.count_eq_zero_of_not_mem (fun h => by have := x2 v h; omega)
              rw [List.count_append, this, List.count_cons_self, List.count_nil]; decide
end MW

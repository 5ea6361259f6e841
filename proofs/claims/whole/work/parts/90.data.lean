/-! what class and reference hold of a text in reading: the items and the bars' widths -/
def DIt (b n p : Nat) (q : Sc) (sg it fn : Nat → Nat) (A7 A8 A9 A10 A11 A12 B2 B6 B7 B8 B9 B10 : Nat → Int32) : Prop :=
  (b ≤ 8 ∧ n ≤ 48 ∧ it b = n ∧ fn n ≤ p)
  ∧ (∀ k, k ≤ b → A8 k = nI (it k))
  ∧ (∀ k, k < b → B2 k = nI (it k) ∧ it k ≤ it (k + 1) ∧ A7 k = nI (2 + wsum sg q.2.1 (it k) (it (k + 1) - it k)))
  ∧ (∀ i, i ≤ n → A9 i = nI (fn i) ∧ fn i ≤ fn n)
  ∧ (∀ i, i < n → fn (i + 1) = fn i + q.1 i ∧ q.1 i ≤ 4 ∧ (A11 i = if q.2.2.2 i then 1 else 0) ∧ (B7 i = if q.2.2.2 i then 1 else 0) ∧ B9 i = nI (q.1 i) ∧ B8 i = nI (sg i) ∧ sg i ≤ p ∧ q.2.1 i ≤ 1536 ∧ (0 < q.2.1 i → A10 i = nI (q.2.1 i) ∧ B6 i = nI (q.2.1 i)) ∧ ∀ k, k < q.1 i → A12 (fn i + k) = nI (q.2.2.1 i k) ∧ B10 (4 * i + k) = nI (q.2.2.1 i k) ∧ q.2.2.1 i k < 128)
theorem it_mono {it : Nat → Nat} {b : Nat} (h : ∀ k, k < b → it k ≤ it (k + 1)) : ∀ d j, j + d ≤ b → it j ≤ it (j + d) := by
  intro d
  induction d with
  | zero => intro j _; exact Nat.le_refl _
  | succ d ih => intro j hj; exact Nat.le_trans (ih j (by omega)) (h (j + d) (by omega))
theorem it_mono2 {it : Nat → Nat} {b j k : Nat} (h : ∀ k, k < b → it k ≤ it (k + 1)) (hjk : j ≤ k) (hk : k ≤ b) : it j ≤ it k := by
  have := it_mono h (k - j) j (by omega)
  rwa [show j + (k - j) = k from by omega] at this
theorem wsum_congr {sg sg2 tk tk2 : Nat → Nat} {i : Nat} : ∀ {n : Nat}, (∀ j, i ≤ j → j < i + n → sg j = sg2 j ∧ tk j = tk2 j) → wsum sg tk i n = wsum sg2 tk2 i n := by
  intro n
  induction n with
  | zero => intro _; rfl
  | succ n ih =>
    intro h
    show wsum sg tk i n + (3 + sg (i + n) + lgw (tk (i + n))) = wsum sg2 tk2 i n + (3 + sg2 (i + n) + lgw (tk2 (i + n)))
    rw [ih (fun j h1 h2 => h j h1 (by omega)), (h (i + n) (by omega) (by omega)).1, (h (i + n) (by omega) (by omega)).2]
section DI
variable {b n p : Nat} {q : Sc} {sg it fn : Nat → Nat} {A7 A8 A9 A10 A11 A12 B2 B6 B7 B8 B9 B10 : Nat → Int32}
theorem it_p {p2 : Nat} (h : DIt b n p q sg it fn A7 A8 A9 A10 A11 A12 B2 B6 B7 B8 B9 B10) (hp : p ≤ p2) : DIt b n p2 q sg it fn A7 A8 A9 A10 A11 A12 B2 B6 B7 B8 B9 B10 := by
  obtain ⟨⟨h1, h2, h3, h4⟩, h5, h6, h7, h8⟩ := h
  refine ⟨⟨h1, h2, h3, by omega⟩, h5, h6, h7, fun i hi => ?_⟩
  obtain ⟨k1, k2, k3, k4, k5, k6, k7, k8, k9, k10⟩ := h8 i hi
  exact ⟨k1, k2, k3, k4, k5, k6, by omega, k8, k9, k10⟩
theorem it_bar (h : DIt b n p q sg it fn A7 A8 A9 A10 A11 A12 B2 B6 B7 B8 B9 B10) (hb : b < 8) : DIt (b + 1) n p q sg (upN it (b + 1) n) fn (upd A7 b 2) (upd A8 (b + 1) (nI n)) A9 A10 A11 A12 (upd B2 b (nI n)) B6 B7 B8 B9 B10 := by
  obtain ⟨⟨h1, h2, h3, h4⟩, h5, h6, h7, h8⟩ := h
  refine ⟨⟨by omega, h2, upN_eq _ _ _, h4⟩, fun k hk => ?_, fun k hk => ?_, h7, h8⟩
  · by_cases e : k = b + 1
    · subst e; rw [upd_eq, upN_eq]
    · rw [upd_ne e, upN_ne e]; exact h5 k (by omega)
  · rw [upN_ne (show k ≠ b + 1 by omega)]
    by_cases e : k = b
    · subst e
      rw [upd_eq, upd_eq, upN_eq, h3]
      refine ⟨rfl, Nat.le_refl _, ?_⟩
      rw [Nat.sub_self]
      exact (by decide : (2 : Int32) = nI 2)
    · rw [upd_ne e, upd_ne e, upN_ne (show k + 1 ≠ b + 1 by omega)]
      exact h6 k (by omega)
/-- the score with a new item -/
abbrev qNew (q : Sc) (n : Nat) : Sc := (upN q.1 n 0, upN q.2.1 n 0, q.2.2.1, fun i => if i = n then false else q.2.2.2 i)
theorem it_item {b0 : Nat} (h : DIt (b0 + 1) n p q sg it fn A7 A8 A9 A10 A11 A12 B2 B6 B7 B8 B9 B10) (hn : n < 48) : DIt (b0 + 1) (n + 1) p (qNew q n) (upN sg n 0) (upN it (b0 + 1) (n + 1)) (upN fn (n + 1) (fn n)) (upd A7 b0 (A7 b0 + 3)) (upd A8 (b0 + 1) (nI (n + 1))) (upd A9 (n + 1) (nI (fn n))) A10 (upd A11 n 0) A12 B2 B6 (upd B7 n 0) (upd B8 n 0) (upd B9 n 0) B10 := by
  obtain ⟨⟨h1, h2, h3, h4⟩, h5, h6, h7, h8⟩ := h
  refine ⟨⟨h1, by omega, upN_eq _ _ _, by rw [upN_eq]; exact h4⟩, fun k hk => ?_, fun k hk => ?_, fun i hi => ?_, fun i hi => ?_⟩
  · by_cases e : k = b0 + 1
    · subst e; rw [upd_eq, upN_eq]
    · rw [upd_ne e, upN_ne e]; exact h5 k (by omega)
  · rw [upN_ne (show k ≠ b0 + 1 by omega)]
    obtain ⟨k1, k2, k3⟩ := h6 k hk
    by_cases e : k = b0
    · subst e
      rw [h3] at k2 k3
      rw [upd_eq, upN_eq]
      refine ⟨k1, by omega, ?_⟩
      rw [k3, show (3 : Int32) = nI 3 from by decide, nI_add]
      congr 1
      rw [show n + 1 - it k = (n - it k) + 1 from by omega]
      show _ = 2 + (wsum (upN sg n 0) (upN q.2.1 n 0) (it k) (n - it k) + (3 + upN sg n 0 (it k + (n - it k)) + lgw (upN q.2.1 n 0 (it k + (n - it k)))))
      rw [show it k + (n - it k) = n from by omega, upN_eq, upN_eq, wsum_congr (sg2 := sg) (tk2 := q.2.1) (fun j j1 j2 => ⟨upN_ne (by omega), upN_ne (by omega)⟩), show lgw 0 = 0 from rfl]
      omega
    · have hm := it_mono2 (fun k hk => (h6 k hk).2.1) (show k + 1 ≤ b0 + 1 by omega) (Nat.le_refl _)
      rw [h3] at hm
      rw [upd_ne e, upN_ne (show k + 1 ≠ b0 + 1 by omega)]
      refine ⟨k1, k2, ?_⟩
      rw [k3]
      congr 2
      exact wsum_congr (fun j j1 j2 => ⟨(upN_ne (by omega)).symm, (upN_ne (by omega)).symm⟩)
  · by_cases e : i = n + 1
    · subst e; rw [upd_eq, upN_eq]; exact ⟨rfl, Nat.le_refl _⟩
    · rw [upd_ne e, upN_ne e, upN_eq]; exact h7 i (by omega)
  · by_cases e : i = n
    · subst e
      show upN fn (i + 1) (fn i) (i + 1) = upN fn (i + 1) (fn i) i + upN q.1 i 0 i ∧ upN q.1 i 0 i ≤ 4 ∧ (upd A11 i 0 i = if (if i = i then false else q.2.2.2 i) then 1 else 0) ∧ (upd B7 i 0 i = if (if i = i then false else q.2.2.2 i) then 1 else 0) ∧ upd B9 i 0 i = nI (upN q.1 i 0 i) ∧ upd B8 i 0 i = nI (upN sg i 0 i) ∧ upN sg i 0 i ≤ p ∧ upN q.2.1 i 0 i ≤ 1536 ∧ (0 < upN q.2.1 i 0 i → A10 i = nI (upN q.2.1 i 0 i) ∧ B6 i = nI (upN q.2.1 i 0 i)) ∧ ∀ k, k < upN q.1 i 0 i → _
      simp only [upN_eq, upd_eq, upN_ne (show i ≠ i + 1 by omega), if_true]
      exact ⟨by omega, by omega, rfl, rfl, by decide, by decide, by omega, by omega, fun z => by omega, fun k hk => by omega⟩
    · have := h8 i (by omega)
      show upN fn (n + 1) (fn n) (i + 1) = upN fn (n + 1) (fn n) i + upN q.1 n 0 i ∧ upN q.1 n 0 i ≤ 4 ∧ (upd A11 n 0 i = if (if i = n then false else q.2.2.2 i) then 1 else 0) ∧ (upd B7 n 0 i = if (if i = n then false else q.2.2.2 i) then 1 else 0) ∧ upd B9 n 0 i = nI (upN q.1 n 0 i) ∧ upd B8 n 0 i = nI (upN sg n 0 i) ∧ upN sg n 0 i ≤ p ∧ upN q.2.1 n 0 i ≤ 1536 ∧ (0 < upN q.2.1 n 0 i → A10 i = nI (upN q.2.1 n 0 i) ∧ B6 i = nI (upN q.2.1 n 0 i)) ∧ ∀ k, k < upN q.1 n 0 i → A12 (upN fn (n + 1) (fn n) i + k) = _ ∧ _ ∧ _
      simp only [upN_ne e, upd_ne e, upN_ne (show i ≠ n + 1 by omega), upN_ne (show i + 1 ≠ n + 1 by omega), if_neg e]
      exact this
theorem it_sign {b0 n0 : Nat} {A7' : Nat → Int32} (h : DIt (b0 + 1) (n0 + 1) p q sg it fn A7 A8 A9 A10 A11 A12 B2 B6 B7 B8 B9 B10) (hit : it b0 ≤ n0) (e7 : A7' b0 = A7 b0 + 1) (o7 : ∀ x, x ≠ b0 → A7' x = A7 x) : DIt (b0 + 1) (n0 + 1) (p + 1) q (upN sg n0 (sg n0 + 1)) it fn A7' A8 A9 A10 A11 A12 B2 B6 B7 (upd B8 n0 (B8 n0 + 1)) B9 B10 := by
  obtain ⟨⟨h1, h2, h3, h4⟩, h5, h6, h7, h8⟩ := h
  refine ⟨⟨h1, h2, h3, by omega⟩, h5, fun k hk => ?_, h7, fun i hi => ?_⟩
  · obtain ⟨k1, k2, k3⟩ := h6 k hk
    by_cases e : k = b0
    · subst e
      rw [h3] at k2 k3
      rw [h3]
      refine ⟨k1, k2, ?_⟩
      rw [e7, k3, nI_1]
      congr 1
      rw [show n0 + 1 - it k = (n0 - it k) + 1 from by omega]
      show 2 + (wsum sg q.2.1 (it k) (n0 - it k) + (3 + sg (it k + (n0 - it k)) + lgw (q.2.1 (it k + (n0 - it k))))) + 1 = 2 + (wsum (upN sg n0 (sg n0 + 1)) q.2.1 (it k) (n0 - it k) + (3 + upN sg n0 (sg n0 + 1) (it k + (n0 - it k)) + lgw (q.2.1 (it k + (n0 - it k)))))
      rw [show it k + (n0 - it k) = n0 from by omega, upN_eq, wsum_congr (sg := upN sg n0 (sg n0 + 1)) (sg2 := sg) (tk2 := q.2.1) (fun j j1 j2 => ⟨upN_ne (by omega), rfl⟩)]
      omega
    · have hm := it_mono2 (fun k hk => (h6 k hk).2.1) (show k + 1 ≤ b0 by omega) (by omega)
      rw [o7 k e]
      refine ⟨k1, k2, ?_⟩
      rw [k3]
      congr 2
      exact wsum_congr (fun j j1 j2 => ⟨(upN_ne (by omega)).symm, rfl⟩)
  · obtain ⟨k1, k2, k3, k4, k5, k6, k7, k8, k9, k10⟩ := h8 i hi
    by_cases e : i = n0
    · subst e
      refine ⟨k1, k2, k3, k4, k5, ?_, ?_, k8, k9, k10⟩
      · rw [upd_eq, upN_eq, k6, nI_1]
      · rw [upN_eq]; omega
    · refine ⟨k1, k2, k3, k4, k5, ?_, ?_, k8, k9, k10⟩
      · rw [upd_ne e, upN_ne e]; exact k6
      · rw [upN_ne e]; omega
theorem it_done {b0 n0 t : Nat} {A7' : Nat → Int32} (h : DIt (b0 + 1) (n0 + 1) p q sg it fn A7 A8 A9 A10 A11 A12 B2 B6 B7 B8 B9 B10) (hit : it b0 ≤ n0) (h0 : q.2.1 n0 = 0) (ht : t ≤ 1536) (e7 : A7' b0 = A7 b0 + nI (lgw t)) (o7 : ∀ x, x ≠ b0 → A7' x = A7 x) : DIt (b0 + 1) (n0 + 1) p (q.1, upN q.2.1 n0 t, q.2.2.1, q.2.2.2) sg it fn A7' A8 A9 (upd A10 n0 (nI t)) A11 A12 B2 (upd B6 n0 (nI t)) B7 B8 B9 B10 := by
  obtain ⟨⟨h1, h2, h3, h4⟩, h5, h6, h7, h8⟩ := h
  refine ⟨⟨h1, h2, h3, by omega⟩, h5, fun k hk => ?_, h7, fun i hi => ?_⟩
  · obtain ⟨k1, k2, k3⟩ := h6 k hk
    by_cases e : k = b0
    · subst e
      rw [h3] at k2 k3
      rw [h3]
      refine ⟨k1, k2, ?_⟩
      rw [e7, k3, nI_add]
      congr 1
      rw [show n0 + 1 - it k = (n0 - it k) + 1 from by omega]
      show 2 + (wsum sg q.2.1 (it k) (n0 - it k) + (3 + sg (it k + (n0 - it k)) + lgw (q.2.1 (it k + (n0 - it k))))) + lgw t = 2 + (wsum sg (upN q.2.1 n0 t) (it k) (n0 - it k) + (3 + sg (it k + (n0 - it k)) + lgw (upN q.2.1 n0 t (it k + (n0 - it k)))))
      rw [show it k + (n0 - it k) = n0 from by omega, upN_eq, h0, wsum_congr (tk := upN q.2.1 n0 t) (sg2 := sg) (tk2 := q.2.1) (fun j j1 j2 => ⟨rfl, upN_ne (by omega)⟩), show lgw 0 = 0 from rfl]
      omega
    · have hm := it_mono2 (fun k hk => (h6 k hk).2.1) (show k + 1 ≤ b0 by omega) (by omega)
      rw [o7 k e]
      refine ⟨k1, k2, ?_⟩
      rw [k3]
      congr 2
      exact wsum_congr (fun j j1 j2 => ⟨rfl, (upN_ne (by omega)).symm⟩)
  · obtain ⟨k1, k2, k3, k4, k5, k6, k7, k8, k9, k10⟩ := h8 i hi
    by_cases e : i = n0
    · subst e
      refine ⟨k1, k2, k3, k4, k5, k6, k7, ?_, fun _ => ?_, k10⟩
      · show upN q.2.1 i t i ≤ 1536
        rw [upN_eq]; exact ht
      · show upd A10 i (nI t) i = nI (upN q.2.1 i t i) ∧ upd B6 i (nI t) i = nI (upN q.2.1 i t i)
        rw [upd_eq, upd_eq, upN_eq]; exact ⟨rfl, rfl⟩
    · refine ⟨k1, k2, k3, k4, k5, k6, k7, ?_, ?_, k10⟩
      · show upN q.2.1 n0 t i ≤ 1536
        rw [upN_ne e]; exact k8
      · show 0 < upN q.2.1 n0 t i → upd A10 n0 (nI t) i = nI (upN q.2.1 n0 t i) ∧ upd B6 n0 (nI t) i = nI (upN q.2.1 n0 t i)
        rw [upd_ne e, upd_ne e, upN_ne e]; exact k9
theorem it_tie {n0 : Nat} (h : DIt b (n0 + 1) p q sg it fn A7 A8 A9 A10 A11 A12 B2 B6 B7 B8 B9 B10) : DIt b (n0 + 1) p (q.1, q.2.1, q.2.2.1, fun i => if i = n0 then true else q.2.2.2 i) sg it fn A7 A8 A9 A10 (upd A11 n0 1) A12 B2 B6 (upd B7 n0 1) B8 B9 B10 := by
  obtain ⟨h1, h5, h6, h7, h8⟩ := h
  refine ⟨h1, h5, h6, h7, fun i hi => ?_⟩
  obtain ⟨k1, k2, k3, k4, k5, k6, k7, k8, k9, k10⟩ := h8 i hi
  refine ⟨k1, k2, ?_, ?_, k5, k6, k7, k8, k9, k10⟩
  · show upd A11 n0 1 i = if (if i = n0 then true else q.2.2.2 i) then 1 else 0
    by_cases e : i = n0
    · subst e; rw [upd_eq, if_pos rfl]; rfl
    · rw [upd_ne e, if_neg e]; exact k3
  · show upd B7 n0 1 i = if (if i = n0 then true else q.2.2.2 i) then 1 else 0
    by_cases e : i = n0
    · subst e; rw [upd_eq, if_pos rfl]; rfl
    · rw [upd_ne e, if_neg e]; exact k4
/-- the score with one more note in its latest item -/
abbrev qNote (q : Sc) (n0 t : Nat) : Sc := (upN q.1 n0 (q.1 n0 + 1), q.2.1, fun i k => if i = n0 ∧ k = q.1 n0 then t else q.2.2.1 i k, q.2.2.2)
theorem it_note {n0 t : Nat} (h : DIt b (n0 + 1) p q sg it fn A7 A8 A9 A10 A11 A12 B2 B6 B7 B8 B9 B10) (hm : q.1 n0 < 4) (hp : fn (n0 + 1) + 1 ≤ p) (ht : t < 128) : DIt b (n0 + 1) p (qNote q n0 t) sg it (upN fn (n0 + 1) (fn (n0 + 1) + 1)) A7 A8 (upd A9 (n0 + 1) (nI (fn (n0 + 1) + 1))) A10 A11 (upd A12 (fn (n0 + 1)) (nI t)) B2 B6 B7 B8 (upd B9 n0 (nI (q.1 n0 + 1))) (upd B10 (4 * n0 + q.1 n0) (nI t)) := by
  obtain ⟨⟨h1, h2, h3, h4⟩, h5, h6, h7, h8⟩ := h
  refine ⟨⟨h1, h2, h3, by rw [upN_eq]; exact hp⟩, h5, h6, fun i hi => ?_, fun i hi => ?_⟩
  · by_cases e : i = n0 + 1
    · subst e; rw [upd_eq, upN_eq]; exact ⟨rfl, Nat.le_refl _⟩
    · rw [upd_ne e, upN_ne e, upN_eq]
      exact ⟨(h7 i hi).1, Nat.le_succ_of_le (h7 i hi).2⟩
  · obtain ⟨k1, k2, k3, k4, k5, k6, k7, k8, k9, k10⟩ := h8 i hi
    by_cases e : i = n0
    · subst e
      show upN fn (i + 1) (fn (i + 1) + 1) (i + 1) = upN fn (i + 1) (fn (i + 1) + 1) i + upN q.1 i (q.1 i + 1) i ∧ upN q.1 i (q.1 i + 1) i ≤ 4 ∧ _ ∧ _ ∧ upd B9 i (nI (q.1 i + 1)) i = nI (upN q.1 i (q.1 i + 1) i) ∧ _ ∧ _ ∧ _ ∧ _ ∧ ∀ k, k < upN q.1 i (q.1 i + 1) i → upd A12 (fn (i + 1)) (nI t) (upN fn (i + 1) (fn (i + 1) + 1) i + k) = nI (if i = i ∧ k = q.1 i then t else q.2.2.1 i k) ∧ upd B10 (4 * i + q.1 i) (nI t) (4 * i + k) = nI (if i = i ∧ k = q.1 i then t else q.2.2.1 i k) ∧ (if i = i ∧ k = q.1 i then t else q.2.2.1 i k) < 128
      simp only [upN_eq, upd_eq, upN_ne (show i ≠ i + 1 by omega)]
      refine ⟨by omega, by omega, k3, k4, trivial, k6, k7, k8, k9, fun k hk => ?_⟩
      by_cases ek : k = q.1 i
      · rw [if_pos ⟨trivial, ek⟩, ek, upd_eq, ← k1, upd_eq]
        exact ⟨rfl, rfl, ht⟩
      · rw [if_neg (fun z => ek z.2), upd_ne (by omega), upd_ne (by omega)]
        exact k10 k (by omega)
    · have hle := (h7 (i + 1) (by omega)).2
      have hle2 := (h7 (n0 + 1) (by omega)).2
      have hmono : fn (i + 1) ≤ fn n0 := by
        have key : ∀ d, i + 1 + d ≤ n0 → fn (i + 1) ≤ fn (i + 1 + d) := by
          intro d
          induction d with
          | zero => intro _; exact Nat.le_refl _
          | succ d ih =>
            intro hd
            have := (h8 (i + 1 + d) (by omega)).1
            have := ih (by omega)
            rw [show i + 1 + (d + 1) = i + 1 + d + 1 from rfl]
            omega
        have := key (n0 - (i + 1)) (by omega)
        rwa [show i + 1 + (n0 - (i + 1)) = n0 from by omega] at this
      have hlast := (h8 n0 (by omega)).1
      show upN fn (n0 + 1) (fn (n0 + 1) + 1) (i + 1) = upN fn (n0 + 1) (fn (n0 + 1) + 1) i + upN q.1 n0 (q.1 n0 + 1) i ∧ upN q.1 n0 (q.1 n0 + 1) i ≤ 4 ∧ _ ∧ _ ∧ upd B9 n0 (nI (q.1 n0 + 1)) i = nI (upN q.1 n0 (q.1 n0 + 1) i) ∧ _ ∧ _ ∧ _ ∧ _ ∧ ∀ k, k < upN q.1 n0 (q.1 n0 + 1) i → upd A12 (fn (n0 + 1)) (nI t) (upN fn (n0 + 1) (fn (n0 + 1) + 1) i + k) = nI (if i = n0 ∧ k = q.1 n0 then t else q.2.2.1 i k) ∧ upd B10 (4 * n0 + q.1 n0) (nI t) (4 * i + k) = nI (if i = n0 ∧ k = q.1 n0 then t else q.2.2.1 i k) ∧ (if i = n0 ∧ k = q.1 n0 then t else q.2.2.1 i k) < 128
      simp only [upN_ne e, upd_ne e, upN_ne (show i ≠ n0 + 1 by omega), upN_ne (show i + 1 ≠ n0 + 1 by omega)]
      refine ⟨k1, k2, k3, k4, k5, k6, k7, k8, k9, fun k hk => ?_⟩
      rw [if_neg (fun z => e z.1), upd_ne (by omega), upd_ne (by omega)]
      exact k10 k hk
end DI

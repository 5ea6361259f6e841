/-! the class's events, sorted -/
/-- array a holds the list l from 0 on -/
def Hold (a : Nat) (A : Nat → Nat → Int32) (l : List Nat) : Prop := ∀ k, k < l.length → A a k = nI (l.getD k 0)
def insS (v : Nat) : List Nat → List Nat
  | [] => [v]
  | x :: r => if v < x then v :: x :: r else x :: insS v r
theorem insS_perm (v : Nat) (l : List Nat) : (insS v l).Perm (v :: l) := by
  induction l with
  | nil => exact List.Perm.refl _
  | cons x r ih =>
    unfold insS
    split
    · exact List.Perm.refl _
    · exact (List.Perm.cons x ih).trans (List.Perm.swap v x r)
theorem insS_sorted {v : Nat} {l : List Nat} (h : l.Pairwise (· ≤ ·)) : (insS v l).Pairwise (· ≤ ·) := by
  induction l with
  | nil => simp [insS]
  | cons x r ih =>
    unfold insS
    rw [List.pairwise_cons] at h
    split
    · rename_i hlt
      rw [List.pairwise_cons, List.pairwise_cons]
      refine ⟨fun y hy => ?_, h⟩
      rcases List.mem_cons.mp hy with e | e
      · omega
      · have := h.1 y e; omega
    · rename_i hlt
      rw [List.pairwise_cons]
      refine ⟨fun y hy => ?_, ih h.2⟩
      have := (insS_perm v r).mem_iff.mp hy
      rcases List.mem_cons.mp this with e | e
      · omega
      · exact h.1 y e
/-- where the new one comes: behind all that are not above it -/
theorem insS_split {v : Nat} {l1 l2 : List Nat} (h1 : ∀ x ∈ l1, x ≤ v) (h2 : ∀ x ∈ l2, v < x) : insS v (l1 ++ l2) = l1 ++ v :: l2 := by
  induction l1 with
  | nil =>
    cases l2 with
    | nil => rfl
    | cons y r =>
      show (if v < y then _ else _) = _
      rw [if_pos (h2 y List.mem_cons_self)]
      rfl
  | cons x r ih =>
    show (if v < x then v :: x :: (r ++ l2) else x :: insS v (r ++ l2)) = _
    rw [if_neg (by have := h1 x List.mem_cons_self; omega), ih (fun y hy => h1 y (List.mem_cons_of_mem _ hy))]
    rfl
theorem getD_at {l : List Nat} {k : Nat} (h : k < l.length) : l.getD k 0 = l[k] := by simp [List.getD_eq_getElem?_getD, h]
/-- while it sorts: what is behind slot s has been moved up by one -/
theorem sort_loop {post : (Nat → Int32) → (Nat → Nat → Int32) → Prop} {I : Nat → Int32} {v : Nat} (hv : v < 300000000) {l : List Nat} (hs : l.Pairwise (· ≤ ·)) (hl : l.length < 128) (hb : ∀ x ∈ l, x < 300000000) :
    ∀ (s : Nat) (A : Nat → Nat → Int32), s ≤ l.length → (∀ x ∈ l.drop s, v < x) → (∀ k, k < s → A 24 k = nI (l.getD k 0)) → (∀ k, s ≤ k → k < l.length → A 24 (k + 1) = nI (l.getD k 0)) → (∀ A1, (∀ k, k ≠ 24 → A1 k = A k) → Hold 24 A1 (insS v l) → post (upd I 29 (I 29 + 1)) A1) → wp_NoteFile_sortIn_16 post (s + 1) (nI v) (nI s) I A := by
  intro s
  induction s with
  | zero =>
    intro A hsl hgt h1 h2 hp
    unfold wp_NoteFile_sortIn_16
    rw [nI_clamp (by omega)]
    refine ⟨fun _ => ⟨vp_in_nI (by omega) (by omega), hp _ (fun k hk => upd2_ne hk) ?_⟩, fun q => absurd (show nI 0 ≤ 0 by decide) q⟩
    have := insS_split (v := v) (l1 := []) (l2 := l) (by simp) (by simpa using hgt)
    rw [List.nil_append] at this
    rw [this]
    intro k hk
    rw [upd2_eq]
    cases k with
    | zero => rw [upd_eq]; rfl
    | succ k =>
      simp at hk
      rw [upd_ne (by omega), h2 k (Nat.zero_le _) hk]
      simp
  | succ s ih =>
    intro A hsl hgt h1 h2 hp
    unfold wp_NoteFile_sortIn_16
    rw [nI_pred, nI_clamp (by omega), nI_clamp (by omega), h1 s (by omega)]
    have hx := getD_at (l := l) (k := s) (by omega)
    have hxb : l.getD s 0 < 300000000 := by rw [hx]; exact hb _ (List.getElem_mem _)
    refine ⟨fun q => absurd q (nI_nle (by omega) (by omega)), fun _ => ⟨vp_in_nI (by omega) (by omega), fun q => ?_, fun q => ?_⟩⟩
    · have hle : l.getD s 0 ≤ v := (nI_leI (by omega) (by omega)).mp q
      refine ⟨vp_in_nI (by omega) (by omega), hp _ (fun k hk => upd2_ne hk) ?_⟩
      have hsp := insS_split (v := v) (l1 := l.take (s + 1)) (l2 := l.drop (s + 1)) (fun x hx1 => ?_) hgt
      · rw [List.take_append_drop] at hsp
        rw [hsp]
        intro k hk
        rw [upd2_eq]
        by_cases k1 : k < s + 1
        · rw [upd_ne (by omega), h1 k (by omega), List.getD_eq_getElem?_getD, List.getD_eq_getElem?_getD, List.getElem?_append_left (by simp; omega), List.getElem?_take, if_pos k1]
        · by_cases k2 : k = s + 1
          · subst k2
            rw [upd_eq, List.getD_eq_getElem?_getD, List.getElem?_append_right (by simp; omega)]
            simp [Nat.min_eq_left hsl]
          · have hk3 : k - 1 < l.length := by simp at hk; omega
            have := h2 (k - 1) (by omega) hk3
            rw [show k - 1 + 1 = k by omega] at this
            rw [upd_ne k2, this, List.getD_eq_getElem?_getD, List.getD_eq_getElem?_getD, List.getElem?_append_right (by simp; omega)]
            rw [show (l.take (s + 1)).length = s + 1 by simp; omega, show k - (s + 1) = (k - s - 2) + 1 by omega, List.getElem?_cons_succ, List.getElem?_drop, show s + 1 + (k - s - 2) = k - 1 by omega]
      · obtain ⟨j, hj, rfl⟩ := List.getElem_of_mem hx1
        simp at hj
        rw [List.getElem_take]
        have hjs : l[j] ≤ l[s] := by
          by_cases e : j = s
          · subst e; exact Nat.le_refl _
          · exact List.pairwise_iff_getElem.mp hs j s (by omega) (by omega) (by omega)
        omega
    · have hgt2 : v < l.getD s 0 := by
        have := mt (nI_leI (a := l.getD s 0) (b := v) (by omega) (by omega)).mpr q
        omega
      refine ⟨vp_in_nI (by omega) (by omega), vp_in_nI (by omega) (by omega), fun w hw => ?_⟩
      rw [hw, ix_pred, nI_pred]
      refine ih _ (by omega) ?_ (fun k hk => ?_) (fun k k1 k2 => ?_) (fun A1 hf hh => hp A1 (fun k hk => (hf k hk).trans (upd2_ne hk)) hh)
      · intro x hx1
        rw [drop_cons l s (by omega)] at hx1
        rcases List.mem_append.mp hx1 with e | e
        · rw [List.mem_singleton.mp e]; exact hgt2
        · exact hgt x e
      · rw [upd2_eq, upd_ne (by omega)]; exact h1 k (by omega)
      · rw [upd2_eq]
        by_cases e : k = s
        · subst e; rw [upd_eq]
        · rw [upd_ne (by omega)]; exact h2 k (by omega) k2
theorem sortIn_ok {post : (Nat → Int32) → (Nat → Nat → Int32) → Prop} {I : Nat → Int32} {A : Nat → Nat → Int32} {v : Nat} {x : Int32} {l : List Nat} (hx : x = nI v) (hv : v < 300000000) (hs : l.Pairwise (· ≤ ·)) (hl : l.length < 128) (hb : ∀ x ∈ l, x < 300000000) (hI : I 29 = nI l.length) (hA : Hold 24 A l) (hp : ∀ A1, (∀ k, k ≠ 24 → A1 k = A k) → Hold 24 A1 (insS v l) → post (upd I 29 (nI (l.length + 1))) A1) : wp_NoteFile_sortIn x I A post := by
  subst hx
  unfold wp_NoteFile_sortIn
  rw [hI]
  refine ⟨fun _ w hw => ⟨l.length + 1, ?_⟩, fun q => ?_⟩
  · rw [hw]
    refine sort_loop hv hs hl hb l.length A (Nat.le_refl _) (by simp) hA (fun k k1 k2 => by omega) (fun A1 hf hh => ?_)
    rw [hI, nI_1]
    exact hp A1 hf hh
  · rw [show (128 : Int32) = nI 128 from by decide] at q
    exact absurd (nI_lt hl (by omega)) q

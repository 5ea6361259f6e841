/-! the reference sounds what it plays -/
def MSc (q : Sc) (ni : Nat) (B : Nat → Nat → Int32) : Prop := ni ≤ 48 ∧ ∀ i, i < ni → B 9 i = nI (q.1 i) ∧ q.1 i ≤ 4 ∧ B 6 i = nI (q.2.1 i) ∧ (B 7 i = if q.2.2.2 i then 1 else 0) ∧ ∀ k, k < q.1 i → B 10 (4 * i + k) = nI (q.2.2.1 i k) ∧ q.2.2.1 i k < 128
def MSt (J : Nat → Int32) (B : Nat → Nat → Int32) (s : PS) : Prop := J 25 = nI s.1 ∧ s.1 ≤ 64 ∧ ∀ k, k < s.1 → B 13 k = nI (s.2.1 k) ∧ B 14 k = nI (s.2.2.1 k) ∧ B 15 k = nI (s.2.2.2.1 k)
def HdAt (B : Nat → Nat → Int32) (qi : Nat) (H : List (Option Nat)) : Prop := ∀ k, k < H.length → B 16 (4 * qi + k) = enO (H.getD k none)
def HdNo (B : Nat → Nat → Int32) (x0 : Nat) : Prop := ∀ x, x0 ≤ x → x < 384 → B 16 x = -1
def FrM (B B1 : Nat → Nat → Int32) : Prop := ∀ k, k < 13 ∨ 16 < k → B1 k = B k
theorem FrM.trans {A A1 A2 : Nat → Nat → Int32} (h : FrM A A1) (h2 : FrM A1 A2) : FrM A A2 := fun k hk => (h2 k hk).trans (h k hk)
theorem MSc.kept {q : Sc} {ni : Nat} {B B1 : Nat → Nat → Int32} (h : MSc q ni B) (hf : FrM B B1) : MSc q ni B1 := by
  unfold MSc at h ⊢
  rw [hf 9 (by omega), hf 6 (by omega), hf 7 (by omega), hf 10 (by omega)]
  exact h
theorem x4 (a : Nat) : (4 : Int32) * nI a = nI (4 * a) := by rw [show (4 : Int32) = nI 4 from by decide, pk_mul]
theorem x44 (a : Nat) : nI (4 * a) + 4 = nI (4 * (a + 1)) := by rw [show (4 : Int32) = nI 4 from by decide, nI_add, Nat.mul_add]
theorem scP_len (q : Sc) (i : Nat) : (scP q i).length = q.1 i := by simp [scP]
theorem scP_at {q : Sc} {i k : Nat} (h : k < q.1 i) : (scP q i).getD k 0 = q.2.2.1 i k := by simp [scP, List.getD_eq_getElem?_getD, h]
theorem enO_neg (x : Option Nat) (h : ∀ k, x = some k → k < 2 ^ 31) : 0 ≤ enO x ↔ ¬ x = none := by
  cases x with
  | none => simp only [enO]; constructor
            · intro q; exact absurd q (by decide)
            · intro q; exact absurd trivial q
  | some k => simp only [enO]; constructor
              · intro _ q; cases q
              · intro _; exact nI_pos' (h k rfl)
theorem goOn_ok {post : (Nat → Int32) → (Nat → Nat → Int32) → Prop} {q : Sc} {ni qi k i j y : Nat} {l : List Nat} {J : Nat → Int32} {B : Nat → Nat → Int32} {H : List (Option Nat)} (hS : MSc q ni B) (hl : l.length ≤ 96) (hqi : qi + 1 < l.length) (hi : l.getD qi 0 = i) (hj : l.getD (qi + 1) 0 = j) (hin : i < ni) (hjn : j < ni) (hh : Hold 12 B l) (hk : k < q.1 i) (hy : B 16 (4 * qi + k) = nI y) (hH : H.length = q.1 j) (hHd : HdAt B (qi + 1) H) (hHb : ∀ z, some z ∈ H → z < 2 ^ 31)
    (hq : ∀ B1, (∀ a, a ≠ 16 → B1 a = B a) → HdAt B1 (qi + 1) (putR (q.2.2.1 i k) y (scP q j) H) → (∀ x, x < 4 * (qi + 1) ∨ 4 * (qi + 1) + 4 ≤ x → B1 16 x = B 16 x) → post J B1) : wp_TuneSetterModel_goOn (nI qi) (nI k) J B post := by
  obtain ⟨hn, hS⟩ := hS
  obtain ⟨i1, i2, i3, i4, i5⟩ := hS i hin
  obtain ⟨j1, j2, j3, j4, j5⟩ := hS j hjn
  obtain ⟨p1, p2⟩ := i5 k hk
  have loop : ∀ (r : Nat) (y4 : Int32), r ≤ q.1 j → y4 = enO ((lst (q.2.2.1 i k) ((scP q j).drop r) (H.drop r)).map (· + r)) → wp_TuneSetterModel_goOn_22 post (r + 1) (nI qi) (nI k) (nI j) y4 (nI r - 1) J B := by
    intro r
    induction r with
    | zero =>
      intro y4 _ e4
      unfold wp_TuneSetterModel_goOn_22
      refine ⟨fun _ => ?_, fun z => absurd ix_neg z⟩
      rw [x4, nI_add, x44]
      have hpl := putR_lst (p := q.2.2.1 i k) (y := y) (scP q j) H
      rw [List.drop_zero, List.drop_zero] at e4
      cases hl2 : lst (q.2.2.1 i k) (scP q j) H with
      | none =>
        rw [hl2] at hpl e4
        subst e4
        refine ⟨fun _ => hq B (fun _ _ => rfl) (by rw [hpl]; exact hHd) (fun _ _ => rfl), fun z => absurd (by decide) z⟩
      | some m =>
        rw [hl2] at hpl e4
        obtain ⟨m1, m2⟩ := lst_lt _ _ m hl2
        rw [scP_len] at m1
        have e4 : y4 = nI m := by rw [e4]; rfl
        subst e4
        refine ⟨fun z => absurd z (nI_pos (by omega)), fun _ => ⟨vp_in_nI (by omega) (by omega), ?_, ?_⟩⟩
        · rw [nI_add]; exact vp_in_nI (by omega) (by omega)
        · rw [nI_add, nI_clamp (by omega), nI_clamp (by omega), hy]
          refine hq _ (fun a ha => upd2_ne ha) (fun x hx => ?_) (fun x hx => ?_)
          · rw [putR_len] at hx
            rw [hpl, upd2_eq]
            by_cases e : x = m
            · subst e
              rw [upd_eq]
              simp [List.getD_eq_getElem?_getD, hx, enO]
            · rw [upd_ne (by omega), hHd x hx]
              simp [List.getD_eq_getElem?_getD, List.getElem?_set_ne (show m ≠ x by omega)]
          · rw [upd2_eq, upd_ne (by omega)]
    | succ r ih =>
      intro y4 hr e4
      obtain ⟨p3, p4⟩ := j5 r (by omega)
      have hld := lst_drop (p := q.2.2.1 i k) (ps := scP q j) (H := H) (k := r) (by rw [scP_len]; omega) (by omega)
      rw [scP_at (by omega)] at hld
      have hhd := hHd r (by omega)
      have skip : ¬ (q.2.2.1 j r = q.2.2.1 i k ∧ H.getD r none = none) → ∀ v : Int32, v = nI r + (-1) → wp_TuneSetterModel_goOn_22 post (r + 1) (nI qi) (nI k) (nI j) y4 v J B := by
        intro hne v hv
        rw [hv, ix_pred]
        refine ih y4 (by omega) ?_
        rw [hld, if_neg hne]
        exact e4
      have skip2 : ¬ (q.2.2.1 j r = q.2.2.1 i k ∧ H.getD r none = none) → wp_TuneSetterModel_goOn_76 (fun y1 y2 y3 y4 y5 I A => wp_TuneSetterModel_goOn_22 post (r + 1) y1 y2 y3 y4 y5 I A) post (nI qi) (nI k) (nI j) y4 (nI r) J B := fun hne => ⟨fun _ => skip hne, fun z => absurd rfl z⟩
      have hib := hh qi (by omega)
      rw [hi] at hib
      unfold wp_TuneSetterModel_goOn_22
      rw [nI_pred, x4 qi, x4 j, x44, nI_add (4 * (qi + 1)) r, nI_add (4 * j) r, nI_clamp (n := 4 * j + r) (by omega), nI_clamp (n := 4 * (qi + 1) + r) (by omega), nI_clamp (n := qi) (by omega), hib, x4 i, nI_add (4 * i) k, nI_clamp (n := 4 * i + k) (by omega), p3, p1, hhd]
      refine ⟨fun z => absurd z (nI_pos (by omega)), fun _ => ⟨vp_in_nI (by omega) (by omega), vp_in_nI (by omega) (by omega), vp_in_nI (by omega) (by omega), fun z => ⟨vp_in_nI (by omega) (by omega), ?_⟩, fun z => skip2 (fun h => z (by rw [h.1]))⟩⟩
      have ep : q.2.2.1 j r = q.2.2.1 i k := (nI_eq (by omega) (by omega)).mp z
      rw [enO_neg _ (fun z hz => hHb z (by
        rw [← hz, List.getD_eq_getElem?_getD, List.getElem?_eq_getElem (by omega)]
        exact List.getElem_mem _))]
      refine ⟨fun z2 => skip2 (fun h => z2 h.2), fun z2 => ⟨fun z3 => absurd z3 (by decide), fun _ v hv => ?_⟩⟩
      have en : H.getD r none = none := by simpa using z2
      rw [hv, ix_pred]
      refine ih (nI r) (by omega) ?_
      rw [hld, if_pos ⟨ep, en⟩]
      rfl
  have hjb := hh (qi + 1) hqi
  rw [hj] at hjb
  unfold wp_TuneSetterModel_goOn
  rw [nI_1, nI_clamp (by omega), hjb]
  refine ⟨vp_in_nI (by omega) (by omega), fun v hv => ?_⟩
  subst hv
  refine ⟨vp_in_nI (by omega) (by omega), fun w hw => ⟨q.1 j + 1, ?_⟩⟩
  rw [nI_clamp (by omega), j1] at hw
  rw [hw]
  refine loop (q.1 j) (-1) (Nat.le_refl _) ?_
  rw [List.drop_eq_nil_of_le (by rw [scP_len]; exact Nat.le_refl _)]
  rfl
theorem pNote_ov {t tk : Nat} {s : PS} {p : Nat} {h : Option Nat} (hs : s.2.2.2.2 = true) : (pNote t tk s p h).1.2.2.2.2 = true := by
  unfold pNote
  cases h with
  | some y => exact hs
  | none =>
    simp only
    split
    · exact hs
    · rfl
theorem pItemH_ov {t tk : Nat} : ∀ (ps : List Nat) (H : List (Option Nat)) (s : PS), s.2.2.2.2 = true → (pItemH t tk ps H s).1.2.2.2.2 = true := by
  intro ps
  induction ps with
  | nil => intro H s hs; exact hs
  | cons p r ih => intro H s hs; exact ih _ _ (pNote_ov hs)
theorem fold_congr {pi pj : Nat → Nat} {ps : List Nat} : ∀ (ids : List Nat) (H : List (Option Nat)), (∀ y ∈ ids, pi y = pj y) → ids.foldl (fun H y => putR (pi y) y ps H) H = ids.foldl (fun H y => putR (pj y) y ps H) H := by
  intro ids
  induction ids with
  | nil => intro H _; rfl
  | cons y r ih =>
    intro H h
    simp only [List.foldl_cons]
    rw [h y List.mem_cons_self, ih _ (fun z hz => h z (List.mem_cons_of_mem _ hz))]
theorem fold_len {pi : Nat → Nat} {ps : List Nat} : ∀ (ids : List Nat) (H : List (Option Nat)), (ids.foldl (fun H y => putR (pi y) y ps H) H).length = H.length := by
  intro ids
  induction ids with
  | nil => intro H; rfl
  | cons y r ih => intro H; rw [List.foldl_cons, ih, putR_len]
theorem putR_mem {p y : Nat} : ∀ (ps : List Nat) (H : List (Option Nat)) (z : Nat), some z ∈ putR p y ps H → z = y ∨ some z ∈ H := by
  intro ps
  induction ps with
  | nil => intro H z h; exact Or.inr h
  | cons x r ih =>
    intro H z h
    cases H with
    | nil => cases h
    | cons w H =>
      cases w with
      | none =>
        simp only [putR] at h
        split at h
        · rcases List.mem_cons.mp h with e | e
          · cases e; exact Or.inl rfl
          · exact Or.inr (List.mem_cons_of_mem _ e)
        · rcases List.mem_cons.mp h with e | e
          · cases e
          · rcases ih H z e with e | e
            · exact Or.inl e
            · exact Or.inr (List.mem_cons_of_mem _ e)
      | some v =>
        simp only [putR] at h
        rcases List.mem_cons.mp h with e | e
        · cases e; exact Or.inr List.mem_cons_self
        · rcases ih H z e with e | e
          · exact Or.inl e
          · exact Or.inr (List.mem_cons_of_mem _ e)
theorem fold_mem {pi : Nat → Nat} {ps : List Nat} : ∀ (ids : List Nat) (H : List (Option Nat)) (z : Nat), some z ∈ ids.foldl (fun H y => putR (pi y) y ps H) H → z ∈ ids ∨ some z ∈ H := by
  intro ids
  induction ids with
  | nil => intro H z h; exact Or.inr h
  | cons y r ih =>
    intro H z h
    rcases ih _ z h with e | e
    · exact Or.inl (List.mem_cons_of_mem _ e)
    · rcases putR_mem ps H z e with e | e
      · exact Or.inl (e ▸ List.mem_cons_self)
      · exact Or.inr e

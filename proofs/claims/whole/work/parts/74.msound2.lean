/-! the reference sounds an item, then all -/
/-- what the next item's notes go on, after the notes ids of an item -/
def NN (q : Sc) (i j : Nat) (pi : Nat → Nat) (ids : List Nat) : List (Option Nat) := (if q.2.2.2 i then ids else []).foldl (fun H y => putR (pi y) y (scP q j) H) (List.replicate (q.1 j) none)
theorem NN_len (q : Sc) (i j : Nat) (pi : Nat → Nat) (ids : List Nat) : (NN q i j pi ids).length = q.1 j := by unfold NN; rw [fold_len, List.length_replicate]
theorem NN_mem {q : Sc} {i j : Nat} {pi : Nat → Nat} {ids : List Nat} {z : Nat} (h : some z ∈ NN q i j pi ids) : z ∈ ids := by
  unfold NN at h
  rcases fold_mem _ _ z h with e | e
  · split at e
    · exact e
    · cases e
  · exact absurd (List.eq_of_mem_replicate e) (by simp)
section MS
variable {k31 : Int32 → Int32 → (Nat → Int32) → (Nat → Nat → Int32) → Prop} {post : Int32 → (Nat → Int32) → (Nat → Nat → Int32) → Prop} {q : Sc} {ni qi i t : Nat} {l : List Nat}
theorem s151 {k49 : Int32 → Int32 → Int32 → Int32 → (Nat → Int32) → (Nat → Nat → Int32) → Prop} {k y : Nat} {J : Nat → Int32} {B : Nat → Nat → Int32} {N : List (Option Nat)} (hS : MSc q ni B) (hl : l.length ≤ 96) (hqi : qi < l.length) (hi : l.getD qi 0 = i) (hlt : ∀ x ∈ l, x < ni) (hh : Hold 12 B l) (h24 : J 24 = nI l.length) (hk : k < q.1 i) (hy : B 16 (4 * qi + k) = nI y) (hyb : y < 64) (hN : qi + 1 < l.length → HdAt B (qi + 1) N ∧ N.length = q.1 (l.getD (qi + 1) 0)) (hNb : ∀ z, some z ∈ N → z < 2 ^ 31)
    (hq : ∀ B1, (∀ a, a ≠ 14 → a ≠ 16 → B1 a = B a) → B1 14 = upd (B 14) y (B 14 y + nI (q.2.1 i)) → (qi + 1 < l.length → HdAt B1 (qi + 1) (if q.2.2.2 i then putR (q.2.2.1 i k) y (scP q (l.getD (qi + 1) 0)) N else N)) → (∀ x, x < 4 * (qi + 1) ∨ 4 * (qi + 1) + 4 ≤ x → B1 16 x = B 16 x) → k49 (nI t) (nI qi) (nI i) (nI (k + 1)) J B1) : wp_TuneSetterModel_sound_151 k31 k49 post (nI t) (nI qi) (nI i) (nI k) J B := by
  have hin : i < ni := hlt i (by rw [← hi, getD_at hqi]; exact List.getElem_mem _)
  have hS' := hS
  obtain ⟨hn, hS⟩ := hS
  obtain ⟨i1, i2, i3, i4, i5⟩ := hS i hin
  have v1 := vp_in_nI (n := 4 * qi + k) (N := 384) (by omega) (by omega)
  have v2 := vp_in_nI (n := y) (N := 64) hyb (by omega)
  have v3 := vp_in_nI (n := i) (N := 48) (by omega) (by omega)
  unfold wp_TuneSetterModel_sound_151
  rw [x4, nI_add, nI_clamp (n := 4 * qi + k) (by omega), hy, nI_clamp (n := y) (by omega), nI_clamp (n := i) (by omega), i4, i3, h24, nI_1 qi]
  refine ⟨v1, v2, v3, v2, v3, fun z v hv => ?_, fun z => ⟨fun z2 v hv => ?_, fun z2 => ?_⟩⟩
  · have td : q.2.2.2 i = false := by
      cases h : q.2.2.2 i with
      | false => rfl
      | true => rw [h] at z; exact absurd z (by decide)
    rw [hv, nI_1]
    refine hq _ (fun a a1 _ => upd2_ne a1) (upd2_eq _ _ _ _) (fun h => ?_) (fun x hx => by rw [upd2_ne (by decide)])
    rw [td]
    simp only [Bool.false_eq_true, if_false]
    intro x hx
    rw [upd2_ne (by decide)]
    exact (hN h).1 x hx
  · rw [hv, nI_1]
    have e : ¬ qi + 1 < l.length := by
      have := (nI_leI (a := l.length) (b := qi + 1) (by omega) (by omega)).mp z2
      omega
    exact hq _ (fun a a1 _ => upd2_ne a1) (upd2_eq _ _ _ _) (fun h => absurd h e) (fun x hx => by rw [upd2_ne (by decide)])
  · have e : qi + 1 < l.length := by
      have := mt (nI_leI (a := l.length) (b := qi + 1) (by omega) (by omega)).mpr z2
      omega
    have td : q.2.2.2 i = true := by
      cases h : q.2.2.2 i with
      | false => rw [h] at z; exact absurd rfl z
      | true => rfl
    obtain ⟨n1, n2⟩ := hN e
    rw [td] at hq
    simp only [if_true] at hq
    have hf : FrM B (upd2 B 14 y (B 14 y + nI (q.2.1 i))) := fun a ha => upd2_ne (by omega)
    refine goOn_ok (l := l) (i := i) (j := l.getD (qi + 1) 0) (y := y) (H := N) (hS'.kept hf) hl e hi rfl hin (hlt _ (by rw [getD_at e]; exact List.getElem_mem _)) (fun x hx => by rw [hf 12 (by omega)]; exact hh x hx) hk (by rw [upd2_ne (by decide)]; exact hy) n2 (fun x hx => by rw [upd2_ne (by decide)]; exact n1 x hx) hNb (fun B1 g1 g2 g3 => ?_)
    intro v hv
    rw [hv, nI_1]
    exact hq B1 (fun a a1 a2 => (g1 a a2).trans (upd2_ne a1)) (by rw [g1 14 (by decide), upd2_eq]) (fun _ => g2) (fun x hx => by rw [g3 x hx, upd2_ne (by decide)])
theorem s49 {H : List (Option Nat)} (hl : l.length ≤ 96) (hqi : qi < l.length) (hi : l.getD qi 0 = i) (hlt : ∀ x ∈ l, x < ni) :
    ∀ (m k : Nat) (J : Nat → Int32) (B : Nat → Nat → Int32) (s : PS) (ids : List Nat), k + m = q.1 i → ids.length = k → (∀ y ∈ ids, y < s.1) → s.2.2.2.2 = false → MSc q ni B → Hold 12 B l → J 24 = nI l.length → MSt J B s → (∀ x, k ≤ x → x < q.1 i → B 16 (4 * qi + x) = enO (H.getD x none)) → (∀ x z, x < q.1 i → H.getD x none = some z → z < s.1 ∧ s.2.2.2.1 z = q.2.2.1 i x) → (qi + 1 < l.length → HdAt B (qi + 1) (NN q i (l.getD (qi + 1) 0) s.2.2.2.1 ids)) → HdNo B (4 * (qi + 2)) →
    ((pItemH t (q.2.1 i) ((scP q i).drop k) (H.drop k) s).1.2.2.2.2 = true → ∀ J1 B1, (∀ a, a ≠ 25 → J1 a = J a) → FrM B B1 → post (-7) J1 B1) →
    (∀ J1 B1, (∀ a, a ≠ 25 → J1 a = J a) → FrM B B1 → (pItemH t (q.2.1 i) ((scP q i).drop k) (H.drop k) s).1.2.2.2.2 = false → MSt J1 B1 (pItemH t (q.2.1 i) ((scP q i).drop k) (H.drop k) s).1 → (∀ y ∈ ids ++ (pItemH t (q.2.1 i) ((scP q i).drop k) (H.drop k) s).2, y < (pItemH t (q.2.1 i) ((scP q i).drop k) (H.drop k) s).1.1) → (qi + 1 < l.length → HdAt B1 (qi + 1) (NN q i (l.getD (qi + 1) 0) (pItemH t (q.2.1 i) ((scP q i).drop k) (H.drop k) s).1.2.2.2.1 (ids ++ (pItemH t (q.2.1 i) ((scP q i).drop k) (H.drop k) s).2))) → HdNo B1 (4 * (qi + 2)) → k31 (nI (t + q.2.1 i)) (nI (qi + 1)) J1 B1) →
    wp_TuneSetterModel_sound_49 k31 post (m + 1) (nI t) (nI qi) (nI i) (nI k) J B := by
  have hin : i < ni := hlt i (by rw [← hi, getD_at hqi]; exact List.getElem_mem _)
  intro m
  induction m with
  | zero =>
    intro k J B s ids hk hid hids hov hS hh h24 hM hHd hHp hN hNo hOV hq
    have hS' := hS
    obtain ⟨hn, hS⟩ := hS
    obtain ⟨i1, i2, i3, i4, i5⟩ := hS i hin
    have hd : (scP q i).drop k = [] := List.drop_eq_nil_of_le (by rw [scP_len]; omega)
    rw [hd] at hq
    simp only [pItemH, List.append_nil] at hq
    have v3 := vp_in_nI (n := i) (N := 48) (by omega) (by omega)
    unfold wp_TuneSetterModel_sound_49
    rw [nI_clamp (n := i) (by omega), i1, i3]
    refine ⟨v3, fun _ => ⟨v3, fun v hv w hw => ?_⟩, fun z => absurd (nI_le (by omega) (by omega)) z⟩
    rw [hv, hw, nI_add, nI_1]
    exact hq J B (fun _ _ => rfl) (fun _ _ => rfl) hov hM hids hN hNo
  | succ m ih =>
    intro k J B s ids hk hid hids hov hS hh h24 hM hHd hHp hN hNo hOV hq
    have hS' := hS
    obtain ⟨hn, hS⟩ := hS
    obtain ⟨i1, i2, i3, i4, i5⟩ := hS i hin
    obtain ⟨p1, p2⟩ := i5 k (by omega)
    obtain ⟨m1, m2, m3⟩ := hM
    have hd : (scP q i).drop k = q.2.2.1 i k :: (scP q i).drop (k + 1) := by
      rw [drop_cons (scP q i) k (by rw [scP_len]; omega), scP_at (by omega)]; rfl
    have hhd : (H.drop k).headD none = H.getD k none := by
      rw [List.headD_eq_head?_getD, List.head?_drop, List.getD_eq_getElem?_getD]
    have htl : (H.drop k).tail = H.drop (k + 1) := by rw [List.tail_drop]
    rw [hd] at hq hOV
    simp only [pItemH, hhd, htl] at hq hOV
    have hhk := hHd k (Nat.le_refl _) (by omega)
    have v1 := vp_in_nI (n := 4 * qi + k) (N := 384) (by omega) (by omega)
    have v3 := vp_in_nI (n := i) (N := 48) (by omega) (by omega)
    unfold wp_TuneSetterModel_sound_49
    rw [x4, x4, nI_add, nI_add, nI_clamp (n := i) (by omega), nI_clamp (n := 4 * qi + k) (by omega), nI_clamp (n := 4 * i + k) (by omega), i1, hhk, m1]
    refine ⟨v3, fun z => absurd z (nI_ge (by omega) (by omega)), fun _ => ⟨v1, ?_⟩⟩
    -- behind the note
    have rest : ∀ (y : Nat) (J1 : Nat → Int32) (B1 : Nat → Nat → Int32), (pNote t (q.2.1 i) s (q.2.2.1 i k) (H.getD k none)).2 = some y → y < (pNote t (q.2.1 i) s (q.2.2.1 i k) (H.getD k none)).1.1 → (pNote t (q.2.1 i) s (q.2.2.1 i k) (H.getD k none)).1.2.2.2.1 y = q.2.2.1 i k → (pNote t (q.2.1 i) s (q.2.2.1 i k) (H.getD k none)).1.2.2.2.2 = false → (∀ a, a ≠ 25 → J1 a = J a) → (∀ a, a ≠ 13 → a ≠ 14 → a ≠ 15 → a ≠ 16 → B1 a = B a) → (∀ x, x ≠ 4 * qi + k → B1 16 x = B 16 x) → B1 16 (4 * qi + k) = nI y → (pNote t (q.2.1 i) s (q.2.2.1 i k) (H.getD k none)).1.1 ≤ 64 → J1 25 = nI (pNote t (q.2.1 i) s (q.2.2.1 i k) (H.getD k none)).1.1 → (∀ x, x < (pNote t (q.2.1 i) s (q.2.2.1 i k) (H.getD k none)).1.1 → B1 13 x = nI ((pNote t (q.2.1 i) s (q.2.2.1 i k) (H.getD k none)).1.2.1 x) ∧ upd (B1 14) y (B1 14 y + nI (q.2.1 i)) x = nI ((pNote t (q.2.1 i) s (q.2.2.1 i k) (H.getD k none)).1.2.2.1 x) ∧ B1 15 x = nI ((pNote t (q.2.1 i) s (q.2.2.1 i k) (H.getD k none)).1.2.2.2.1 x)) → wp_TuneSetterModel_sound_151 k31 (fun y1 y2 y3 y4 I A => wp_TuneSetterModel_sound_49 k31 post (m + 1) y1 y2 y3 y4 I A) post (nI t) (nI qi) (nI i) (nI k) J1 B1 := by
      intro y J1 B1 e1 e2 e3 e4 e5 e6 e7 e8 e9 e10 e11
      have hc := pNote_c t (q.2.1 i) s (q.2.2.1 i k) (H.getD k none)
      have hpi : ∀ z, z < s.1 → (pNote t (q.2.1 i) s (q.2.2.1 i k) (H.getD k none)).1.2.2.2.1 z = s.2.2.2.1 z := fun z hz => pNote_pi hz
      rw [e1] at hq
      simp only [Option.toList] at hq
      generalize (pNote t (q.2.1 i) s (q.2.2.1 i k) (H.getD k none)).1 = s1 at *
      have hfm : FrM B B1 := fun a ha => e6 a (by omega) (by omega) (by omega) (by omega)
      have nnc : NN q i (l.getD (qi + 1) 0) s.2.2.2.1 ids = NN q i (l.getD (qi + 1) 0) s1.2.2.2.1 ids := by
        unfold NN
        apply fold_congr
        intro z hz
        split at hz
        · exact (hpi z (hids z hz)).symm
        · cases hz
      refine s151 (N := NN q i (l.getD (qi + 1) 0) s1.2.2.2.1 ids) (hS'.kept hfm) hl hqi hi hlt (fun x hx => by rw [e6 12 (by decide) (by decide) (by decide) (by decide)]; exact hh x hx) (by rw [e5 24 (by decide)]; exact h24) (by omega) e8 (by omega) (fun h => ⟨fun x hx => ?_, NN_len _ _ _ _ _⟩) (fun z hz => ?_) (fun B2 g1 g2 g3 g4 => ?_)
      · rw [e7 _ (by omega), ← nnc]
        exact hN h x (by rw [NN_len] at hx ⊢; exact hx)
      · have := hids z (NN_mem hz); omega
      · have hfm2 : FrM B B2 := fun a ha => (g1 a (by omega) (by omega)).trans (hfm a ha)
        refine ih (k + 1) J1 B2 s1 (ids ++ [y]) (by omega) (by simp; omega) (fun z hz => ?_) e4 (hS'.kept hfm2) (fun x hx => by rw [hfm2 12 (by omega)]; exact hh x hx) (by rw [e5 24 (by decide)]; exact h24) ⟨e10, e9, fun x hx => ?_⟩ (fun x x1 x2 => ?_) (fun x z x1 x2 => ?_) (fun h => ?_) (fun x x1 x2 => ?_) (fun h J2 B3 k1 k2 => hOV h J2 B3 (fun a ha => (k1 a ha).trans (e5 a ha)) (hfm2.trans k2)) (fun J2 B3 k1 k2 k3 k4 k5 k6 k7 => hq J2 B3 (fun a ha => (k1 a ha).trans (e5 a ha)) (hfm2.trans k2) k3 k4 (by simpa using k5) (by simpa using k6) k7)
        · rcases List.mem_append.mp hz with h | h
          · exact Nat.lt_of_lt_of_le (hids z h) hc
          · rw [List.mem_singleton.mp h]; exact e2
        · rw [g1 13 (by decide) (by decide), g2, g1 15 (by decide) (by decide)]
          exact e11 x hx
        · rw [g4 _ (by omega), e7 _ (by omega)]
          exact hHd x (by omega) x2
        · obtain ⟨w1, w2⟩ := hHp x z x1 x2
          exact ⟨by omega, by rw [hpi z w1]; exact w2⟩
        · have := g3 h
          have e : NN q i (l.getD (qi + 1) 0) s1.2.2.2.1 (ids ++ [y]) = if q.2.2.2 i then putR (q.2.2.1 i k) y (scP q (l.getD (qi + 1) 0)) (NN q i (l.getD (qi + 1) 0) s1.2.2.2.1 ids) else NN q i (l.getD (qi + 1) 0) s1.2.2.2.1 ids := by
            unfold NN
            split
            · rw [List.foldl_append]
              simp only [List.foldl_cons, List.foldl_nil]
              rw [e3]
            · rfl
          rw [e]
          exact this
        · rw [g4 x (by omega), e7 x (by omega)]
          exact hNo x x1 x2
    have hpn : ∀ z, H.getD k none = some z → z < 2 ^ 31 := fun z hz => by have := (hHp k z (by omega) hz).1; omega
    rw [enO_neg _ hpn]
    cases hh2 : H.getD k none with
    | some y =>
      obtain ⟨y1, y2⟩ := hHp k y (by omega) hh2
      refine ⟨fun _ => ?_, fun z => absurd (by simp) z⟩
      rw [hh2] at rest hhk
      refine rest y J B rfl y1 y2 hov (fun _ _ => rfl) (fun _ _ _ _ _ => rfl) (fun _ _ => rfl) hhk m2 m1 (fun x hx => ?_)
      obtain ⟨a1, a2, a3⟩ := m3 x hx
      refine ⟨a1, ?_, a3⟩
      show upd (B 14) y (B 14 y + nI (q.2.1 i)) x = nI (upN s.2.2.1 y (s.2.2.1 y + q.2.1 i) x)
      by_cases e : x = y
      · subst e; rw [upd_eq, upN_eq, a2, nI_add]
      · rw [upd_ne e, upN_ne e]; exact a2
    | none =>
      refine ⟨fun z => absurd rfl z, fun _ => ⟨fun z => ?_, fun z => ?_⟩⟩
      · have hc64 : s.1 = 64 := by rw [show (64 : Int32) = nI 64 from by decide] at z; exact (nI_eq (by omega) (by omega)).mp z
        refine hOV ?_ J B (fun _ _ => rfl) (fun _ _ => rfl)
        rw [hh2]
        apply pItemH_ov
        simp only [pNote]
        rw [if_neg (by omega)]
      · have hc64 : s.1 < 64 := by
          have := mt (nI_eq (a := s.1) (b := 64) (by omega) (by omega)).mpr (by rw [show (64 : Int32) = nI 64 from by decide] at z; exact z)
          omega
        have v := vp_in_nI (n := s.1) (N := 64) hc64 (by omega)
        refine ⟨v1, v, v, vp_in_nI (by omega) (by omega), v, ?_⟩
        rw [hh2] at rest
        simp only [pNote, if_pos hc64] at rest
        rw [nI_1, nI_clamp (n := s.1) (by omega), p1]
        refine rest s.1 _ _ rfl (by omega) (upN_eq _ _ _) hov (fun a ha => upd_ne ha) (fun a a1 a2 a3 a4 => by rw [upd2_ne a3, upd2_ne a2, upd2_ne a1, upd2_ne a4]) (fun x hx => ?_) ?_ (by omega) (upd_eq _ _ _) (fun x hx => ?_)
        · show upd (B 16) (4 * qi + k) (nI s.1) x = B 16 x
          exact upd_ne hx
        · show upd (B 16) (4 * qi + k) (nI s.1) (4 * qi + k) = nI s.1
          exact upd_eq _ _ _
        · show upd (B 13) s.1 (nI t) x = nI (upN s.2.1 s.1 t x) ∧ upd (upd (B 14) s.1 0) s.1 (upd (B 14) s.1 0 s.1 + nI (q.2.1 i)) x = nI (upN s.2.2.1 s.1 (q.2.1 i) x) ∧ upd (B 15) s.1 (nI (q.2.2.1 i k)) x = nI (upN s.2.2.2.1 s.1 (q.2.2.1 i k) x)
          by_cases e : x = s.1
          · subst e
            rw [upd_eq, upd_eq, upd_eq, upd_eq, upN_eq, upN_eq, upN_eq, show (0 : Int32) = nI 0 from by decide, nI_add, Nat.zero_add]
            exact ⟨rfl, rfl, rfl⟩
          · rw [upd_ne e, upd_ne e, upd_ne e, upd_ne e, upN_ne e, upN_ne e, upN_ne e]
            exact m3 x (by omega)
end MS

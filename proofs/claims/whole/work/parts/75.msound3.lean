/-! the reference sounds all; what the notes are bounded by -/
theorem enO_rep (n k : Nat) : enO ((List.replicate n (none : Option Nat)).getD k none) = -1 := by
  have : (List.replicate n (none : Option Nat)).getD k none = none := by
    rw [List.getD_eq_getElem?_getD, List.getElem?_replicate]
    split <;> rfl
  rw [this]
  rfl
theorem tkW_at {pi : Nat → Nat} {p z : Nat} : ∀ (W : List (Option Nat)), (tkW pi p W).1 = some z → some z ∈ W ∧ pi z = p := by
  intro W
  induction W with
  | nil => intro h; cases h
  | cons x r ih =>
    intro h
    cases x with
    | none => exact ⟨List.mem_cons_of_mem _ (ih h).1, (ih h).2⟩
    | some y =>
      simp only [tkW] at h
      split at h
      · rename_i e
        cases h
        exact ⟨List.mem_cons_self, e⟩
      · exact ⟨List.mem_cons_of_mem _ (ih h).1, (ih h).2⟩
theorem asg_at {pi : Nat → Nat} {z : Nat} : ∀ (ps : List Nat) (W : List (Option Nat)) (x : Nat), (asg pi ps W (List.replicate ps.length none)).getD x none = some z → some z ∈ W ∧ pi z = ps.getD x 0 := by
  intro ps
  induction ps with
  | nil => intro W x h; simp [asg] at h
  | cons p r ih =>
    intro W x h
    have e : asg pi (p :: r) W (List.replicate (p :: r).length none) = (tkW pi p W).1 :: asg pi r (tkW pi p W).2 (List.replicate r.length none) := rfl
    rw [e] at h
    cases x with
    | zero =>
      rw [List.getD_cons_zero] at h
      exact tkW_at W h
    | succ x =>
      rw [List.getD_cons_succ] at h
      obtain ⟨h1, h2⟩ := ih _ x h
      exact ⟨tkW_mem.2 z h1, by rw [List.getD_cons_succ]; exact h2⟩
theorem pItem_ov {t tk : Nat} : ∀ (ps : List Nat) (W : List (Option Nat)) (s : PS), s.2.2.2.2 = true → (pItem t tk ps W s).1.2.2.2.2 = true := by
  intro ps
  induction ps with
  | nil => intro W s hs; exact hs
  | cons p r ih => intro W s hs; exact ih _ _ (pNote_ov hs)
theorem pRun_ov {q : Sc} : ∀ (l : List Nat) (x : PX), x.2.2.2.2.2.2 = true → (pRun q l x).2.2.2.2.2.2 = true := by
  intro l
  induction l with
  | nil => intro x hx; exact hx
  | cons i r ih => intro x hx; exact ih _ (pItem_ov _ _ _ hx)
theorem s31 {post : Int32 → (Nat → Int32) → (Nat → Nat → Int32) → Prop} {q : Sc} {ni : Nat} {l : List Nat} (hl : l.length ≤ 96) (hlt : ∀ x ∈ l, x < ni) :
    ∀ (m qi : Nat) (J : Nat → Int32) (B : Nat → Nat → Int32) (t : Nat) (W : List (Option Nat)) (s : PS), qi + m = l.length → WOk s.1 W → s.2.2.2.2 = false → MSc q ni B → Hold 12 B l → J 24 = nI l.length → MSt J B s → (qi < l.length → HdAt B qi (asg s.2.2.2.1 (scP q (l.getD qi 0)) W (List.replicate (scP q (l.getD qi 0)).length none))) → HdNo B (4 * (qi + 1)) →
    ((pRun q (l.drop qi) (t, W, s)).2.2.2.2.2.2 = true → ∀ J1 B1, (∀ a, a ≠ 25 → J1 a = J a) → FrM B B1 → post (-7) J1 B1) →
    (∀ J1 B1, (∀ a, a ≠ 25 → J1 a = J a) → FrM B B1 → (pRun q (l.drop qi) (t, W, s)).2.2.2.2.2.2 = false → MSt J1 B1 (pRun q (l.drop qi) (t, W, s)).2.2 → post 0 J1 B1) → wp_TuneSetterModel_sound_31 post (m + 1) (nI t) (nI qi) J B := by
  intro m
  induction m with
  | zero =>
    intro qi J B t W s hqi hW hov hS hh h24 hM hHd hNo hOV hq
    rw [List.drop_eq_nil_of_le (by omega)] at hq
    unfold wp_TuneSetterModel_sound_31
    rw [h24]
    exact ⟨fun _ => hq J B (fun _ _ => rfl) (fun _ _ => rfl) hov hM, fun z => absurd (nI_le (by omega) (by omega)) z⟩
  | succ m ih =>
    intro qi J B t W s hqi hW hov hS hh h24 hM hHd hNo hOV hq
    have hlt1 : qi < l.length := by omega
    have hd : l.drop qi = l.getD qi 0 :: l.drop (qi + 1) := by rw [drop_cons l qi hlt1]; rfl
    have hib := hh qi hlt1
    have hin : l.getD qi 0 < ni := hlt _ (by rw [getD_at hlt1]; exact List.getElem_mem _)
    have hHd := hHd hlt1
    generalize hi : l.getD qi 0 = i at *
    rw [hd] at hq hOV
    unfold wp_TuneSetterModel_sound_31
    rw [h24, nI_clamp (by omega), hib]
    refine ⟨fun z => absurd z (nI_ge (by omega) (by omega)), fun _ => ⟨vp_in_nI (by omega) (by omega), fun v hv => ?_⟩⟩
    subst hv
    have hple := pItem_eq (t := t) (tk := q.2.1 i) (scP q i) W s hW
    have hone : ∀ r : List Nat, pRun q (i :: r) (t, W, s) = pRun q r (t + q.2.1 i, if q.2.2.2 i then (pItem t (q.2.1 i) (scP q i) W s).2.map some else [], (pItem t (q.2.1 i) (scP q i) W s).1) := fun _ => rfl
    rw [hone, hple] at hq hOV
    have hmn : q.1 i ≤ 4 := (hS.2 i hin).2.1
    refine ⟨q.1 i + 1, ?_⟩
    rw [show (0 : Int32) = nI 0 from by decide]
    refine s49 (t := t) (H := asg s.2.2.2.1 (scP q i) W (List.replicate (scP q i).length none)) hl hlt1 hi hlt (q.1 i) 0 J B s [] (by omega) rfl (fun y hy => by cases hy) hov hS hh h24 hM (fun x _ x2 => ?_) (fun x z x1 x2 => ?_) (fun h x hx => ?_) (fun x x1 x2 => hNo x (by omega) x2) (fun h => ?_) (fun J1 B1 g1 g2 g3 g4 g5 g6 g7 => ?_)
    · exact hHd x (by rw [asg_len _ _ _ _ (by simp), scP_len]; exact x2)
    · obtain ⟨w1, w2⟩ := asg_at (scP q i) W x x2
      exact ⟨hW z w1, by rw [w2, scP_at x1]⟩
    · rw [NN_len] at hx
      have hjn : l.getD (qi + 1) 0 < ni := hlt _ (by rw [getD_at h]; exact List.getElem_mem _)
      have h4 := (hS.2 _ hjn).2.1
      rw [hNo _ (by omega) (by omega)]
      unfold NN
      rw [show (if q.2.2.2 i = true then ([] : List Nat) else []) = [] from by split <;> rfl, List.foldl_nil, enO_rep]
    · rw [List.drop_zero, List.drop_zero] at h
      refine hOV (pRun_ov _ _ h)
    · rw [List.drop_zero, List.drop_zero, List.nil_append] at *
      refine ih (qi + 1) J1 B1 _ _ _ (by omega) (fun k hk => ?_) g3 (hS.kept g2) (fun x hx => by rw [g2 12 (by omega)]; exact hh x hx) (by rw [g1 24 (by decide)]; exact h24) g4 (fun h => ?_) (fun x x1 x2 => g7 x (by omega) x2) (fun h J2 B2 k1 k2 => hOV h J2 B2 (fun a ha => (k1 a ha).trans (g1 a ha)) (g2.trans k2)) (fun J2 B2 k1 k2 k3 k4 => hq J2 B2 (fun a ha => (k1 a ha).trans (g1 a ha)) (g2.trans k2) k3 k4)
      · split at hk
        · obtain ⟨y, hy, e⟩ := List.mem_map.mp hk
          cases e
          exact g5 k hy
        · cases hk
      · have := g6 h
        rw [show (if q.2.2.2 i = true then List.map some (pItemH t (q.2.1 i) (scP q i) (asg s.2.2.2.1 (scP q i) W (List.replicate (scP q i).length none)) s).2 else []) = (if q.2.2.2 i = true then (pItemH t (q.2.1 i) (scP q i) (asg s.2.2.2.1 (scP q i) W (List.replicate (scP q i).length none)) s).2 else []).map some from by split <;> rfl, asg_all _ _ _ _ (by simp)]
        unfold NN at this
        rw [scP_len q (l.getD (qi + 1) 0)]
        exact this
theorem s9 {post : Int32 → (Nat → Int32) → (Nat → Nat → Int32) → Prop} {J : Nat → Int32} {y1 : Int32} : ∀ (m k : Nat) (B : Nat → Nat → Int32), k + m = 384 → (∀ x, x < k → B 16 x = -1) → (∀ B1, (∀ a, a ≠ 16 → B1 a = B a) → HdNo B1 0 → ∃ n31, wp_TuneSetterModel_sound_31 post n31 y1 0 J B1) → wp_TuneSetterModel_sound_9 post (m + 1) y1 (nI k) J B := by
  intro m
  induction m with
  | zero =>
    intro k B hk hB hq
    unfold wp_TuneSetterModel_sound_9
    rw [show (384 : Int32) = nI 384 from by decide]
    exact ⟨fun _ => hq B (fun _ _ => rfl) (fun x _ x2 => hB x (by omega)), fun z => absurd (nI_le (by omega) (by omega)) z⟩
  | succ m ih =>
    intro k B hk hB hq
    unfold wp_TuneSetterModel_sound_9
    rw [show (384 : Int32) = nI 384 from by decide, nI_clamp (by omega)]
    refine ⟨fun z => absurd z (nI_ge (by omega) (by omega)), fun _ => ⟨vp_in_nI (by omega) (by omega), fun v hv => ?_⟩⟩
    rw [hv, nI_1]
    refine ih (k + 1) _ (by omega) (fun x hx => ?_) (fun B1 g1 g2 => hq B1 (fun a ha => (g1 a ha).trans (upd2_ne ha)) g2)
    rw [upd2_eq]
    by_cases e : x = k
    · subst e; rw [upd_eq]
    · rw [upd_ne e]; exact hB x (by omega)
def PS0 : PS := (0, fun _ => 0, fun _ => 0, fun _ => 0, false)
theorem msound_ok {post : Int32 → (Nat → Int32) → (Nat → Nat → Int32) → Prop} {q : Sc} {ni : Nat} {l : List Nat} {J : Nat → Int32} {B : Nat → Nat → Int32} (hlt : ∀ x ∈ l, x < ni) (hS : MSc q ni B) (hP : MPl J B l)
    (hOV : (pRun q l (0, [], PS0)).2.2.2.2.2.2 = true → ∀ J1 B1, (∀ a, a ≠ 25 → J1 a = J a) → FrM B B1 → post (-7) J1 B1)
    (hq : ∀ J1 B1, (∀ a, a ≠ 25 → J1 a = J a) → FrM B B1 → (pRun q l (0, [], PS0)).2.2.2.2.2.2 = false → MSt J1 B1 (pRun q l (0, [], PS0)).2.2 → post 0 J1 B1) : wp_TuneSetterModel_sound J B post := by
  obtain ⟨h24, hl, hh⟩ := hP
  refine ⟨385, ?_⟩
  rw [show (0 : Int32) = nI 0 from by decide]
  refine s9 384 0 B (by omega) (fun x hx => by omega) (fun B1 g1 g2 => ⟨l.length + 1, ?_⟩)
  have hf : FrM B B1 := fun a ha => g1 a (by omega)
  rw [show (0 : Int32) = nI 0 from by decide]
  refine s31 hl hlt l.length 0 _ B1 0 [] PS0 (by omega) (fun k hk => by cases hk) rfl (hS.kept hf) (fun x hx => by rw [g1 12 (by decide)]; exact hh x hx) (by rw [upd_ne (by decide)]; exact h24) ⟨upd_eq _ _ _, by decide, fun k hk => absurd hk (Nat.not_lt_zero k)⟩ (fun h x hx => ?_) (fun x _ x2 => g2 x (Nat.zero_le _) x2) (fun h J1 B2 k1 k2 => ?_) (fun J1 B2 k1 k2 k3 k4 => ?_)
  · rw [asg_nil _ _ _ (by simp)] at hx ⊢
    rw [List.length_replicate, scP_len] at hx
    have hjn : l.getD 0 0 < ni := hlt _ (by rw [getD_at h]; exact List.getElem_mem _)
    have h4 := (hS.2 _ hjn).2.1
    rw [g2 _ (by omega) (by omega), enO_rep]
  · rw [List.drop_zero] at h
    exact hOV h J1 B2 (fun a ha => (k1 a ha).trans (upd_ne ha)) (hf.trans k2)
  · rw [List.drop_zero] at k3 k4
    exact hq J1 B2 (fun a ha => (k1 a ha).trans (upd_ne ha)) (hf.trans k2) k3 k4
/-- bounds -/
def PBd (t u : Nat) (s : PS) : Prop := s.1 ≤ 64 ∧ ∀ k, k < s.1 → s.2.1 k ≤ t ∧ s.2.2.1 k ≤ u ∧ 0 < s.2.2.1 k ∧ s.2.2.2.1 k < 128
theorem pNote_bd {t u tk p : Nat} {s : PS} {h : Option Nat} (hs : PBd t u s) (htk : 0 < tk) (hp : p < 128) : PBd t (u + tk) (pNote t tk s p h).1 := by
  obtain ⟨h1, h2⟩ := hs
  unfold pNote
  cases h with
  | some y =>
    refine ⟨h1, fun k hk => ?_⟩
    obtain ⟨a1, a2, a3, a4⟩ := h2 k hk
    simp only
    by_cases e : k = y
    · subst e; rw [upN_eq]; exact ⟨a1, by omega, by omega, a4⟩
    · rw [upN_ne e]; exact ⟨a1, by omega, a3, a4⟩
  | none =>
    simp only
    split
    · refine ⟨by simp only; omega, fun k hk => ?_⟩
      simp only at hk ⊢
      by_cases e : k = s.1
      · subst e; rw [upN_eq, upN_eq, upN_eq]; exact ⟨Nat.le_refl _, by omega, htk, hp⟩
      · rw [upN_ne e, upN_ne e, upN_ne e]
        obtain ⟨a1, a2, a3, a4⟩ := h2 k (by omega)
        exact ⟨a1, by omega, a3, a4⟩
    · refine ⟨h1, fun k hk => ?_⟩
      obtain ⟨a1, a2, a3, a4⟩ := h2 k hk
      exact ⟨a1, Nat.le_trans a2 (Nat.le_add_right _ _), a3, a4⟩
theorem pItem_bd {t tk : Nat} (htk : 0 < tk) : ∀ (ps : List Nat) (W : List (Option Nat)) (s : PS) (u : Nat), PBd t u s → (∀ p ∈ ps, p < 128) → PBd t (u + ps.length * tk) (pItem t tk ps W s).1 := by
  intro ps
  induction ps with
  | nil => intro W s u h _; simpa [pItem] using h
  | cons p r ih =>
    intro W s u h hp
    have := ih (tkW s.2.2.2.1 p W).2 (pNote t tk s p (tkW s.2.2.2.1 p W).1).1 (u + tk) (pNote_bd h htk (hp p List.mem_cons_self)) (fun x hx => hp x (List.mem_cons_of_mem _ hx))
    rw [List.length_cons, Nat.add_mul, Nat.one_mul, Nat.add_comm (r.length * tk) tk, ← Nat.add_assoc]
    exact this
theorem pRun_bd {q : Sc} {ni : Nat} (hS : ∀ i, i < ni → q.1 i ≤ 4 ∧ 0 < q.2.1 i ∧ q.2.1 i ≤ 1536 ∧ ∀ k, k < q.1 i → q.2.2.1 i k < 128) : ∀ (l : List Nat) (x : PX), (∀ i ∈ l, i < ni) → PBd x.1 (4 * x.1) x.2.2 → PBd (pRun q l x).1 (4 * (pRun q l x).1) (pRun q l x).2.2 ∧ (pRun q l x).1 ≤ x.1 + 1536 * l.length := by
  intro l
  induction l with
  | nil => intro x _ h; exact ⟨h, by simp [pRun]⟩
  | cons i r ih =>
    intro x hlt h
    obtain ⟨s1, s2, s3, s4⟩ := hS i (hlt i List.mem_cons_self)
    have hb := pItem_bd (t := x.1) (tk := q.2.1 i) s2 (scP q i) x.2.1 x.2.2 (4 * x.1) h (fun p hp => by
      obtain ⟨k, hk, e⟩ := List.mem_map.mp hp
      rw [← e]
      exact s4 k (List.mem_range.mp hk))
    rw [scP_len] at hb
    have hmul : q.1 i * q.2.1 i ≤ 4 * q.2.1 i := Nat.mul_le_mul_right _ s1
    have h2 : PBd (pOne q x i).1 (4 * (pOne q x i).1) (pOne q x i).2.2 := by
      refine ⟨hb.1, fun k hk => ?_⟩
      obtain ⟨a1, a2, a3, a4⟩ := hb.2 k hk
      simp only [pOne]
      exact ⟨by omega, by omega, a3, a4⟩
    obtain ⟨h3, h4⟩ := ih (pOne q x i) (fun j hj => hlt j (List.mem_cons_of_mem _ hj)) h2
    refine ⟨h3, Nat.le_trans h4 ?_⟩
    simp only [pOne, List.length_cons]
    omega

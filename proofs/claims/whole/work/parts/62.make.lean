/-! the class's file -/
def evL (o d p : Nat → Nat) : Nat → List Nat
  | 0 => []
  | n + 1 => evL o d p n ++ [o n * 256 + 128 + p n, (o n + d n) * 256 + p n]
theorem evL_len (o d p : Nat → Nat) (n : Nat) : (evL o d p n).length = 2 * n := by
  induction n with
  | zero => rfl
  | succ n ih => rw [evL, List.length_append, ih]; simp; omega
theorem evL_lt {o d p : Nat → Nat} {c : Nat} (h : ∀ i, i < c → o i + d i ≤ 800000 ∧ p i < 128) : ∀ x ∈ evL o d p c, x < 300000000 := by
  induction c with
  | zero => intro x hx; cases hx
  | succ n ih =>
    intro x hx
    have hn := h n (by omega)
    rcases List.mem_append.mp hx with e | e
    · exact ih (fun i hi => h i (by omega)) x e
    · simp at e
      omega
theorem gather_loop {post : (Nat → Int32) → (Nat → Nat → Int32) → Prop} {o d p : Nat → Nat} {c : Nat} (hc : c ≤ 64) (hb : ∀ i, i < c → o i + d i ≤ 800000 ∧ p i < 128) :
    ∀ (m i : Nat) (I : Nat → Int32) (A : Nat → Nat → Int32) (l : List Nat), i + m = c → I 23 = nI c → (∀ k, k < c → A 17 k = nI (o k) ∧ A 18 k = nI (d k) ∧ A 19 k = nI (p k)) → l.Pairwise (· ≤ ·) → l.Perm (evL o d p i) → I 29 = nI l.length → Hold 24 A l →
    (∀ I1 A1 l1, (∀ k, k ≠ 29 → I1 k = I k) → (∀ k, k ≠ 24 → A1 k = A k) → l1.Pairwise (· ≤ ·) → l1.Perm (evL o d p c) → I1 29 = nI l1.length → Hold 24 A1 l1 → post I1 A1) → wp_NoteFile_gatherEvents_7 post (m + 1) (nI i) I A := by
  intro m
  induction m with
  | zero =>
    intro i I A l hi hI hA hs hpm h29 hh hp
    unfold wp_NoteFile_gatherEvents_7
    rw [hI]
    refine ⟨fun _ => hp I A l (fun _ _ => rfl) (fun _ _ => rfl) hs (by rw [show c = i by omega]; exact hpm) h29 hh, fun q => absurd (nI_le (by omega) (by omega)) q⟩
  | succ m ih =>
    intro i I A l hi hI hA hs hpm h29 hh hp
    have hic : i < c := by omega
    obtain ⟨a1, a2, a3⟩ := hA i hic
    obtain ⟨b1, b2⟩ := hb i hic
    have hlen : l.length = 2 * i := by rw [hpm.length_eq, evL_len]
    have hlt : ∀ x ∈ l, x < 300000000 := fun x hx => evL_lt (fun j hj => hb j (by omega)) x (hpm.mem_iff.mp hx)
    have v := vp_in_nI (n := i) (N := 64) (by omega) (by omega)
    unfold wp_NoteFile_gatherEvents_7
    rw [hI, nI_clamp (by omega), a1, a2, a3]
    refine ⟨fun q => absurd q (nI_ge (by omega) (by omega)), fun _ => ⟨v, fun x hx => ⟨v, fun y hy => ⟨v, ?_⟩⟩⟩⟩
    subst hx
    rw [nI_add] at hy
    subst hy
    refine sortIn_ok (v := o i * 256 + 128 + p i) (by rw [show (256 : Int32) = nI 256 from by decide, show (128 : Int32) = nI 128 from by decide, pk_mul, nI_add, nI_add]) (by omega) hs (by omega) hlt h29 hh (fun A1 hf1 hh1 => ⟨v, ?_⟩)
    have hp1 := insS_perm (o i * 256 + 128 + p i) l
    have hl1 : (insS (o i * 256 + 128 + p i) l).length = l.length + 1 := by rw [hp1.length_eq]; rfl
    have hlt1 : ∀ x ∈ insS (o i * 256 + 128 + p i) l, x < 300000000 := by
      intro x hx
      rcases List.mem_cons.mp (hp1.mem_iff.mp hx) with e | e
      · omega
      · exact hlt x e
    rw [hf1 19 (by decide), a3]
    refine sortIn_ok (v := (o i + d i) * 256 + p i) (by rw [show (256 : Int32) = nI 256 from by decide, pk_mul, nI_add]) (by omega) (insS_sorted hs) (by omega) hlt1 (by rw [upd_eq, hl1]) hh1 (fun A2 hf2 hh2 => ?_)
    intro w hw
    rw [hw, nI_1]
    have hp2 := insS_perm ((o i + d i) * 256 + p i) (insS (o i * 256 + 128 + p i) l)
    have hl2 : (insS ((o i + d i) * 256 + p i) (insS (o i * 256 + 128 + p i) l)).length = l.length + 2 := by rw [hp2.length_eq, List.length_cons, hl1]
    refine ih (i + 1) _ A2 (insS ((o i + d i) * 256 + p i) (insS (o i * 256 + 128 + p i) l)) (by omega) (by rw [upd_ne (by decide), upd_ne (by decide)]; exact hI) (fun k hk => ?_) (insS_sorted (insS_sorted hs)) ?_ (by rw [upd_eq, hl1, hl2]) hh2 (fun I3 A3 l3 g1 g2 g3 g4 g5 g6 => hp I3 A3 l3 (fun k hk => ?_) (fun k hk => (g2 k hk).trans ((hf2 k hk).trans (hf1 k hk))) g3 g4 g5 g6)
    · rw [hf2 17 (by decide), hf2 18 (by decide), hf2 19 (by decide), hf1 17 (by decide), hf1 18 (by decide), hf1 19 (by decide)]
      exact hA k hk
    · refine hp2.trans ((List.Perm.cons _ hp1).trans ((List.Perm.cons _ (List.Perm.cons _ hpm)).trans ?_))
      rw [evL]
      refine (List.Perm.swap _ _ _).trans ?_
      exact (List.perm_append_comm (l₁ := [o i * 256 + 128 + p i, (o i + d i) * 256 + p i]) (l₂ := evL o d p i))
    · rw [g1 k hk, upd_ne hk, upd_ne hk]
theorem events_loop {post : (Nat → Int32) → (Nat → Nat → Int32) → Prop} {l : List Nat} (hs : l.Pairwise (· ≤ ·)) (hl : l.length ≤ 128) (hb : ∀ x ∈ l, x < 300000000) :
    ∀ (m i t n : Nat) (I : Nat → Int32) (A : Nat → Nat → Int32), i + m = l.length → Hold 24 A l → I 29 = nI l.length → I 28 = nI n → n + 6 * m ≤ 790 → (∀ x ∈ l.drop i, t ≤ x / 256) → (∀ I1 A1, Put 28 23 I A I1 A1 n (evsB t (l.drop i)) → post I1 A1) → wp_NoteFile_putEvents_4 post (m + 1) (nI t) (nI i) I A := by
  intro m
  induction m with
  | zero =>
    intro i t n I A hi hh h29 h28 hn ht hp
    unfold wp_NoteFile_putEvents_4
    rw [h29]
    refine ⟨fun _ => hp I A ?_, fun q => absurd (nI_le (by omega) (by omega)) q⟩
    rw [List.drop_eq_nil_of_le (by omega)]
    exact Put.nil h28
  | succ m ih =>
    intro i t n I A hi hh h29 h28 hn ht hp
    have hil : i < l.length := by omega
    have hx : l.getD i 0 < 300000000 := by rw [getD_at hil]; exact hb _ (List.getElem_mem _)
    have hd := drop_cons l i hil
    have htx : t ≤ l.getD i 0 / 256 := ht _ (by rw [hd]; simp)
    generalize hxe : l.getD i 0 = x at *
    have v := vp_in_nI (n := i) (N := 128) (by omega) (by omega)
    unfold wp_NoteFile_putEvents_4
    rw [h29, nI_clamp (by omega), hh i hil, hxe]
    refine ⟨fun q => absurd q (nI_ge (by omega) (by omega)), fun _ => ⟨v, fun a ha => ⟨v, fun b hb2 => ?_⟩⟩⟩
    rw [nd (g := x) (d := 256) (by omega) (by omega) (by omega) 256 (by decide)] at ha
    rw [nm (g := x) (d := 256) (by omega) (by omega) (by omega) 256 (by decide)] at hb2
    subst ha; subst hb2
    refine putTicks_ok (g := x / 256 - t) h28 (by omega) (by omega) (pk_sub htx) (fun I1 A1 h1 => ?_)
    have gl := gapB_len (x / 256 - t)
    have rest : ∀ s0 : Int32, s0 = nI (if x / 128 % 2 = 1 then 144 else 128) → wp_NoteFile_putEvents_60 (fun y1 y2 I A => wp_NoteFile_putEvents_4 post (m + 1) y1 y2 I A) post (nI i) (nI (x / 256)) (nI (x % 256)) s0 I1 A1 := by
      intro s0 hs0
      refine put_ok h1.2.1 (by omega) hs0 (fun I2 A2 h2 => ?_)
      refine put_ok (v := x % 128) h2.2.1 (by simp; omega) (by rw [nm (g := x % 256) (d := 128) (by omega) (by omega) (by omega) 128 (by decide), show x % 256 % 128 = x % 128 by omega]) (fun I3 A3 h3 => ?_)
      refine put_ok (v := 64) h3.2.1 (by simp; omega) (by decide) (fun I4 A4 h4 => ?_)
      intro w hw
      rw [hw, nI_1]
      have hall : Put 28 23 I A I4 A4 n (evB t x) := h1.trans (h2.trans (h3.trans h4 rfl) rfl) rfl
      have el := evB_len t x
      refine ih (i + 1) (x / 256) (n + (evB t x).length) I4 A4 (by omega) (fun k hk => by rw [hall.2.2.1 24 (by decide)]; exact hh k hk) (by rw [hall.1 29 (by decide)]; exact h29) hall.2.1 (by omega) (fun y hy => ?_) (fun I5 A5 h5 => hp I5 A5 ?_)
      · have : x ≤ y := by
          rw [← List.take_append_drop i l, hd] at hs
          have h6 := (List.pairwise_append.mp hs).2.1
          exact (List.pairwise_cons.mp h6).1 y hy
        omega
      · rw [hd]
        exact hall.trans h5 rfl
    refine ⟨fun q => rest 128 ?_, fun q => rest 144 ?_⟩
    · have : x % 256 < 128 := by rw [show (128 : Int32) = nI 128 from by decide] at q; exact (nI_ltI (by omega) (by omega)).mp q
      rw [if_neg (by omega)]; decide
    · have : ¬ x % 256 < 128 := by rw [show (128 : Int32) = nI 128 from by decide] at q; exact mt (nI_ltI (by omega) (by omega)).mpr q
      rw [if_pos (by omega)]; decide
def cntL (a : Nat) : List Nat := [0, 0, a / 256 % 256, a % 256]
theorem cnt_val {a k : Nat} (ha : a < 65536) (hk : k < 4) : (nI a >>> (((24 : Int32) - ((8 : Int32) * nI k)) &&& 31)) &&& 255 = nI ((cntL a).getD k 0) := by
  have key : ∀ s : Nat, s < 32 → ∀ S : Int32, (S.toBitVec.smod 32).toNat = s → (nI a >>> S) &&& 255 = nI (a / 2 ^ s % 256) := by
    intro s _ S hS
    rw [pk_shrN (by omega) S s hS, pk_andN (n := a / 2 ^ s) (by have := Nat.div_le_self a (2 ^ s); omega) 8 (by decide)]
  rcases (show k = 0 ∨ k = 1 ∨ k = 2 ∨ k = 3 by omega) with rfl | rfl | rfl | rfl
  · rw [key 24 (by decide) _ (by decide)]; show nI (a / 16777216 % 256) = nI 0; congr 1; omega
  · rw [key 16 (by decide) _ (by decide)]; show nI (a / 65536 % 256) = nI 0; congr 1; omega
  · rw [key 8 (by decide) _ (by decide)]; rfl
  · rw [key 0 (by decide) _ (by decide)]; show nI (a / 1 % 256) = nI (a % 256); congr 1; omega
theorem putCount_loop {post : (Nat → Int32) → (Nat → Nat → Int32) → Prop} {a : Nat} (ha : a < 65536) {I : Nat → Int32} : ∀ (m k : Nat) (A : Nat → Nat → Int32), k + m = 4 → (∀ A1, (∀ j, j ≠ 23 → A1 j = A j) → (∀ j, j < 18 + k ∨ 22 ≤ j → A1 23 j = A 23 j) → (∀ j, k ≤ j → j < 4 → A1 23 (18 + j) = nI ((cntL a).getD j 0)) → post I A1) → wp_NoteFile_putCount_2 post (m + 1) (nI a) (nI k) I A := by
  intro m
  induction m with
  | zero =>
    intro k A hk hp
    unfold wp_NoteFile_putCount_2
    rw [show (4 : Int32) = nI 4 from by decide]
    exact ⟨fun _ => hp A (fun _ _ => rfl) (fun _ _ => rfl) (fun j h1 h2 => by omega), fun q => absurd (nI_le (by omega) (by omega)) q⟩
  | succ m ih =>
    intro k A hk hp
    unfold wp_NoteFile_putCount_2
    rw [show (4 : Int32) = nI 4 from by decide, show (18 : Int32) = nI 18 from by decide, nI_add, nI_clamp (by omega), cnt_val ha (by omega)]
    refine ⟨fun q => absurd q (nI_ge (by omega) (by omega)), fun _ => ⟨vp_in_nI (by omega) (by omega), fun w hw => ?_⟩⟩
    rw [hw, nI_1]
    refine ih (k + 1) _ (by omega) (fun A1 g1 g2 g3 => hp A1 (fun j hj => (g1 j hj).trans (upd2_ne hj)) (fun j hj => ?_) (fun j j1 j2 => ?_))
    · rw [g2 j (by omega), upd2_eq, upd_ne (by omega)]
    · by_cases e : j = k
      · subst e
        rw [g2 (18 + j) (by omega), upd2_eq, upd_eq]
      · exact g3 j (by omega) j2

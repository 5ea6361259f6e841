/-! bytes that are put, one behind the other: at number n of array a, whose length stands in field f, the list l comes -/
def Put (f a : Nat) (I : Nat → Int32) (A : Nat → Nat → Int32) (I1 : Nat → Int32) (A1 : Nat → Nat → Int32) (n : Nat) (l : List Nat) : Prop := (∀ k, k ≠ f → I1 k = I k) ∧ I1 f = nI (n + l.length) ∧ (∀ k, k ≠ a → A1 k = A k) ∧ (∀ j, j < n ∨ n + l.length ≤ j → A1 a j = A a j) ∧ ∀ k, k < l.length → A1 a (n + k) = nI (l.getD k 0)
theorem Put.nil {f a : Nat} {I : Nat → Int32} {A : Nat → Nat → Int32} {n : Nat} (h : I f = nI n) : Put f a I A I A n [] := ⟨fun _ _ => rfl, by simpa using h, fun _ _ => rfl, fun _ _ => rfl, fun k hk => absurd hk (Nat.not_lt_zero k)⟩
theorem Put.one {f a : Nat} {I : Nat → Int32} {A : Nat → Nat → Int32} {n v : Nat} : Put f a I A (upd I f (nI (n + 1))) (upd2 A a n (nI v)) n [v] := by
  refine ⟨fun k hk => upd_ne hk, ?_, fun k hk => upd2_ne hk, fun j hj => ?_, fun k hk => ?_⟩
  · rw [upd_eq]; rfl
  · rw [upd2_eq, upd_ne (by simp at hj; omega)]
  · have : k = 0 := by simp at hk; omega
    subst this
    rw [upd2_eq, Nat.add_zero, upd_eq]
    rfl
theorem Put.trans {f a : Nat} {I I1 I2 : Nat → Int32} {A A1 A2 : Nat → Nat → Int32} {n n1 : Nat} {l m : List Nat} (h : Put f a I A I1 A1 n l) (h2 : Put f a I1 A1 I2 A2 n1 m) (e : n1 = n + l.length) : Put f a I A I2 A2 n (l ++ m) := by
  subst e
  obtain ⟨a1, a2, a3, a4, a5⟩ := h
  obtain ⟨b1, b2, b3, b4, b5⟩ := h2
  refine ⟨fun k hk => (b1 k hk).trans (a1 k hk), by rw [b2, List.length_append, Nat.add_assoc], fun k hk => (b3 k hk).trans (a3 k hk), fun j hj => by rw [List.length_append] at hj; exact (b4 j (by omega)).trans (a4 j (by omega)), fun k hk => ?_⟩
  rw [List.length_append] at hk
  by_cases h : k < l.length
  · rw [b4 (n + k) (by omega), a5 k h, List.getD_eq_getElem?_getD, List.getD_eq_getElem?_getD, List.getElem?_append_left h]
  · have := b5 (k - l.length) (by omega)
    rw [show n + l.length + (k - l.length) = n + k by omega] at this
    rw [this, List.getD_eq_getElem?_getD, List.getD_eq_getElem?_getD, List.getElem?_append_right (by omega)]
def gapB (g : Nat) : List Nat := (if g < 16384 then [] else [128 + g / 16384 % 128]) ++ ((if g < 128 then [] else [128 + g / 128 % 128]) ++ [g % 128])
def evB (t v : Nat) : List Nat := gapB (v / 256 - t) ++ ([if v / 128 % 2 = 1 then 144 else 128] ++ ([v % 128] ++ [64]))
def evsB (t : Nat) : List Nat → List Nat
  | [] => []
  | v :: r => evB t v ++ evsB (v / 256) r
theorem gapB_len (g : Nat) : (gapB g).length ≤ 3 := by unfold gapB; split <;> split <;> simp
theorem evB_len (t v : Nat) : (evB t v).length ≤ 6 := by
  have := gapB_len (v / 256 - t)
  unfold evB
  simp only [List.length_append, List.length_cons, List.length_nil]
  omega
theorem evsB_len (l : List Nat) : ∀ t, (evsB t l).length ≤ 6 * l.length := by
  induction l with
  | nil => intro t; simp [evsB]
  | cons v r ih =>
    intro t
    have h1 := evB_len t v
    have h2 := ih (v / 256)
    simp only [evsB, List.length_append, List.length_cons]
    omega
/-! numbers -/
theorem nd {g d : Nat} (hg : g < 2 ^ 31) (h0 : 0 < d) (hd : d < 2 ^ 31) (D : Int32) (e : D = nI d) : nI g / D = nI (g / d) := by rw [e]; exact pk_div hg h0 hd
theorem nm {g d : Nat} (hg : g < 2 ^ 31) (h0 : 0 < d) (hd : d < 2 ^ 31) (D : Int32) (e : D = nI d) : nI g - nI g / D * D = nI (g % d) := by rw [e]; exact pk_rem hg h0 hd
section PC
variable {I : Nat → Int32} {A : Nat → Nat → Int32} {post : (Nat → Int32) → (Nat → Nat → Int32) → Prop}
theorem put_ok {n v : Nat} {x : Int32} (h : I 28 = nI n) (hn : n < 794) (hx : x = nI v) (hp : ∀ I1 A1, Put 28 23 I A I1 A1 n [v] → post I1 A1) : wp_NoteFile_put x I A post := by
  subst hx
  unfold wp_NoteFile_put
  rw [h]
  refine ⟨fun q => ?_, fun _ => ⟨vp_in_nI hn (by omega), ?_⟩⟩
  · rw [show (794 : Int32) = nI 794 from by decide] at q
    exact absurd q (nI_ge hn (by omega))
  · rw [nI_1, nI_clamp (by omega)]
    exact hp _ _ Put.one
theorem emit_ok {n v : Nat} {x : Int32} (h : I 26 = nI n) (hn : n < 900) (hv : v < 256) (hx : x = nI v) (hp : ∀ I1 A1, Put 26 17 I A I1 A1 n [v] → post I1 A1) : wp_TuneSetterModel_emit x I A post := by
  subst hx
  unfold wp_TuneSetterModel_emit
  rw [h]
  refine ⟨vp_in_nI hn (by omega), ?_⟩
  rw [nI_1, nI_clamp (by omega), pk_andN (by omega) 8 (by decide), Nat.mod_eq_of_lt hv]
  exact hp _ _ Put.one
theorem emit_mod {n v : Nat} {x : Int32} (h : I 26 = nI n) (hn : n < 900) (hv : v < 2 ^ 31) (hx : x = nI v) (hp : ∀ I1 A1, Put 26 17 I A I1 A1 n [v % 256] → post I1 A1) : wp_TuneSetterModel_emit x I A post := by
  subst hx
  unfold wp_TuneSetterModel_emit
  rw [h]
  refine ⟨vp_in_nI hn (by omega), ?_⟩
  rw [nI_1, nI_clamp (by omega), pk_andN (by omega) 8 (by decide)]
  exact hp _ _ Put.one
theorem putTicks_ok {n g : Nat} {x : Int32} (h : I 28 = nI n) (hn : n + 3 ≤ 794) (hg : g < 2000000) (hx : x = nI g) (hp : ∀ I1 A1, Put 28 23 I A I1 A1 n (gapB g) → post I1 A1) : wp_NoteFile_putTicks x I A post := by
  subst hx
  have d1 := nd (g := g) (d := 128) (by omega) (by omega) (by omega) 128 (by decide)
  have d2 := nd (g := g) (d := 16384) (by omega) (by omega) (by omega) 16384 (by decide)
  have m1 := nm (g := g) (d := 128) (by omega) (by omega) (by omega) 128 (by decide)
  have m2 := nm (g := g / 128) (d := 128) (by omega) (by omega) (by omega) 128 (by decide)
  have m3 := nm (g := g / 16384) (d := 128) (by omega) (by omega) (by omega) 128 (by decide)
  have tail : ∀ (I1 : Nat → Int32) (A1 : Nat → Nat → Int32) (l : List Nat), l.length ≤ 1 → Put 28 23 I A I1 A1 n l → (∀ I2 A2, Put 28 23 I A I2 A2 n (l ++ ((if g < 128 then [] else [128 + g / 128 % 128]) ++ [g % 128])) → post I2 A2) → wp_NoteFile_putTicks_24 post (nI g) I1 A1 := by
    intro I1 A1 l hl h1 hq
    unfold wp_NoteFile_putTicks_24
    refine ⟨fun q => ?_, fun q => ?_⟩
    · have hlt : g < 128 := by rw [show (128 : Int32) = nI 128 from by decide] at q; exact (nI_ltI (by omega) (by omega)).mp q
      rw [if_pos hlt] at hq
      exact put_ok h1.2.1 (by omega) m1 (fun I2 A2 h2 => hq I2 A2 (h1.trans h2 rfl))
    · have hlt : ¬ g < 128 := by rw [show (128 : Int32) = nI 128 from by decide] at q; exact mt (nI_ltI (by omega) (by omega)).mpr q
      rw [if_neg hlt] at hq
      refine put_ok (v := 128 + g / 128 % 128) h1.2.1 (by omega) (by rw [d1, m2, show (128 : Int32) = nI 128 from by decide, nI_add]) (fun I2 A2 h2 => ?_)
      refine put_ok (v := g % 128) h2.2.1 (by simp; omega) m1 (fun I3 A3 h3 => hq I3 A3 (h1.trans (h2.trans h3 rfl) rfl))
  unfold wp_NoteFile_putTicks
  unfold gapB at hp
  refine ⟨fun q => ?_, fun q => ?_⟩
  · have hlt : g < 16384 := by rw [show (16384 : Int32) = nI 16384 from by decide] at q; exact (nI_ltI (by omega) (by omega)).mp q
    rw [if_pos hlt] at hp
    exact tail I A [] (by simp) (Put.nil h) hp
  · have hlt : ¬ g < 16384 := by rw [show (16384 : Int32) = nI 16384 from by decide] at q; exact mt (nI_ltI (by omega) (by omega)).mpr q
    rw [if_neg hlt] at hp
    refine put_ok (v := 128 + g / 16384 % 128) h (by omega) (by rw [d2, m3, show (128 : Int32) = nI 128 from by decide, nI_add]) (fun I2 A2 h2 => ?_)
    exact tail I2 A2 _ (by simp) h2 hp
theorem emitGap_ok {n g : Nat} {x : Int32} (h : I 26 = nI n) (hn : n + 3 ≤ 900) (hg : g < 2000000) (hx : x = nI g) (hp : ∀ I1 A1, Put 26 17 I A I1 A1 n (gapB g) → post I1 A1) : wp_TuneSetterModel_emitGap x I A post := by
  subst hx
  have d1 := nd (g := g) (d := 128) (by omega) (by omega) (by omega) 128 (by decide)
  have d2 := nd (g := g) (d := 16384) (by omega) (by omega) (by omega) 16384 (by decide)
  have m1 := nm (g := g) (d := 128) (by omega) (by omega) (by omega) 128 (by decide)
  have m2 := nm (g := g / 128) (d := 128) (by omega) (by omega) (by omega) 128 (by decide)
  have m3 := nm (g := g / 16384) (d := 128) (by omega) (by omega) (by omega) 128 (by decide)
  have tail : ∀ (I1 : Nat → Int32) (A1 : Nat → Nat → Int32) (l : List Nat), l.length ≤ 1 → Put 26 17 I A I1 A1 n l → (∀ I2 A2, Put 26 17 I A I2 A2 n (l ++ ((if g < 128 then [] else [128 + g / 128 % 128]) ++ [g % 128])) → post I2 A2) → wp_TuneSetterModel_emitGap_24 post (nI g) I1 A1 := by
    intro I1 A1 l hl h1 hq
    unfold wp_TuneSetterModel_emitGap_24
    refine ⟨fun q => ?_, fun q => ?_⟩
    · have hlt : g < 128 := by rw [show (128 : Int32) = nI 128 from by decide] at q; exact (nI_ltI (by omega) (by omega)).mp q
      rw [if_pos hlt] at hq
      exact emit_ok h1.2.1 (by omega) (by omega) m1 (fun I2 A2 h2 => hq I2 A2 (h1.trans h2 rfl))
    · have hlt : ¬ g < 128 := by rw [show (128 : Int32) = nI 128 from by decide] at q; exact mt (nI_ltI (by omega) (by omega)).mpr q
      rw [if_neg hlt] at hq
      refine emit_ok (v := 128 + g / 128 % 128) h1.2.1 (by omega) (by omega) (by rw [d1, m2, show (128 : Int32) = nI 128 from by decide, nI_add]) (fun I2 A2 h2 => ?_)
      refine emit_ok (v := g % 128) h2.2.1 (by simp; omega) (by omega) m1 (fun I3 A3 h3 => hq I3 A3 (h1.trans (h2.trans h3 rfl) rfl))
  unfold wp_TuneSetterModel_emitGap
  unfold gapB at hp
  refine ⟨fun q => ?_, fun q => ?_⟩
  · have hlt : g < 16384 := by rw [show (16384 : Int32) = nI 16384 from by decide] at q; exact (nI_ltI (by omega) (by omega)).mp q
    rw [if_pos hlt] at hp
    exact tail I A [] (by simp) (Put.nil h) hp
  · have hlt : ¬ g < 16384 := by rw [show (16384 : Int32) = nI 16384 from by decide] at q; exact mt (nI_ltI (by omega) (by omega)).mpr q
    rw [if_neg hlt] at hp
    refine emit_ok (v := 128 + g / 16384 % 128) h (by omega) (by omega) (by rw [d2, m3, show (128 : Int32) = nI 128 from by decide, nI_add]) (fun I2 A2 h2 => ?_)
    exact tail I2 A2 _ (by simp) h2 hp
end PC
def headL : List Nat := [77, 84, 104, 100, 0, 0, 0, 6, 0, 0, 0, 1, 0, 96, 77, 84, 114, 107]
def tailL : List Nat := [0, 255, 47, 0]
theorem head_at : ∀ k, k < 18 → tb_HEAD k = nI (headL.getD k 0) := by decide
theorem tail_at : ∀ k, k < 4 → tb_TAIL k = nI (tailL.getD k 0) := by decide
theorem drop_cons (l : List Nat) (k : Nat) (h : k < l.length) : l.drop k = [l.getD k 0] ++ l.drop (k + 1) := by
  rw [List.drop_eq_getElem_cons h]
  simp [List.getD_eq_getElem?_getD, h]
theorem putHead {post : (Nat → Int32) → (Nat → Nat → Int32) → Prop} : ∀ (m k n : Nat) (I : Nat → Int32) (A : Nat → Nat → Int32), k + m = 18 → I 28 = nI n → n + m ≤ 794 → (∀ I1 A1, Put 28 23 I A I1 A1 n (headL.drop k) → post I1 A1) → wp_NoteFile_putAll_63_8 post (m + 1) 18 (nI k) I A := by
  intro m
  induction m with
  | zero =>
    intro k n I A hk h hn hp
    unfold wp_NoteFile_putAll_63_8
    rw [show (18 : Int32) = nI 18 from by decide]
    refine ⟨fun _ => hp I A ?_, fun q => absurd (nI_le (by omega) (by omega)) q⟩
    rw [show headL.drop k = [] from by rw [show k = 18 by omega]; rfl]
    exact Put.nil h
  | succ m ih =>
    intro k n I A hk h hn hp
    unfold wp_NoteFile_putAll_63_8
    rw [show (18 : Int32) = nI 18 from by decide]
    refine ⟨fun q => absurd q (nI_ge (by omega) (by omega)), fun _ => ⟨vp_in_nI (by omega) (by omega), fun v hv => ?_⟩⟩
    rw [nI_clamp (by omega), head_at k (by omega)] at hv
    refine put_ok h (by omega) hv (fun I1 A1 h1 => ?_)
    intro w hw
    rw [hw, nI_1, show nI 18 = (18 : Int32) from by decide]
    refine ih (k + 1) (n + 1) I1 A1 (by omega) h1.2.1 (by omega) (fun I2 A2 h2 => hp I2 A2 ?_)
    rw [drop_cons headL k (by show k < 18; omega)]
    exact h1.trans h2 rfl
theorem putTail {post : (Nat → Int32) → (Nat → Nat → Int32) → Prop} : ∀ (m k n : Nat) (I : Nat → Int32) (A : Nat → Nat → Int32), k + m = 4 → I 28 = nI n → n + m ≤ 794 → (∀ I1 A1, Put 28 23 I A I1 A1 n (tailL.drop k) → post I1 A1) → wp_NoteFile_putAll_64_8 post (m + 1) 4 (nI k) I A := by
  intro m
  induction m with
  | zero =>
    intro k n I A hk h hn hp
    unfold wp_NoteFile_putAll_64_8
    rw [show (4 : Int32) = nI 4 from by decide]
    refine ⟨fun _ => hp I A ?_, fun q => absurd (nI_le (by omega) (by omega)) q⟩
    rw [show tailL.drop k = [] from by rw [show k = 4 by omega]; rfl]
    exact Put.nil h
  | succ m ih =>
    intro k n I A hk h hn hp
    unfold wp_NoteFile_putAll_64_8
    rw [show (4 : Int32) = nI 4 from by decide]
    refine ⟨fun q => absurd q (nI_ge (by omega) (by omega)), fun _ => ⟨vp_in_nI (by omega) (by omega), fun v hv => ?_⟩⟩
    rw [nI_clamp (by omega), tail_at k (by omega)] at hv
    refine put_ok h (by omega) hv (fun I1 A1 h1 => ?_)
    intro w hw
    rw [hw, nI_1, show nI 4 = (4 : Int32) from by decide]
    refine ih (k + 1) (n + 1) I1 A1 (by omega) h1.2.1 (by omega) (fun I2 A2 h2 => hp I2 A2 ?_)
    rw [drop_cons tailL k (by show k < 4; omega)]
    exact h1.trans h2 rfl

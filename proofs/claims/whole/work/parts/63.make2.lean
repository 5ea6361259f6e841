/-! the class's whole file -/
def HoldAt (a : Nat) (A : Nat → Nat → Int32) (n : Nat) (l : List Nat) : Prop := ∀ k, k < l.length → A a (n + k) = nI (l.getD k 0)
theorem HoldAt.app {a : Nat} {A : Nat → Nat → Int32} {n : Nat} {l m : List Nat} (h : HoldAt a A n l) (h2 : HoldAt a A (n + l.length) m) : HoldAt a A n (l ++ m) := by
  intro k hk
  rw [List.length_append] at hk
  by_cases hkl : k < l.length
  · rw [h k hkl, List.getD_eq_getElem?_getD, List.getD_eq_getElem?_getD, List.getElem?_append_left hkl]
  · have := h2 (k - l.length) (by omega)
    rw [show n + l.length + (k - l.length) = n + k by omega] at this
    rw [this, List.getD_eq_getElem?_getD, List.getD_eq_getElem?_getD, List.getElem?_append_right (by omega)]
theorem Put.hold {f a : Nat} {I : Nat → Int32} {A : Nat → Nat → Int32} {I1 : Nat → Int32} {A1 : Nat → Nat → Int32} {n : Nat} {l : List Nat} (h : Put f a I A I1 A1 n l) : HoldAt a A1 n l := h.2.2.2.2
def restL (l : List Nat) : List Nat := evsB 0 l ++ tailL
def fileL (l : List Nat) : List Nat := headL ++ (cntL (restL l).length ++ restL l)
theorem restL_len (l : List Nat) (h : l.length ≤ 128) : (restL l).length ≤ 772 := by
  have := evsB_len l 0
  unfold restL
  rw [List.length_append]
  have : tailL.length = 4 := rfl
  omega
theorem fileL_len (l : List Nat) : (fileL l).length = 22 + (restL l).length := by
  unfold fileL
  rw [List.length_append, List.length_append]
  have h1 : headL.length = 18 := rfl
  have h2 : (cntL (restL l).length).length = 4 := rfl
  omega
set_option maxHeartbeats 1000000 in
theorem make_ok {post : (Nat → Int32) → (Nat → Nat → Int32) → Prop} {o d p : Nat → Nat} {c : Nat} {I : Nat → Int32} {A : Nat → Nat → Int32} (hc : c ≤ 64) (hb : ∀ i, i < c → o i + d i ≤ 800000 ∧ p i < 128) (hI : I 23 = nI c) (hA : ∀ k, k < c → A 17 k = nI (o k) ∧ A 18 k = nI (d k) ∧ A 19 k = nI (p k))
    (hp : ∀ I1 A1 l, l.Pairwise (· ≤ ·) → l.Perm (evL o d p c) → (∀ k, k ≠ 28 → k ≠ 29 → I1 k = I k) → (∀ k, k ≠ 23 → k ≠ 24 → A1 k = A k) → I1 28 = nI (fileL l).length → Hold 23 A1 (fileL l) → post I1 A1) : wp_NoteFile_make I A post := by
  unfold wp_NoteFile_make
  refine ⟨19, ?_⟩
  rw [show (0 : Int32) = nI 0 from by decide]
  refine putHead 18 0 0 _ A (by omega) (upd_eq _ _ _) (by omega) (fun I9 A9 h9 => ?_)
  have e9 : I9 28 = nI 18 := h9.2.1
  refine ⟨c + 1, ?_⟩
  rw [e9, show (4 : Int32) = nI 4 from by decide, nI_add, show (0 : Int32) = nI 0 from by decide]
  refine gather_loop hc hb c 0 _ A9 [] (by omega) ?_ (fun k hk => ?_) List.Pairwise.nil (List.Perm.refl _) (upd_eq _ _ _) (fun k hk => absurd hk (Nat.not_lt_zero k)) (fun I2 A2 l g1 g2 g3 g4 g5 g6 => ?_)
  · rw [upd_ne (by decide), upd_ne (by decide), h9.1 23 (by decide), upd_ne (by decide)]; exact hI
  · rw [h9.2.2.1 17 (by decide), h9.2.2.1 18 (by decide), h9.2.2.1 19 (by decide)]; exact hA k hk
  have hlen : l.length = 2 * c := by rw [g4.length_eq, evL_len]
  have hlt : ∀ x ∈ l, x < 300000000 := fun x hx => evL_lt hb x (g4.mem_iff.mp hx)
  have e22 : I2 28 = nI 22 := by rw [g1 28 (by decide), upd_ne (by decide), upd_eq]
  have el := evsB_len l 0
  refine ⟨l.length + 1, ?_⟩
  rw [show (0 : Int32) = nI 0 from by decide]
  refine events_loop g3 (by omega) hlt l.length 0 0 22 I2 A2 (by omega) g6 g5 e22 (by omega) (fun x _ => Nat.zero_le _) (fun I3 A3 h3 => ?_)
  rw [List.drop_zero] at h3
  refine ⟨5, ?_⟩
  rw [show (0 : Int32) = nI 0 from by decide]
  refine putTail 4 0 (22 + (evsB 0 l).length) I3 A3 (by omega) h3.2.1 (by omega) (fun I4 A4 h4 => ?_)
  rw [List.drop_zero] at h4
  have h34 : Put 28 23 I2 A2 I4 A4 22 (restL l) := h3.trans h4 rfl
  have rl := restL_len l (by omega)
  refine ⟨5, ?_⟩
  rw [h34.2.1, show (18 : Int32) = nI 18 from by decide, pk_sub (by omega), pk_sub (by omega), show 22 + (restL l).length - 18 - 4 = (restL l).length by omega, show (0 : Int32) = nI 0 from by decide]
  refine putCount_loop (by omega) 4 0 A4 (by omega) (fun A5 k1 k2 k3 => ?_)
  refine hp I4 A5 l g3 g4 (fun k q1 q2 => ?_) (fun k q1 q2 => ?_) ?_ ?_
  · rw [h34.1 k q1, g1 k q2, upd_ne q2, upd_ne q1, h9.1 k q1, upd_ne q1]
  · rw [k1 k q1, h34.2.2.1 k q1, g2 k q2, h9.2.2.1 k q1]
  · rw [h34.2.1, fileL_len]
  · have : HoldAt 23 A5 0 (fileL l) := by
      refine HoldAt.app (fun k hk => ?_) (HoldAt.app (fun k hk => ?_) (fun k hk => ?_))
      · have hk : k < 18 := hk
        rw [Nat.zero_add, k2 k (by omega), h34.2.2.2.1 k (by omega), g2 23 (by decide)]
        have := h9.hold k hk
        rw [Nat.zero_add, List.drop_zero] at this
        exact this
      · have hk : k < 4 := hk
        rw [show 0 + headL.length = 18 from rfl]
        exact k3 k (Nat.zero_le _) hk
      · rw [show 0 + headL.length + (cntL (restL l).length).length = 22 from rfl, k2 (22 + k) (by omega)]
        exact h34.hold k hk
    intro k hk
    have := this k hk
    rw [Nat.zero_add] at this
    exact this

/-! write: both files are one -/
section HD
variable {post : (Nat → Int32) → (Nat → Nat → Int32) → Prop}
theorem head113 {a n : Nat} {J : Nat → Int32} {B : Nat → Nat → Int32} (ha : a < 65536) (h : J 26 = nI n) (hn : n + 4 ≤ 900) (hp : ∀ J1 B1, Put 26 17 J B J1 B1 n (cntL a) → post J1 B1) : ∃ n113, wp_TuneSetterModel_heading_113 post n113 (nI a) 3 J B := by
  refine ⟨5, ?_⟩
  have key : ∀ (S : Int32) (s : Nat), ((S.toUInt32 &&& Int32.toUInt32 31).toBitVec % 32).toNat = s → ((nI a).toUInt32 >>> (S.toUInt32 &&& Int32.toUInt32 31)).toInt32 = nI (a / 2 ^ s) := fun S s hS => pk_ushrN (by omega) S s hS
  unfold wp_TuneSetterModel_heading_113
  refine ⟨fun z => absurd z (by decide), fun _ => ?_⟩
  refine emit_mod (v := a / 2 ^ 24) h (by omega) (by omega) (key _ 24 (by decide)) (fun J1 B1 h1 => ?_)
  intro w hw
  rw [hw, show (3 : Int32) + (-1) = 2 from by decide]
  unfold wp_TuneSetterModel_heading_113
  refine ⟨fun z => absurd z (by decide), fun _ => ?_⟩
  refine emit_mod (v := a / 2 ^ 16) h1.2.1 (by simp; omega) (by omega) (key _ 16 (by decide)) (fun J2 B2 h2 => ?_)
  intro w hw
  rw [hw, show (2 : Int32) + (-1) = 1 from by decide]
  unfold wp_TuneSetterModel_heading_113
  refine ⟨fun z => absurd z (by decide), fun _ => ?_⟩
  refine emit_mod (v := a / 2 ^ 8) h2.2.1 (by simp; omega) (by omega) (key _ 8 (by decide)) (fun J3 B3 h3 => ?_)
  intro w hw
  rw [hw, show (1 : Int32) + (-1) = 0 from by decide]
  unfold wp_TuneSetterModel_heading_113
  refine ⟨fun z => absurd z (by decide), fun _ => ?_⟩
  refine emit_mod (v := a / 2 ^ 0) h3.2.1 (by simp; omega) (by omega) (key _ 0 (by decide)) (fun J4 B4 h4 => ?_)
  intro w hw
  rw [hw, show (0 : Int32) + (-1) = -1 from by decide]
  unfold wp_TuneSetterModel_heading_113
  refine ⟨fun _ => hp J4 B4 ?_, fun z => absurd (by decide) z⟩
  have := h1.trans (h2.trans (h3.trans h4 rfl) rfl) rfl
  rw [show cntL a = [a / 2 ^ 24 % 256] ++ ([a / 2 ^ 16 % 256] ++ ([a / 2 ^ 8 % 256] ++ [a / 2 ^ 0 % 256])) from by
    unfold cntL
    rw [show a / 2 ^ 24 % 256 = 0 by omega, show a / 2 ^ 16 % 256 = 0 by omega]
    simp]
  exact this
theorem zeros31 {y1 : Int32} : ∀ (m k n : Nat) (J : Nat → Int32) (B : Nat → Nat → Int32), k + m = 3 → J 26 = nI n → n + m ≤ 900 → (∀ J1 B1, Put 26 17 J B J1 B1 n (List.replicate m 0) → wp_TuneSetterModel_emit 6 J1 B1 (fun I50 A50 => ∃ n55, wp_TuneSetterModel_heading_55 post n55 y1 0 I50 A50)) → wp_TuneSetterModel_heading_31 post (m + 1) y1 (nI k) J B := by
  intro m
  induction m with
  | zero =>
    intro k n J B hk h hn hp
    unfold wp_TuneSetterModel_heading_31
    rw [show (3 : Int32) = nI 3 from by decide]
    exact ⟨fun _ => hp J B (Put.nil h), fun z => absurd (nI_le (by omega) (by omega)) z⟩
  | succ m ih =>
    intro k n J B hk h hn hp
    unfold wp_TuneSetterModel_heading_31
    rw [show (3 : Int32) = nI 3 from by decide]
    refine ⟨fun z => absurd z (nI_ge (by omega) (by omega)), fun _ => emit_ok (v := 0) h (by omega) (by omega) (by decide) (fun J1 B1 h1 => ?_)⟩
    intro w hw
    rw [hw, nI_1]
    refine ih (k + 1) (n + 1) J1 B1 (by omega) h1.2.1 (by omega) (fun J2 B2 h2 => hp J2 B2 ?_)
    rw [List.replicate_succ]
    exact h1.trans h2 rfl
theorem zeros55 {y1 : Int32} : ∀ (m k n : Nat) (J : Nat → Int32) (B : Nat → Nat → Int32), k + m = 3 → J 26 = nI n → n + m ≤ 900 → (∀ J1 B1, Put 26 17 J B J1 B1 n (List.replicate m 0) → wp_TuneSetterModel_heading_55 post 1 y1 3 J1 B1) → wp_TuneSetterModel_heading_55 post (m + 1) y1 (nI k) J B := by
  intro m
  induction m with
  | zero =>
    intro k n J B hk h hn hp
    have := hp J B (Put.nil h)
    rw [show k = 3 by omega, show nI 3 = (3 : Int32) from by decide]
    exact this
  | succ m ih =>
    intro k n J B hk h hn hp
    unfold wp_TuneSetterModel_heading_55
    rw [show (3 : Int32) = nI 3 from by decide]
    refine ⟨fun z => absurd z (nI_ge (by omega) (by omega)), fun _ => emit_ok (v := 0) h (by omega) (by omega) (by decide) (fun J1 B1 h1 => ?_)⟩
    intro w hw
    rw [hw, nI_1]
    refine ih (k + 1) (n + 1) J1 B1 (by omega) h1.2.1 (by omega) (fun J2 B2 h2 => hp J2 B2 ?_)
    rw [List.replicate_succ]
    exact h1.trans h2 rfl
theorem heading_ok {a : Nat} {J : Nat → Int32} {B : Nat → Nat → Int32} (ha : a < 65536) (hp : ∀ J1 B1, Put 26 17 (upd J 26 0) B J1 B1 0 (headL ++ cntL a) → post J1 B1) : wp_TuneSetterModel_heading (nI a) J B post := by
  have h0 : (upd J 26 0) 26 = nI 0 := rfl
  unfold wp_TuneSetterModel_heading
  refine emit_ok (v := 77) h0 (by omega) (by omega) (by decide) (fun J1 B1 h1 => ?_)
  refine emit_ok (v := 84) h1.2.1 (by simp) (by omega) (by decide) (fun J2 B2 h2 => ?_)
  refine emit_ok (v := 104) h2.2.1 (by simp) (by omega) (by decide) (fun J3 B3 h3 => ?_)
  refine emit_ok (v := 100) h3.2.1 (by simp) (by omega) (by decide) (fun J4 B4 h4 => ?_)
  refine ⟨4, ?_⟩
  rw [show (0 : Int32) = nI 0 from by decide]
  refine zeros31 3 0 4 J4 B4 (by omega) h4.2.1 (by omega) (fun J5 B5 h5 => ?_)
  refine emit_ok (v := 6) h5.2.1 (by simp) (by omega) (by decide) (fun J6 B6 h6 => ?_)
  refine ⟨4, ?_⟩
  rw [show (0 : Int32) = nI 0 from by decide]
  refine zeros55 3 0 8 J6 B6 (by omega) h6.2.1 (by omega) (fun J7 B7 h7 => ?_)
  unfold wp_TuneSetterModel_heading_55
  refine ⟨fun _ => ?_, fun z => absurd (by decide) z⟩
  refine emit_ok (v := 1) h7.2.1 (by simp) (by omega) (by decide) (fun J8 B8 h8 => ?_)
  refine emit_ok (v := 0) h8.2.1 (by simp) (by omega) (by decide) (fun J9 B9 h9 => ?_)
  refine emit_ok (v := 96) h9.2.1 (by simp) (by omega) (by decide) (fun Ja Ba ha1 => ?_)
  refine emit_ok (v := 77) ha1.2.1 (by simp) (by omega) (by decide) (fun Jb Bb hb => ?_)
  refine emit_ok (v := 84) hb.2.1 (by simp) (by omega) (by decide) (fun Jc Bc hc => ?_)
  refine emit_ok (v := 114) hc.2.1 (by simp) (by omega) (by decide) (fun Jd Bd hd => ?_)
  refine emit_ok (v := 107) hd.2.1 (by simp) (by omega) (by decide) (fun Je Be he => ?_)
  refine head113 ha he.2.1 (by simp) (fun Jf Bf hf => hp Jf Bf ?_)
  have e := h1.trans (h2.trans (h3.trans (h4.trans (h5.trans (h6.trans (h7.trans (h8.trans (h9.trans (ha1.trans (hb.trans (hc.trans (hd.trans (he.trans hf rfl) rfl) rfl) rfl) rfl) rfl) rfl) rfl) rfl) rfl) rfl) rfl) rfl) rfl
  exact e
end HD
theorem mwrite_ok {post : Int32 → (Nat → Int32) → (Nat → Nat → Int32) → Prop} {o d p : Nat → Nat} {c : Nat} {l : List Nat} {J : Nat → Int32} {B : Nat → Nat → Int32} (hc : c ≤ 64) (hb : ∀ i, i < c → o i + d i ≤ 800000 ∧ p i < 128) (hs : l.Pairwise (· ≤ ·)) (hpm : l.Perm (evL o d p c)) (h6 : ¬ J 6 = 0) (h25 : J 25 = nI c) (hB : MNotes c o d p B)
    (hp : ∀ J1 B1, (∀ k, k ≠ 26 → J1 k = J k) → (∀ k, k ≠ 17 → B1 k = B k) → J1 26 = nI (fileL l).length → Hold 17 B1 (fileL l) → post (nI (fileL l).length) J1 B1) : wp_TuneSetterModel_write J B post := by
  have hlen : l.length = 2 * c := by rw [hpm.length_eq, evL_len]
  have hf : l.filter (gtL none) = l := List.filter_eq_self.mpr (fun _ _ => rfl)
  refine ⟨fun z => absurd z h6, fun _ => ⟨l.length + 2, ?_⟩⟩
  rw [show (0 : Int32) = nI 0 from by decide]
  have rl := restL_len l (by omega)
  refine outer_loop hc hb hs hpm l.length none 0 22 (upd J 26 22) B (by rw [hf]; exact Nat.le_refl _) (fun x hx => by cases hx) (fun y _ => Nat.zero_le _) hB (by rw [upd_ne (by decide)]; exact h25) rfl (by rw [hf]; omega) (fun t1 a1 f J1 B1 h1 => ?_)
  rw [hf] at h1
  have el := evsB_len l 0
  unfold wp_TuneSetterModel_write_24
  refine ⟨fun _ => ?_, fun z => absurd rfl z⟩
  refine emit_ok (v := 0) h1.2.1 (by omega) (by omega) (by decide) (fun J2 B2 h2 => ?_)
  refine emit_ok (v := 255) h2.2.1 (by simp; omega) (by omega) (by decide) (fun J3 B3 h3 => ?_)
  refine emit_ok (v := 47) h3.2.1 (by simp; omega) (by omega) (by decide) (fun J4 B4 h4 => ?_)
  refine emit_ok (v := 0) h4.2.1 (by simp; omega) (by omega) (by decide) (fun J5 B5 h5 => ?_)
  have hall : Put 26 17 (upd J 26 22) B J5 B5 22 (restL l) := h1.trans (h2.trans (h3.trans (h4.trans h5 rfl) rfl) rfl) rfl
  intro w hw
  rw [hall.2.1] at hw
  subst hw
  rw [show (22 : Int32) = nI 22 from by decide, pk_sub (by omega), show 22 + (restL l).length - 22 = (restL l).length by omega]
  refine heading_ok (by omega) (fun J6 B6 h6 => ?_)
  have hpl := hp (upd J6 26 (nI (22 + (restL l).length))) B6 (fun k hk => ?_) (fun k hk => ?_) ?_ ?_
  · rw [fileL_len] at hpl
    exact hpl
  · rw [upd_ne hk, h6.1 k hk, upd_ne hk, hall.1 k hk, upd_ne hk]
  · rw [h6.2.2.1 k hk, hall.2.2.1 k hk]
  · rw [upd_eq, fileL_len]
  · have : HoldAt 17 B6 0 (fileL l) := by
      unfold fileL
      rw [← List.append_assoc]
      refine HoldAt.app h6.hold (fun k hk => ?_)
      rw [show 0 + (headL ++ cntL (restL l).length).length = 22 from rfl, h6.2.2.2.1 (22 + k) (Or.inr (by show 0 + 22 ≤ 22 + k; omega))]
      exact hall.hold k hk
    intro k hk
    have := this k hk
    rw [Nat.zero_add] at this
    exact this
theorem Rel_file {I I1 : Nat → Int32} {A A1 : Nat → Nat → Int32} {J J1 : Nat → Int32} {B B1 : Nat → Nat → Int32} (h : Rel I A J B) (hf : RelFile I1 A1 J1 B1) (hI : ∀ k, k ≠ 28 → k ≠ 29 → I1 k = I k) (hJ : ∀ k, k ≠ 26 → J1 k = J k) (hA : ∀ k, k ≠ 23 → k ≠ 24 → A1 k = A k) (hB : ∀ k, k ≠ 17 → B1 k = B k) : Rel I1 A1 J1 B1 := by
  obtain ⟨⟨s1, s2, s3, s4, s5, s6, s7⟩, ⟨s, t1, t2, t3, t4⟩, -, h4, h5, h6⟩ := h
  refine ⟨?_, ⟨s, t1, by rw [hI 30 (by decide) (by decide)]; exact t2, by rw [hJ 4 (by decide)]; exact t3, by rw [hA 1 (by decide) (by decide), hB 1 (by decide)]; exact t4⟩, hf, ?_, ?_, ?_⟩
  · unfold RelSet
    rw [hI 31 (by decide) (by decide), hI 32 (by decide) (by decide), hI 33 (by decide) (by decide), hJ 0 (by decide), hJ 1 (by decide), hJ 2 (by decide), hJ 3 (by decide)]
    exact ⟨s1, s2, s3, s4, s5, s6, s7⟩
  · rw [hI 35 (by decide) (by decide), hJ 7 (by decide)]; exact h4
  · rw [hI 34 (by decide) (by decide), hJ 6 (by decide)]; exact h5
  · rw [hI 34 (by decide) (by decide)]
    rcases h6 with h6 | ⟨h6, b, c, q1, q2, q3, q4, q5, q6, q7, q8, it, sg, tk, r1, r2, r3, r4, r5, r6⟩
    · exact Or.inl h6
    · refine Or.inr ⟨h6, b, c, q1, q2, q3, by rw [hI 0 (by decide) (by decide)]; exact q4, by rw [hJ 5 (by decide)]; exact q5, by rw [hI 23 (by decide) (by decide)]; exact q6, by rw [hJ 25 (by decide)]; exact q7, ?_, it, sg, tk, r1, r2, ?_, by rw [hJ 8 (by decide)]; exact r4, ?_, ?_⟩
      · unfold RelNotes
        rw [hA 17 (by decide) (by decide), hA 18 (by decide) (by decide), hA 19 (by decide) (by decide), hB 13 (by decide), hB 14 (by decide), hB 15 (by decide)]
        exact q8
      · rw [hB 2 (by decide)]; exact r3
      · rw [hB 8 (by decide), hB 6 (by decide)]; exact r5
      · rw [hA 7 (by decide) (by decide)]; exact r6
theorem ok_write {I : Nat → Int32} {A : Nat → Nat → Int32} {J : Nat → Int32} {B : Nat → Nat → Int32} (h : Rel I A J B) : T_write Rel I A J B := by
  intro post hp
  rcases Rel_two h with ⟨e1, e2⟩ | ⟨e1, e2, b, c, q1, q2, q3, q4, q5, q6, q7, q8, q9⟩
  · exact ⟨fun _ => ⟨fun _ => hp _ _ _ _ _ h, fun q => absurd e2 q⟩, fun q => absurd e1 q⟩
  · refine ⟨fun q => absurd q e1, fun _ => ?_⟩
    have hn : ∀ k, k < c → A 17 k = nI (A 17 k).toNatClampNeg ∧ A 18 k = nI (A 18 k).toNatClampNeg ∧ A 19 k = nI (A 19 k).toNatClampNeg ∧ (A 17 k).toNatClampNeg + (A 18 k).toNatClampNeg ≤ 800000 ∧ (A 19 k).toNatClampNeg < 128 ∧ A 17 k = B 13 k ∧ A 18 k = B 14 k ∧ A 19 k = B 15 k := by
      intro k hk
      obtain ⟨n1, n2, n3, o, d, p, m1, m2, m3, m4, m5, m6⟩ := q8 k hk
      rw [m1, m2, m3, nI_clamp (by omega), nI_clamp (by omega), nI_clamp (by omega)]
      exact ⟨rfl, rfl, rfl, m4, m6, by rw [← m1]; exact n1, by rw [← m2]; exact n2, by rw [← m3]; exact n3⟩
    refine make_ok (o := fun k => (A 17 k).toNatClampNeg) (d := fun k => (A 18 k).toNatClampNeg) (p := fun k => (A 19 k).toNatClampNeg) q3 (fun i hi => ⟨(hn i hi).2.2.2.1, (hn i hi).2.2.2.2.1⟩) q6 (fun k hk => ⟨(hn k hk).1, (hn k hk).2.1, (hn k hk).2.2.1⟩) (fun I1 A1 l g1 g2 g3 g4 g5 g6 => ?_)
    refine mwrite_ok q3 (fun i hi => ⟨(hn i hi).2.2.2.1, (hn i hi).2.2.2.2.1⟩) g1 g2 e2 q7 (fun k hk => ?_) (fun J1 B1 k1 k2 k3 k4 => ?_)
    · obtain ⟨-, -, -, -, -, n6, n7, n8⟩ := hn k hk
      obtain ⟨m1, m2, m3, -⟩ := hn k hk
      exact ⟨n6 ▸ m1, n7 ▸ m2, n8 ▸ m3⟩
    · rw [g5]
      have hlen : l.length = 2 * c := by rw [g2.length_eq, evL_len]
      have rl := restL_len l (by omega)
      refine hp _ _ _ _ _ (Rel_file h ⟨(fileL l).length, by rw [fileL_len]; omega, g5, k3, fun k hk => ?_⟩ g3 k1 g4 k2)
      rw [g6 k hk, k4 k hk]

/-! whole numbers as ints, and the pitch of a note on both sides -/
def zI (z : Int) : Int32 := Int32.ofInt z
theorem zI_toInt {z : Int} (h1 : -1000000000 ≤ z) (h2 : z ≤ 1000000000) : (zI z).toInt = z := by
  unfold zI
  rw [Int32.toInt_ofInt]
  exact Int.bmod_eq_of_le (by simp [Int32.size]; omega) (by simp [Int32.size]; omega)
theorem zI_lt {a b : Int} (a1 : -1000000000 ≤ a) (a2 : a ≤ 1000000000) (b1 : -1000000000 ≤ b) (b2 : b ≤ 1000000000) : zI a < zI b ↔ a < b := by rw [Int32.lt_iff_toInt_lt, zI_toInt a1 a2, zI_toInt b1 b2]
theorem zI_le {a b : Int} (a1 : -1000000000 ≤ a) (a2 : a ≤ 1000000000) (b1 : -1000000000 ≤ b) (b2 : b ≤ 1000000000) : zI a ≤ zI b ↔ a ≤ b := by rw [Int32.le_iff_toInt_le, zI_toInt a1 a2, zI_toInt b1 b2]
theorem zI_eq {a b : Int} (a1 : -1000000000 ≤ a) (a2 : a ≤ 1000000000) (b1 : -1000000000 ≤ b) (b2 : b ≤ 1000000000) : zI a = zI b ↔ a = b := by rw [← Int32.toInt_inj, zI_toInt a1 a2, zI_toInt b1 b2]
theorem zI_add (a b : Int) : zI a + zI b = zI (a + b) := (Int32.ofInt_add a b).symm
theorem zI_mul (a b : Int) : zI a * zI b = zI (a * b) := (Int32.ofInt_mul a b).symm
theorem zI_sub (a b : Int) : zI a - zI b = zI (a - b) := (Int32.ofInt_sub a b).symm
theorem zI_nat (k : Nat) : zI (k : Int) = nI k := by unfold zI; rfl
def plN (l : Nat) : Nat := ([69, 71, 60, 62, 64, 65, 67] : List Nat).getD l 0
theorem plN_b {l : Nat} (h : l < 7) : 60 ≤ plN l ∧ plN l ≤ 71 ∧ tb_NATURAL l = zI (plN l) := by
  have key : ∀ l, l < 7 → 60 ≤ plN l ∧ plN l ≤ 71 ∧ tb_NATURAL l = nI (plN l) := by decide
  rw [zI_nat]; exact key l h
theorem plN_inj {l k : Nat} (h : l < 7) (h2 : k < 7) (e : plN l = plN k) : l = k := by
  have key : ∀ l, l < 7 → ∀ k, k < 7 → plN l = plN k → l = k := by decide
  exact key l h k h2 e
/-- the key's own sign -/
def ownE (x : Int32) (l : Nat) : Int32 := if x ≤ tb_PLACE_AMONG_SHARPS l then (if (-x) ≤ ((6 : Int32) - tb_PLACE_AMONG_SHARPS l) then 0 else -1) else 1
theorem ownE_z (x : Int32) (l : Nat) : ∃ s : Int, -2 ≤ s ∧ s ≤ 2 ∧ ownE x l = zI s := by
  unfold ownE
  split
  · split
    · exact ⟨0, by omega, by omega, by decide⟩
    · exact ⟨-1, by omega, by omega, by decide⟩
  · exact ⟨1, by omega, by omega, by decide⟩
theorem upd_upd (f : Nat → Int32) (k : Nat) (x y : Int32) : upd (upd f k x) k y = upd f k y := by
  funext j; unfold upd; split <;> rfl
theorem zI_99 {s : Int} (h1 : -2 ≤ s) (h2 : s ≤ 2) : ¬ zI s = 99 := by
  rw [show (99 : Int32) = zI 99 from by decide, zI_eq (by omega) (by omega) (by omega) (by omega)]; omega
section PC
variable {I : Nat → Int32} {A : Nat → Nat → Int32} {l nn n : Nat} {nat s : Int}
theorem keySign_ok {post : Int32 → (Nat → Int32) → (Nat → Nat → Int32) → Prop} (h7 : I 7 = nI l) (hl : l < 7) (hq : post (ownE (I 5) l) I A) : wp_PitchFinder_keySign I A post := by
  unfold wp_PitchFinder_keySign
  rw [h7, nI_clamp (by omega)]
  refine ⟨fun z => ?_, fun _ => ⟨fun _ => ⟨vp_in_nI hl (by omega), fun v hv => ?_⟩, fun z => ?_⟩⟩
  · exfalso
    rw [show (0 : Int32) = nI 0 from by decide] at z
    have := (nI_ltI (a := l) (b := 0) (by omega) (by omega)).mp z
    omega
  · subst hv
    unfold ownE at hq
    refine ⟨fun z => ⟨fun z2 => ?_, fun z2 => ?_⟩, fun z => ?_⟩
    · rw [if_pos z, if_pos z2] at hq; exact hq
    · rw [if_pos z, if_neg z2] at hq; exact hq
    · rw [if_neg z] at hq; exact hq
  · exfalso
    rw [show (7 : Int32) = nI 7 from by decide] at z
    exact z ((nI_ltI (a := l) (b := 7) (by omega) (by omega)).mpr hl)
theorem addNote_ok {post : (Nat → Int32) → (Nat → Nat → Int32) → Prop} {x : Int32} (h2 : I 2 = nI nn) (hnn : nn < 120) (h1 : I 1 = nI n) (hn : n ≤ 48) (hq : post (upd I 2 (nI (nn + 1))) (upd2 (upd2 A 12 nn x) 9 n (nI (nn + 1)))) : wp_Tune_addNote x I A post := by
  unfold wp_Tune_addNote
  rw [h2, h1, nI_1, nI_clamp (by omega), nI_clamp (by omega)]
  refine ⟨fun _ => ⟨vp_in_nI hnn (by omega), vp_in_nI (by omega) (by omega), hq⟩, fun z => ?_⟩
  exfalso
  rw [show (120 : Int32) = nI 120 from by decide] at z
  exact z ((nI_ltI (by omega) (by omega)).mpr hnn)
/-- behind the pitch -/
theorem endNote_b {post : (Nat → Int32) → (Nat → Nat → Int32) → Prop} {P : Int} (hP1 : -5000 ≤ P) (hP2 : P ≤ 5000) (h2 : I 2 = nI nn) (hnn : nn < 120) (h1 : I 1 = nI n) (hn : n ≤ 48) (hbad : (P < 0 ∨ 127 < P) → failed (-4) (I 15) post I A)
    (hq : ∀ t : Nat, (t : Int) = P → t < 128 → post (upd I 2 (nI (nn + 1))) (upd2 (upd2 A 12 nn (nI t)) 9 n (nI (nn + 1)))) : ((zI P < 0 → (wp_Reader_fail (-4) (I 15) I A (fun I25 A25 => post I25 A25))) ∧ (¬ zI P < 0 → ((zI P ≤ 127 → (wp_Tune_addNote (zI P) I A (fun I34 A34 => post I34 A34))) ∧ (¬ zI P ≤ 127 → (wp_Reader_fail (-4) (I 15) I A (fun I25 A25 => post I25 A25)))))) := by
  rw [show (0 : Int32) = zI 0 from by decide, show (127 : Int32) = zI 127 from by decide, zI_lt (by omega) (by omega) (by omega) (by omega), zI_le (by omega) (by omega) (by omega) (by omega)]
  refine ⟨fun z => hbad (Or.inl z), fun z => ⟨fun z2 => ?_, fun z2 => hbad (Or.inr (by omega))⟩⟩
  obtain ⟨t, rfl⟩ : ∃ t : Nat, P = t := ⟨P.toNat, by omega⟩
  rw [zI_nat]
  exact addNote_ok h2 hnn h1 hn (hq t rfl (by omega))
theorem endNote_out {post : (Nat → Int32) → (Nat → Nat → Int32) → Prop} (h7 : I 7 = nI l) (hl : l < 7) (h8 : I 8 = zI nat) (n1 : -3000 ≤ nat) (n2 : nat ≤ 3000) (hout : nat < -2 ∨ 129 < nat) (h6 : I 6 = 99 ∨ ∃ s : Int, -2 ≤ s ∧ s ≤ 2 ∧ I 6 = zI s) (h2 : I 2 = nI nn) (hnn : nn < 120) (h1 : I 1 = nI n) (hn : n ≤ 48) (hbad : failed (-4) (I 15) post (upd I 6 99) A) : wp_Reader_endNote I A post := by
  have fin : ∀ s : Int, -2 ≤ s → s ≤ 2 → ∀ v : Int32, v = zI nat + zI s → ((v < 0 → (wp_Reader_fail (-4) (I 15) (upd I 6 99) A (fun I25 A25 => post I25 A25))) ∧ (¬ v < 0 → ((v ≤ 127 → (wp_Tune_addNote v (upd I 6 99) A (fun I34 A34 => post I34 A34))) ∧ (¬ v ≤ 127 → (wp_Reader_fail (-4) (I 15) (upd I 6 99) A (fun I25 A25 => post I25 A25)))))) := by
    intro s s1 s2 v hv
    rw [hv, zI_add]
    exact endNote_b (I := upd I 6 99) (P := nat + s) (by omega) (by omega) h2 hnn h1 hn (fun _ => hbad) (fun t ht ht2 => by omega)
  have slot : ∀ v7 : Int32, v7 = zI nat - (-2) → ¬ (¬ v7 < 0 ∧ ¬ 132 ≤ v7) := by
    intro v7 hv
    rw [hv, show (-2 : Int32) = zI (-2) from by decide, zI_sub, show (0 : Int32) = zI 0 from by decide, show (132 : Int32) = zI 132 from by decide, zI_lt (by omega) (by omega) (by omega) (by omega), zI_le (by omega) (by omega) (by omega) (by omega)]
    omega
  unfold wp_Reader_endNote wp_PitchFinder_endPitch
  rw [h8]
  intro v7 hv7
  have body : wp_PitchFinder_endPitch_24 (fun r4 I4 A4 => ((r4 < 0 → (wp_Reader_fail (-4) (I4 15) I4 A4 (fun I25 A25 => post I25 A25))) ∧ (¬ r4 < 0 → ((r4 ≤ 127 → (wp_Tune_addNote r4 I4 A4 (fun I34 A34 => post I34 A34))) ∧ (¬ r4 ≤ 127 → (wp_Reader_fail (-4) (I4 15) I4 A4 (fun I25 A25 => post I25 A25))))))) v7 0 I A := by
    have last : wp_PitchFinder_endPitch_71 (fun r4 I4 A4 => ((r4 < 0 → (wp_Reader_fail (-4) (I4 15) I4 A4 (fun I25 A25 => post I25 A25))) ∧ (¬ r4 < 0 → ((r4 ≤ 127 → (wp_Tune_addNote r4 I4 A4 (fun I34 A34 => post I34 A34))) ∧ (¬ r4 ≤ 127 → (wp_Reader_fail (-4) (I4 15) I4 A4 (fun I25 A25 => post I25 A25))))))) I A := by
      refine ⟨fun z => ?_, fun z v96 hv96 => ?_⟩
      · refine keySign_ok h7 hl ?_
        intro v96 hv96
        obtain ⟨s, s1, s2, s3⟩ := ownE_z (I 5) l
        refine fin s s1 s2 v96 ?_
        rw [hv96, h8, s3]
      · rcases h6 with h6 | ⟨s, s1, s2, s3⟩
        · exact absurd h6 z
        · refine fin s s1 s2 v96 ?_
          rw [hv96, h8, s3]
    refine ⟨fun z => ⟨fun _ => ⟨fun _ => last, fun z2 => absurd rfl z2⟩, fun _ => last⟩, fun z => ⟨fun _ => ⟨fun z2 => absurd z2 z, fun _ => last⟩, fun z2 => absurd rfl z2⟩⟩
  exact ⟨fun _ => body, fun z => ⟨fun _ => body, fun z2 => absurd ⟨z, z2⟩ (slot v7 hv7)⟩⟩
theorem endNote_s {post : (Nat → Int32) → (Nat → Nat → Int32) → Prop} (h8 : I 8 = zI nat) (n1 : -2 ≤ nat) (n2 : nat ≤ 129) (h6 : I 6 = zI s) (s1 : -2 ≤ s) (s2 : s ≤ 2) (h2 : I 2 = nI nn) (hnn : nn < 120) (h1 : I 1 = nI n) (hn : n ≤ 48) (hbad : (nat + s < 0 ∨ 127 < nat + s) → failed (-4) (I 15) post (upd I 6 99) (upd2 A 14 (nat + 2).toNat (zI s)))
    (hq : ∀ t : Nat, (t : Int) = nat + s → t < 128 → post (upd (upd I 6 99) 2 (nI (nn + 1))) (upd2 (upd2 (upd2 A 14 (nat + 2).toNat (zI s)) 12 nn (nI t)) 9 n (nI (nn + 1)))) : wp_Reader_endNote I A post := by
  have h99 : ¬ I 6 = 99 := by rw [h6]; exact zI_99 s1 s2
  obtain ⟨sl, hsl⟩ : ∃ sl : Nat, (sl : Int) = nat + 2 := ⟨(nat + 2).toNat, by omega⟩
  have esl : (nat + 2).toNat = sl := by omega
  rw [esl] at hbad hq
  unfold wp_Reader_endNote wp_PitchFinder_endPitch
  rw [h8]
  intro v7 hv7
  have ev : v7 = nI sl := by
    rw [hv7, show (-2 : Int32) = zI (-2) from by decide, zI_sub, ← zI_nat]
    congr 1; omega
  have c1 : ¬ v7 < 0 := by
    rw [ev, show (0 : Int32) = nI 0 from by decide]
    exact fun z => by have := (nI_ltI (a := sl) (b := 0) (by omega) (by omega)).mp z; omega
  have c2 : ¬ 132 ≤ v7 := by
    rw [ev, show (132 : Int32) = nI 132 from by decide]
    exact fun z => by have := (nI_leI (a := 132) (b := sl) (by omega) (by omega)).mp z; omega
  refine ⟨fun z => absurd z c1, fun _ => ⟨fun z => absurd z c2, fun _ => ⟨fun z => absurd z h99, fun _ => ⟨fun z => absurd z (by decide), fun _ => ?_⟩⟩⟩⟩
  rw [ev, nI_clamp (by omega)]
  refine ⟨vp_in_nI (by omega) (by omega), ⟨fun z => absurd z h99, fun _ => ⟨fun z => absurd z h99, fun _ v96 hv96 => ?_⟩⟩⟩
  rw [hv96, h8, h6, zI_add]
  exact endNote_b (I := upd I 6 99) (P := nat + s) (by omega) (by omega) h2 hnn h1 hn hbad hq
theorem endNote_u {post : (Nat → Int32) → (Nat → Nat → Int32) → Prop} (h7 : I 7 = nI l) (hl : l < 7) (h8 : I 8 = zI nat) (n1 : -2 ≤ nat) (n2 : nat ≤ 129) (h6 : I 6 = 99) (hs : (A 14 (nat + 2).toNat = 99 ∧ ownE (I 5) l = zI s) ∨ A 14 (nat + 2).toNat = zI s) (s1 : -2 ≤ s) (s2 : s ≤ 2) (h2 : I 2 = nI nn) (hnn : nn < 120) (h1 : I 1 = nI n) (hn : n ≤ 48) (hbad : (nat + s < 0 ∨ 127 < nat + s) → failed (-4) (I 15) post (upd I 6 99) A)
    (hq : ∀ t : Nat, (t : Int) = nat + s → t < 128 → post (upd (upd I 6 99) 2 (nI (nn + 1))) (upd2 (upd2 A 12 nn (nI t)) 9 n (nI (nn + 1)))) : wp_Reader_endNote I A post := by
  obtain ⟨sl, hsl⟩ : ∃ sl : Nat, (sl : Int) = nat + 2 := ⟨(nat + 2).toNat, by omega⟩
  have esl : (nat + 2).toNat = sl := by omega
  rw [esl] at hs
  unfold wp_Reader_endNote wp_PitchFinder_endPitch
  rw [h8]
  intro v7 hv7
  have ev : v7 = nI sl := by
    rw [hv7, show (-2 : Int32) = zI (-2) from by decide, zI_sub, ← zI_nat]
    congr 1; omega
  have c1 : ¬ v7 < 0 := by
    rw [ev, show (0 : Int32) = nI 0 from by decide]
    exact fun z => by have := (nI_ltI (a := sl) (b := 0) (by omega) (by omega)).mp z; omega
  have c2 : ¬ 132 ≤ v7 := by
    rw [ev, show (132 : Int32) = nI 132 from by decide]
    exact fun z => by have := (nI_leI (a := 132) (b := sl) (by omega) (by omega)).mp z; omega
  refine ⟨fun z => absurd z c1, fun _ => ⟨fun z => absurd z c2, fun _ => ⟨fun _ => ⟨fun _ => ⟨fun z => absurd z (by decide), fun _ => ?_⟩, fun z => absurd h6 z⟩, fun z => absurd h6 z⟩⟩⟩
  rw [ev, nI_clamp (by omega)]
  refine ⟨vp_in_nI (by omega) (by omega), ?_⟩
  refine ⟨fun z => ?_, fun z v96 hv96 => ?_⟩
  · have own : ownE (I 5) l = zI s := by
      rcases hs with hs | hs
      · exact hs.2
      · exact absurd (hs.symm.trans z) (zI_99 s1 s2)
    refine keySign_ok (I := upd I 6 (A 14 sl)) h7 hl ?_
    intro v96 hv96
    rw [hv96, show (upd I 6 (A 14 sl)) 8 = I 8 from rfl, show (upd I 6 (A 14 sl)) 5 = I 5 from rfl, h8, own, zI_add, upd_upd]
    exact endNote_b (I := upd I 6 99) (P := nat + s) (by omega) (by omega) h2 hnn h1 hn hbad hq
  · have e : A 14 sl = zI s := by
      rcases hs with hs | hs
      · exact absurd hs.1 z
      · exact hs
    rw [hv96, show (upd I 6 (A 14 sl)) 8 = I 8 from rfl, show (upd I 6 (A 14 sl)) 6 = A 14 sl from rfl, h8, e, zI_add, upd_upd]
    exact endNote_b (I := upd I 6 99) (P := nat + s) (by omega) (by omega) h2 hnn h1 hn hbad hq
end PC

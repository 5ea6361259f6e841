/-! class and reference while a text is read -/
def lineR (x y : Int32) : Prop := (x = 0 ∧ y = 0) ∨ (x = 4 ∧ y = 1) ∨ (x = 1 ∧ y = 2) ∨ (x = 2 ∧ y = 3) ∨ (x = 3 ∧ y = 4)
theorem lineR_0 {x y : Int32} (h : lineR x y) : x = 0 ↔ y = 0 := by
  rcases h with ⟨a, e⟩ | ⟨a, e⟩ | ⟨a, e⟩ | ⟨a, e⟩ | ⟨a, e⟩ <;> subst a <;> subst e <;> decide
/-- the bars: ticks, lines, endings -/
def DBar (b : Nat) (A4 A5 A6 B3 B4 B5 : Nat → Int32) : Prop := (∀ k, k < b → A6 k = B4 k ∧ lineR (A4 k) (B5 k)) ∧ ∃ en hv : Nat → Nat, ∀ k, k < b → B3 k = nI (en k) ∧ en k ≤ 2 ∧ A5 k = nI (hv k) ∧ hv k = (if en k = 0 then (if k = 0 then 0 else if B5 k = 0 then hv (k - 1) else 0) else en k)
section DB
variable {b : Nat} {A4 A5 A6 B3 B4 B5 : Nat → Int32}
theorem bar_open (h : DBar b A4 A5 A6 B3 B4 B5) (hl : lineR (A4 b) (B5 b)) : DBar (b + 1) A4 (upd A5 b (if 0 < b ∧ A4 b = 0 then A5 (b - 1) else 0)) (upd A6 b 0) (upd B3 b 0) (upd B4 b 0) (upd B5 (b + 1) 0) := by
  obtain ⟨h1, en, hv, h2⟩ := h
  refine ⟨fun k hk => ?_, upN en b 0, upN hv b (if 0 < b ∧ A4 b = 0 then hv (b - 1) else 0), fun k hk => ?_⟩
  · rw [upd_ne (show k ≠ b + 1 by omega)]
    by_cases e : k = b
    · subst e; rw [upd_eq, upd_eq]; exact ⟨rfl, hl⟩
    · rw [upd_ne e, upd_ne e]; exact h1 k (by omega)
  · rw [upd_ne (show k ≠ b + 1 by omega)]
    by_cases e : k = b
    · subst e
      rw [upd_eq, upd_eq, upN_eq, upN_eq]
      refine ⟨by decide, by omega, ?_, ?_⟩
      · split
        · rename_i hz; exact (h2 (k - 1) (by omega)).2.2.1
        · decide
      · rw [if_pos rfl]
        by_cases e0 : k = 0
        · rw [if_pos e0, if_neg (fun z => by omega)]
        · rw [if_neg e0, upN_ne (show k - 1 ≠ k by omega)]
          by_cases ez : A4 k = 0
          · rw [if_pos ⟨by omega, ez⟩, if_pos ((lineR_0 hl).mp ez)]
          · rw [if_neg (fun z => ez z.2), if_neg (fun z => ez ((lineR_0 hl).mpr z))]
    · rw [upd_ne e, upd_ne e, upN_ne e, upN_ne e, upN_ne (show k - 1 ≠ b by omega)]
      exact h2 k (by omega)
theorem bar_end {b0 e : Nat} (h : DBar (b0 + 1) A4 A5 A6 B3 B4 B5) (he : e = 1 ∨ e = 2) : DBar (b0 + 1) A4 (upd A5 b0 (nI e)) A6 (upd B3 b0 (nI e)) B4 B5 := by
  obtain ⟨h1, en, hv, h2⟩ := h
  refine ⟨h1, upN en b0 e, upN hv b0 e, fun k hk => ?_⟩
  by_cases ek : k = b0
  · subst ek
    rw [upd_eq, upd_eq, upN_eq, upN_eq]
    exact ⟨rfl, by omega, rfl, by rw [if_neg (by omega)]⟩
  · rw [upd_ne ek, upd_ne ek, upN_ne ek, upN_ne ek, upN_ne (show k - 1 ≠ b0 by omega)]
    exact h2 k hk
theorem bar_add {b0 : Nat} {x : Int32} (h : DBar (b0 + 1) A4 A5 A6 B3 B4 B5) : DBar (b0 + 1) A4 A5 (upd A6 b0 (A6 b0 + x)) B3 (upd B4 b0 (B4 b0 + x)) B5 := by
  obtain ⟨h1, h2⟩ := h
  refine ⟨fun k hk => ?_, h2⟩
  by_cases e : k = b0
  · subst e; rw [upd_eq, upd_eq, (h1 k hk).1]; exact ⟨rfl, (h1 k hk).2⟩
  · rw [upd_ne e, upd_ne e]; exact h1 k hk
theorem bar_line {x y : Int32} (h : DBar b A4 A5 A6 B3 B4 B5) : DBar b (upd A4 b x) A5 A6 B3 B4 (upd B5 b y) := by
  obtain ⟨h1, en, hv, h2⟩ := h
  refine ⟨fun k hk => ?_, en, hv, fun k hk => ?_⟩
  · rw [upd_ne (show k ≠ b by omega), upd_ne (show k ≠ b by omega)]; exact h1 k hk
  · rw [upd_ne (show k ≠ b by omega)]; exact h2 k hk
theorem bar_lineA {x : Int32} (h : DBar b A4 A5 A6 B3 B4 B5) : DBar b (upd A4 b x) A5 A6 B3 B4 B5 := by
  obtain ⟨h1, en, hv, h2⟩ := h
  refine ⟨fun k hk => ?_, en, hv, h2⟩
  rw [upd_ne (show k ≠ b by omega)]; exact h1 k hk
theorem bar_lineB {y : Int32} (h : DBar b A4 A5 A6 B3 B4 B5) : DBar b A4 A5 A6 B3 B4 (upd B5 b y) := by
  obtain ⟨h1, en, hv, h2⟩ := h
  refine ⟨fun k hk => ?_, en, hv, fun k hk => ?_⟩
  · rw [upd_ne (show k ≠ b by omega)]; exact h1 k hk
  · rw [upd_ne (show k ≠ b by omega)]; exact h2 k hk
end DB
/-- the signs that the bar holds -/
def HR (A14 B11 : Nat → Int32) : Prop := (∀ x, x < 112 → B11 x = 9 ∨ ∃ s : Int, -2 ≤ s ∧ s ≤ 2 ∧ B11 x = zI s) ∧ ∀ (l : Nat) (o : Int), l < 7 → -2 ≤ (plN l : Int) + 12 * o → (plN l : Int) + 12 * o ≤ 129 → (A14 ((plN l : Int) + 12 * o + 2).toNat = 99 ∧ B11 (hix l o) = 9) ∨ ∃ s : Int, -2 ≤ s ∧ s ≤ 2 ∧ A14 ((plN l : Int) + 12 * o + 2).toNat = zI s ∧ B11 (hix l o) = zI s
theorem HR_new {A14 B11 : Nat → Int32} (h1 : ∀ x, x < 132 → A14 x = 99) (h2 : ∀ x, x < 112 → B11 x = 9) : HR A14 B11 := by
  refine ⟨fun x hx => Or.inl (h2 x hx), fun l o hl o1 o2 => Or.inl ⟨h1 _ (by omega), h2 _ ?_⟩⟩
  have := plN_b hl
  unfold hix; omega
theorem HR_set {A14 B11 : Nat → Int32} {l : Nat} {o s : Int} (h : HR A14 B11) (hl : l < 7) (o1 : -2 ≤ (plN l : Int) + 12 * o) (o2 : (plN l : Int) + 12 * o ≤ 129) (s1 : -2 ≤ s) (s2 : s ≤ 2) : HR (upd A14 ((plN l : Int) + 12 * o + 2).toNat (zI s)) (upd B11 (hix l o) (zI s)) := by
  refine ⟨fun x hx => ?_, fun k r hk r1 r2 => ?_⟩
  · by_cases e : x = hix l o
    · rw [e, upd_eq]; exact Or.inr ⟨s, s1, s2, rfl⟩
    · rw [upd_ne e]; exact h.1 x hx
  · have hb := plN_b hl
    have hb2 := plN_b hk
    by_cases e : k = l ∧ r = o
    · obtain ⟨e1, e2⟩ := e
      subst e1; subst e2
      rw [upd_eq, upd_eq]
      exact Or.inr ⟨s, s1, s2, rfl, rfl⟩
    · have ne1 : ((plN k : Int) + 12 * r + 2).toNat ≠ ((plN l : Int) + 12 * o + 2).toNat := by
        intro z
        have zz : (plN k : Int) + 12 * r = (plN l : Int) + 12 * o := by omega
        have er : r = o := by omega
        have ek : plN k = plN l := by omega
        exact e ⟨plN_inj hk hl ek, er⟩
      have ne2 : hix k r ≠ hix l o := by
        intro z
        unfold hix at z
        have e1 : k = l := by omega
        exact e ⟨e1, by omega⟩
      rw [upd_ne ne1, upd_ne ne2]
      exact h.2 k r hk r1 r2
/-- what a reading leaves as it is -/
def Fix (I : Nat → Int32) (A : Nat → Nat → Int32) (J : Nat → Int32) (B : Nat → Nat → Int32) : Prop := RelSet I J ∧ RelText I A J B ∧ RelFile I A J B ∧ J 6 = 0 ∧ I 12 = I 31 ∧ I 13 = I 32 ∧ I 5 = I 33
def Base (b n p : Nat) (q : Sc) (sg it fn : Nat → Nat) (I : Nat → Int32) (A : Nat → Nat → Int32) (J : Nat → Int32) (B : Nat → Nat → Int32) : Prop := Fix I A J B ∧ (I 0 = nI b ∧ J 5 = nI b ∧ I 1 = nI n ∧ J 8 = nI n ∧ I 2 = nI (fn n) ∧ I 3 = 0) ∧ DBar b (A 4) (A 5) (A 6) (B 3) (B 4) (B 5) ∧ DIt b n p q sg it fn (A 7) (A 8) (A 9) (A 10) (A 11) (A 12) (B 2) (B 6) (B 7) (B 8) (B 9) (B 10)
def done (q : Sc) (n : Nat) : Prop := ∀ i, i < n → 0 < q.2.1 i
def Ou (n : Nat) (q : Sc) (I : Nat → Int32) : Prop := I 20 = 0 ∧ I 21 = 0 ∧ I 22 = 0 ∧ I 17 = 0 ∧ I 6 = 99 ∧ done q n
def Gp (n tl : Nat) (q : Sc) (I : Nat → Int32) (A : Nat → Nat → Int32) (J : Nat → Int32) (B : Nat → Nat → Int32) : Prop := I 20 = 1 ∧ I 21 = 0 ∧ I 22 = 0 ∧ I 17 = nI tl ∧ J 13 = nI tl ∧ tl ≤ 3 ∧ I 6 = 99 ∧ done q n ∧ HR (A 14) (B 11)
def Im (b0 n0 tc tl : Nat) (q : Sc) (it : Nat → Nat) (I : Nat → Int32) (A : Nat → Nat → Int32) (J : Nat → Int32) (B : Nat → Nat → Int32) : Prop := I 20 = 1 ∧ I 21 = 1 ∧ I 17 = nI tc ∧ J 13 = nI tl ∧ tl ≤ 3 ∧ it b0 ≤ n0 ∧ q.2.1 n0 = 0 ∧ done q n0 ∧ HR (A 14) (B 11)
def Len1 (I J : Nat → Int32) : Prop := I 9 = 1 ∧ I 10 = 1 ∧ I 11 = 0 ∧ J 12 = 0
def Ch (n0 : Nat) (q : Sc) (I J : Nat → Int32) : Prop := (I 22 = 0 ∧ J 11 = 0 ∧ q.1 n0 = 0) ∨ (I 22 = 1 ∧ J 11 = 1 ∧ I 18 = nI (q.1 n0 + 1))
def NtS (p : Nat) (I J : Nat → Int32) : Prop := ∃ (l : Nat) (o : Int), l < 7 ∧ I 7 = nI l ∧ J 16 = nI l ∧ J 17 = zI o ∧ -(p : Int) ≤ o ∧ o ≤ (p : Int) + 1 ∧ I 8 = zI ((plN l : Int) + 12 * o) ∧ ((J 15 = 0 ∧ I 6 = 99) ∨ (¬ J 15 = 0 ∧ ∃ s : Int, -2 ≤ s ∧ s ≤ 2 ∧ J 14 = zI s ∧ I 6 = zI s))
def Ns (tp bt : Nat) (I J : Nat → Int32) : Prop := (I 14 = 14 ∧ I 11 = 0 ∧ J 19 = 0 ∧ J 20 = 0 ∧ J 21 = 0 ∧ J 22 = 0 ∧ J 23 = 0) ∨ (I 14 = 15 ∧ J 21 = 0 ∧ J 22 = 0 ∧ J 23 = 0 ∧ ∃ d : Nat, 1 ≤ d ∧ d ≤ 3 ∧ tp < 10 ^ d ∧ I 11 = nI d ∧ J 20 = nI d) ∨ (I 14 = 16 ∧ I 11 = 0 ∧ ¬ J 21 = 0 ∧ J 22 = 0 ∧ J 23 = 0) ∨ (I 14 = 17 ∧ ¬ J 21 = 0 ∧ ∃ d : Nat, 1 ≤ d ∧ d ≤ 3 ∧ bt < 10 ^ d ∧ I 11 = nI d ∧ J 23 = nI d)
section SM
variable (p : Nat) (c : Int32) (I : Nat → Int32) (A : Nat → Nat → Int32) (J : Nat → Int32) (B : Nat → Nat → Int32)
def S_bet : Prop := ∃ b n q sg it fn, Base b n p q sg it fn I A J B ∧ Ou n q I ∧ ((I 14 = 0 ∧ J 9 = 0 ∧ b = 0 ∧ lineR (A 4 b) (B 5 b)) ∨ (I 14 = 1 ∧ J 9 = 1 ∧ J 10 = I 16 ∧ A 4 b = 0) ∨ (I 14 = 3 ∧ J 9 = 3 ∧ J 10 = I 16 ∧ lineR (A 4 b) (B 5 b)))
def S_col : Prop := ∃ b n q sg it fn, Base b n p q sg it fn I A J B ∧ Ou n q I ∧ I 14 = 2 ∧ J 9 = 2 ∧ J 10 = I 16
def S_mark : Prop := ∃ b0 n q sg it fn, Base (b0 + 1) n p q sg it fn I A J B ∧ Gp n 0 q I A J B ∧ I 14 = 4 ∧ J 9 = 4 ∧ (c = 49 ∨ c = 50)
def S_end : Prop := ∃ b0 n q sg it fn, Base (b0 + 1) n p q sg it fn I A J B ∧ Gp n 0 q I A J B ∧ I 14 = 5 ∧ J 9 = 5
def S_ins : Prop := ∃ b0 n q sg it fn tl, Base (b0 + 1) n p q sg it fn I A J B ∧ Gp n tl q I A J B ∧ (I 14 = 18 ∨ I 14 = 19) ∧ J 9 = 12
def S_par : Prop := ∃ b0 n0 q sg it fn, Base (b0 + 1) (n0 + 1) p q sg it fn I A J B ∧ Im b0 n0 0 3 q it I A J B ∧ Len1 I J ∧ (I 22 = 0 ∧ J 11 = 0 ∧ q.1 n0 = 0 ∧ I 6 = 99) ∧ I 14 = 6 ∧ J 9 = 6
def S_tri : Prop := ∃ b0 n0 q sg it fn, Base (b0 + 1) (n0 + 1) p q sg it fn I A J B ∧ Im b0 n0 3 3 q it I A J B ∧ Len1 I J ∧ (I 22 = 0 ∧ J 11 = 0 ∧ q.1 n0 = 0 ∧ I 6 = 99) ∧ I 14 = 7 ∧ J 9 = 7
/-- in a chord, between two notes -/
def Cho (J1 : Nat → Int32) (B1 : Nat → Nat → Int32) : Prop := ∃ b0 n0 q sg it fn tl, Base (b0 + 1) (n0 + 1) p q sg it fn I A J1 B1 ∧ Im b0 n0 tl tl q it I A J1 B1 ∧ Len1 I J1 ∧ (I 22 = 1 ∧ J1 11 = 1 ∧ I 18 = nI (q.1 n0) ∧ I 6 = 99) ∧ ((I 14 = 8 ∧ q.1 n0 = 0) ∨ ((I 14 = 11 ∨ I 14 = 12 ∨ I 14 = 13) ∧ 0 < q.1 n0))
def S_cho : Prop := I 14 = 8 ∧ ((J 9 = 10 ∧ Cho p I A J B) ∨ (J 9 = 4 ∧ ¬ c = 49 ∧ ¬ c = 50 ∧ ∃ m : Nat, m < 48 ∧ J 8 = nI m ∧ Cho p I A (upd (opJ J) 11 1) (opBB B m)))
def S_sig : Prop := ∃ b0 n0 q sg it fn tl, Base (b0 + 1) (n0 + 1) p q sg it fn I A J B ∧ Im b0 n0 tl tl q it I A J B ∧ Len1 I J ∧ Ch n0 q I J ∧ q.1 n0 < 4 ∧ J 9 = 8 ∧ ¬ J 15 = 0 ∧ ∃ s : Int, J 14 = zI s ∧ I 6 = zI s ∧ ((I 14 = 9 ∧ ((s = 1 ∧ I 19 = 94) ∨ (s = -1 ∧ I 19 = 95))) ∨ (I 14 = 10 ∧ (s = 0 ∨ s = 2 ∨ s = -2)))
def S_let : Prop := ∃ b0 n0 q sg it fn tl, Base (b0 + 1) (n0 + 1) p q sg it fn I A J B ∧ Im b0 n0 tl tl q it I A J B ∧ Len1 I J ∧ Ch n0 q I J ∧ q.1 n0 < 4 ∧ J 9 = 9 ∧ fn (n0 + 1) + 1 ≤ p ∧ NtS p I J ∧ ((I 14 = 11 ∧ J 18 = 0) ∨ (I 14 = 12 ∧ J 18 = 1) ∨ (I 14 = 13 ∧ J 18 = -1))
def S_num : Prop := ∃ b0 n0 q sg it fn tl tp bt, Base (b0 + 1) (n0 + 1) p q sg it fn I A J B ∧ Im b0 n0 tl tl q it I A J B ∧ I 22 = 0 ∧ I 6 = 99 ∧ (J 12 = 0 ↔ 0 < q.1 n0) ∧ J 9 = 11 ∧ I 9 = nI tp ∧ I 10 = nI bt ∧ tp ≤ 999 ∧ bt ≤ 999 ∧ Lr tp bt J ∧ Ns tp bt I J
def SIM : Prop := S_bet p I A J B ∨ S_col p I A J B ∨ S_mark p c I A J B ∨ S_end p I A J B ∨ S_ins p I A J B ∨ S_par p I A J B ∨ S_tri p I A J B ∨ S_cho p c I A J B ∨ S_sig p I A J B ∨ S_let p I A J B ∨ S_num p I A J B
def FIN : Prop := ∃ b n q sg it fn, Base b n p q sg it fn I A J B ∧ 0 < b ∧ done q n ∧ lineR (A 4 b) (B 5 b) ∧ J 7 = nI p
end SM
abbrev KT : Type := (Nat → Int32) → (Nat → Nat → Int32) → Int32 → (Nat → Int32) → (Nat → Nat → Int32) → Prop
def Good (p : Nat) (c f : Int32) (K : KT) : Prop := (∀ I A J B e, Fix I A J B → e < 0 → I 3 = e → I 4 = J 7 → K I A e J B) ∧ (∀ I A J B, ¬ c = 0 → I 3 = 0 → SIM (p + 1) f I A J B → K I A 0 J B) ∧ (∀ I A J B, c = 0 → I 3 = 0 → FIN p I A J B → K I A 0 J B)
section SI
variable {p : Nat} {c : Int32} {I : Nat → Int32} {A : Nat → Nat → Int32} {J : Nat → Int32} {B : Nat → Nat → Int32}
theorem i_bet (h : S_bet p I A J B) : SIM p c I A J B := Or.inl h
theorem i_col (h : S_col p I A J B) : SIM p c I A J B := Or.inr (Or.inl h)
theorem i_mark (h : S_mark p c I A J B) : SIM p c I A J B := Or.inr (Or.inr (Or.inl h))
theorem i_end (h : S_end p I A J B) : SIM p c I A J B := Or.inr (Or.inr (Or.inr (Or.inl h)))
theorem i_ins (h : S_ins p I A J B) : SIM p c I A J B := Or.inr (Or.inr (Or.inr (Or.inr (Or.inl h))))
theorem i_par (h : S_par p I A J B) : SIM p c I A J B := Or.inr (Or.inr (Or.inr (Or.inr (Or.inr (Or.inl h)))))
theorem i_tri (h : S_tri p I A J B) : SIM p c I A J B := Or.inr (Or.inr (Or.inr (Or.inr (Or.inr (Or.inr (Or.inl h))))))
theorem i_cho (h : S_cho p c I A J B) : SIM p c I A J B := Or.inr (Or.inr (Or.inr (Or.inr (Or.inr (Or.inr (Or.inr (Or.inl h)))))))
theorem i_sig (h : S_sig p I A J B) : SIM p c I A J B := Or.inr (Or.inr (Or.inr (Or.inr (Or.inr (Or.inr (Or.inr (Or.inr (Or.inl h))))))))
theorem i_let (h : S_let p I A J B) : SIM p c I A J B := Or.inr (Or.inr (Or.inr (Or.inr (Or.inr (Or.inr (Or.inr (Or.inr (Or.inr (Or.inl h)))))))))
theorem i_num (h : S_num p I A J B) : SIM p c I A J B := Or.inr (Or.inr (Or.inr (Or.inr (Or.inr (Or.inr (Or.inr (Or.inr (Or.inr (Or.inr h)))))))))
variable {b n b0 n0 : Nat} {q : Sc} {sg it fn : Nat → Nat}
theorem Base.p2 {p2 : Nat} (h : Base b n p q sg it fn I A J B) (hp : p ≤ p2) : Base b n p2 q sg it fn I A J B := ⟨h.1, h.2.1, h.2.2.1, it_p h.2.2.2 hp⟩
theorem Fix.arr {A1 : Nat → Nat → Int32} {B1 : Nat → Nat → Int32} (h : Fix I A J B) (a1 : A1 1 = A 1) (a2 : A1 23 = A 23) (b1 : B1 1 = B 1) (b2 : B1 17 = B 17) : Fix I A1 J B1 := by
  obtain ⟨h1, h2, h3, h4⟩ := h
  refine ⟨h1, ?_, ?_, h4⟩
  · unfold RelText at h2 ⊢; rw [a1, b1]; exact h2
  · unfold RelFile at h3 ⊢; rw [a2, b2]; exact h3
/-- an item opens -/
theorem open_item {tl : Nat} (h : Base (b0 + 1) n p q sg it fn I A J B) (g : Gp n tl q I A J B) (hn : n < 48) : Base (b0 + 1) (n + 1) p (qNew q n) (upN sg n 0) (upN it (b0 + 1) (n + 1)) (upN fn (n + 1) (fn n)) (itI I n) (itA I A b0 n) (opJ J) (opBB B n) ∧ Im b0 n tl tl (qNew q n) (upN it (b0 + 1) (n + 1)) (itI I n) (itA I A b0 n) (opJ J) (opBB B n) ∧ Len1 (itI I n) (opJ J) ∧ (itI I n 22 = 0 ∧ opJ J 11 = 0 ∧ (qNew q n).1 n = 0 ∧ itI I n 6 = 99) := by
  obtain ⟨hF, ⟨s1, s2, s3, s4, s5, s6⟩, hB, hD⟩ := h
  obtain ⟨g1, g2, g3, g4, g5, g6, g7, g8, g9⟩ := g
  refine ⟨⟨hF, ⟨s1, s2, rfl, ?_, ?_, s6⟩, hB, ?_⟩, ⟨g1, rfl, g4, g5, g6, ?_, ?_, ?_, g9⟩, ⟨rfl, rfl, rfl, rfl⟩, g3, rfl, ?_, g7⟩
  · show J 8 + 1 = nI (n + 1)
    rw [s4, nI_1]
  · show I 2 = nI (upN fn (n + 1) (fn n) (n + 1))
    rw [upN_eq]; exact s5
  · have := it_item hD hn
    rw [← s5] at this
    exact this
  · have hi := (hD.2.2.1 b0 (by omega)).2.1
    rw [hD.1.2.2.1] at hi
    rw [upN_ne (show b0 ≠ b0 + 1 by omega)]
    exact hi
  · exact upN_eq _ _ _
  · intro i hi
    show 0 < upN q.2.1 n 0 i
    rw [upN_ne (by omega)]
    exact g8 i hi
  · exact upN_eq _ _ _
/-- a bar opens -/
abbrev mbB (J : Nat → Int32) (B : Nat → Nat → Int32) (b : Nat) : Nat → Nat → Int32 := upd2 (upd2 (upd2 (upd2 B 2 b (J 8)) 3 b 0) 4 b 0) 5 (b + 1) 0
theorem open_bar {A2 B2 : Nat → Nat → Int32} (h : Base b n p q sg it fn I A J B) (g : Ou n q I) (hl : lineR (A 4 b) (B 5 b)) (hb : b < 8) (hA : barIn I A A2 b) (hB2 : ∀ a, a ≠ 11 → B2 a = mbB J B b a) (h11 : ∀ x, x < 112 → B2 11 x = 9) : Base (b + 1) n p q sg (upN it (b + 1) n) fn (brI I b) A2 (upd (upd J 5 (nI (b + 1))) 13 0) B2 ∧ Gp n 0 q (brI I b) A2 (upd (upd J 5 (nI (b + 1))) 13 0) B2 := by
  obtain ⟨hF, ⟨s1, s2, s3, s4, s5, s6⟩, hB, hD⟩ := h
  obtain ⟨g1, g2, g3, g4, g5, g6⟩ := g
  obtain ⟨hA1, hA2⟩ := hA
  refine ⟨⟨?_, ⟨rfl, rfl, s3, s4, s5, s6⟩, ?_, ?_⟩, ⟨rfl, g2, g3, g4, rfl, by omega, g5, g6, HR_new hA2 h11⟩⟩
  · exact Fix.arr (I := brI I b) (A := A) (J := upd (upd J 5 (nI (b + 1))) 13 0) (B := B) hF (hA1 1 (by decide)) (hA1 23 (by decide)) (hB2 1 (by decide)) (hB2 17 (by decide))
  · rw [hA1 4 (by decide), hA1 5 (by decide), hA1 6 (by decide), hB2 3 (by decide), hB2 4 (by decide), hB2 5 (by decide)]
    exact bar_open hB hl
  · rw [hA1 7 (by decide), hA1 8 (by decide), hA1 9 (by decide), hA1 10 (by decide), hA1 11 (by decide), hA1 12 (by decide), hB2 2 (by decide), hB2 6 (by decide), hB2 7 (by decide), hB2 8 (by decide), hB2 9 (by decide), hB2 10 (by decide)]
    have := it_bar hD hb
    unfold brA mbB
    rw [s3, s4]
    exact this
end SI

/-! a right book's acts and blocks -/
theorem vOK_cg {A A' : Bk} {u : Nat} (h : ∀ i, A' 10 i = A 10 i) (hu : A' 11 u = A 11 u) (hv : vOK A u) : vOK A' u := by
  unfold vOK at hv ⊢
  rw [h, hu]
  exact hv
theorem hOK_cg {A A' : Bk} {u : Nat} (h : ∀ i, A' 10 i = A 10 i) (h0 : A' 0 0 = A 0 0) (hu : A' 11 u = A 11 u) (hv : hOK A u) : hOK A' u := by
  unfold hOK at hv ⊢
  rw [h, hu, h0]
  exact hv
theorem cOK_cg {T : Nat} {A A' : Bk} (h10 : ∀ i, A' 10 i = A 10 i) (h4 : A' 0 4 = A 0 4) (h11 : ∀ i, i < T → A' 11 i = A 11 i) : ∀ {c u : Nat}, u + 4 * c + 3 ≤ T → cOK A c u → cOK A' c u := by
  intro c
  induction c with
  | zero =>
    intro u hu hc
    unfold cOK at hc ⊢
    obtain ⟨a, b, c, d, e, g⟩ := hc
    rw [h10, h10, h4]
    exact ⟨vOK_cg h10 (h11 _ (by omega)) a, b, c, vOK_cg h10 (h11 _ (by omega)) d, e, g⟩
  | succ c ih =>
    intro u hu hc
    unfold cOK at hc ⊢
    obtain ⟨a, b, c1, d, e, g, i⟩ := hc
    rw [h10, h10, h4]
    exact ⟨vOK_cg h10 (h11 _ (by omega)) a, b, c1, vOK_cg h10 (h11 _ (by omega)) d, e, g, ih (by omega) i⟩
/-- the place y (+1) lies behind a, begins with the order q, and is of the same plan -/
def at_ (A : Bk) (a y q : Nat) : Prop := a < y - 1 ∧ y - 1 < A 0 3 ∧ A 18 (y - 1) = q ∧ A 13 (y - 1) = A 13 a
/-- an act's kind and what it needs, and its orders -/
def kK (A : Bk) (a : Nat) : Prop :=
  (A 10 (A 5 a) = 16 ∧ hOK A (A 5 a + 1) ∧ (A 10 (A 5 a + 2) = 17 → hOK A (A 5 a + 3) ∧ A 5 a + 4 ≤ A 0 5) ∧ A 19 a = A 18 a + 1 ∧ A 8 a = 0 ∧ A 9 a = 0) ∨
  ((A 10 (A 5 a) = 18 ∨ A 10 (A 5 a) = 19 ∨ A 10 (A 5 a) = 20) ∧ vOK A (A 5 a + 1) ∧ A 19 a = A 18 a + 1 ∧ A 8 a = 0 ∧ A 9 a = 0) ∨
  (A 10 (A 5 a) = 21 ∧ 1 ≤ A 11 (A 5 a + 1) ∧ A 11 (A 5 a + 1) ≤ A 13 a ∧ A 19 a = A 18 a + 1 ∧ A 8 a = 0 ∧ A 9 a = 0) ∨
  ((A 10 (A 5 a) = 22 ∨ A 10 (A 5 a) = 23) ∧ cOK A (A 21 a) (A 5 a + 1) ∧ A 5 a + 4 * A 21 a + 4 ≤ A 0 5 ∧ A 20 a + A 21 a + 1 ≤ A 0 9 ∧ (A 8 a ≠ 0 → at_ A a (A 8 a) (A 18 a + 1)) ∧
    (A 10 (A 5 a) = 22 → (A 8 a = 0 → A 19 a = A 18 a + 2) ∧ A 18 a + 2 ≤ A 19 a ∧ A 9 a = 0) ∧
    (A 10 (A 5 a) = 23 → (A 8 a = 0 → A 24 a = A 18 a + 1) ∧ A 18 a + 1 ≤ A 24 a ∧ ((A 22 a = A 24 a ∧ A 19 a = A 24 a ∧ A 9 a = 0) ∨ (A 22 a = A 24 a + 1 ∧ A 22 a ≤ A 19 a ∧ (A 9 a ≠ 0 → at_ A a (A 9 a) (A 22 a)) ∧ (A 9 a = 0 → A 19 a = A 22 a)))))
def LC (A : Bk) (b : Nat) : Prop := A 5 b + 3 ≤ A 0 5 ∧ A 12 b ≤ 2 ∧ A 18 b < A 19 b ∧ A 19 b ≤ A 0 8 ∧ (A 7 b ≠ 0 → at_ A b (A 7 b) (A 19 b)) ∧ kK A b
def bQ (A : Bk) (b w : Nat) : Prop := (A 10 (A 5 w) = 22 ∨ A 10 (A 5 w) = 23) ∧ (A 10 (A 5 w) = 22 → A 19 b + 1 = A 19 w) ∧ (A 10 (A 5 w) = 23 → A 19 b = A 24 w ∨ A 19 b = A 19 w)
def LO (A : Bk) (b : Nat) : Prop := A 6 b ≠ 0 ∧ A 6 b - 1 < b ∧ A 12 b = A 12 (A 6 b - 1) + 1 ∧ A 13 (A 6 b - 1) = A 13 b ∧ (A 7 b = 0 → bQ A b (A 6 b - 1))
/-- what stays for acts read -/
def Sf (A A' : Bk) : Prop := FxR A A' ∧ A 0 3 ≤ A' 0 3 ∧ A 0 8 ≤ A' 0 8 ∧ (∀ i, i < A 0 5 → A' 11 i = A 11 i) ∧ A 0 9 ≤ A' 0 9 ∧ ∀ c, c < A 0 3 → A' 18 c = A 18 c ∧ A' 13 c = A 13 c ∧ A' 12 c = A 12 c ∧ A' 5 c = A 5 c
section TRE
variable {n b : Nat} {A A' : Bk} {F : Bk → Prop}
theorem Sf.rf : Sf A A := ⟨FxR.rf, Nat.le_refl _, Nat.le_refl _, fun _ _ => rfl, Nat.le_refl _, fun _ _ => ⟨rfl, rfl, rfl, rfl⟩⟩
theorem Sf.tr {A1 : Bk} (h : Sf A A1) (h2 : Sf A1 A') : Sf A A' := ⟨h.1.tr h2.1, Nat.le_trans h.2.1 h2.2.1, Nat.le_trans h.2.2.1 h2.2.2.1, fun i hi => (h2.2.2.2.1 i (Nat.lt_of_lt_of_le hi h.1.2.1)).trans (h.2.2.2.1 i hi), Nat.le_trans h.2.2.2.2.1 h2.2.2.2.2.1, fun c hc => by
  obtain ⟨a1, a2, a3, a4⟩ := h.2.2.2.2.2 c hc
  obtain ⟨b1, b2, b3, b4⟩ := h2.2.2.2.2.2 c (Nat.lt_of_lt_of_le hc h.2.1)
  exact ⟨b1.trans a1, b2.trans a2, b3.trans a3, b4.trans a4⟩⟩
theorem Sf.k10 (h : Sf A A') (i : Nat) : A' 10 i = A 10 i := h.1.1 10 i (by unfold fxr; omega)
theorem at_.fx {a y q : Nat} (h : Sf A A') (ha : a < A 0 3) (hy : at_ A a y q) : at_ A' a y q := by
  obtain ⟨h1, h2, h3, h4⟩ := hy
  have s := h.2.2.2.2.2 _ h2
  have s2 := h.2.2.2.2.2 _ ha
  exact ⟨h1, Nat.lt_of_lt_of_le h2 h.2.1, s.1.trans h3, by rw [s.2.1, s2.2.1]; exact h4⟩
theorem kK.fx (h : Sf A A') (rw_ : ∀ r, ar r → r ≠ 7 → A' r b = A r b) (hb2 : b < A 0 3) (h5 : A 5 b + 3 ≤ A 0 5) (hk : kK A b) : kK A' b := by
  have k10 := h.k10
  have r5 := rw_ 5 (by unfold ar; omega) (by omega)
  have r8 := rw_ 8 (by unfold ar; omega) (by omega)
  have r9 := rw_ 9 (by unfold ar; omega) (by omega)
  have r13 := rw_ 13 (by unfold ar; omega) (by omega)
  have r18 := rw_ 18 (by unfold ar; omega) (by omega)
  have r19 := rw_ 19 (by unfold ar; omega) (by omega)
  have r20 := rw_ 20 (by unfold ar; omega) (by omega)
  have r21 := rw_ 21 (by unfold ar; omega) (by omega)
  have r22 := rw_ 22 (by unfold ar; omega) (by omega)
  have r24 := rw_ 24 (by unfold ar; omega) (by omega)
  have m5 := h.1.2.1
  have m9 := h.2.2.2.2.1
  have h11 := h.2.2.2.1
  have h0 := h.1.1 0 0 (by unfold fxr; omega)
  have h4 := h.1.1 0 4 (by unfold fxr; omega)
  unfold kK at hk ⊢
  rw [r5, r8, r9, r13, r18, r19, r20, r21, r22, r24, k10, k10]
  rcases hk with ⟨a1, a2, a3, a4⟩ | ⟨a1, a2, a3⟩ | ⟨a1, a2, a3, a4⟩ | ⟨a1, a2, a3, a4, a5, a6, a7⟩
  · exact Or.inl ⟨a1, hOK_cg k10 h0 (h11 _ (by omega)) a2, fun q => ⟨hOK_cg k10 h0 (h11 _ (by have := (a3 q).2; omega)) (a3 q).1, by have := (a3 q).2; omega⟩, a4⟩
  · exact Or.inr (Or.inl ⟨a1, vOK_cg k10 (h11 _ (by omega)) a2, a3⟩)
  · refine Or.inr (Or.inr (Or.inl ⟨a1, ?_, ?_, a4⟩))
    · rw [h11 _ (by omega)]; exact a2
    · rw [h11 _ (by omega)]; exact a3
  · refine Or.inr (Or.inr (Or.inr ⟨a1, cOK_cg k10 h4 h11 (by omega) a2, by omega, by omega, fun q => (a5 q).fx h hb2, a6, fun q => ?_⟩))
    obtain ⟨b1, b2, b3⟩ := a7 q
    refine ⟨b1, b2, b3.imp id (fun ⟨c1, c2, c3, c4⟩ => ⟨c1, c2, fun z => (c3 z).fx h hb2, c4⟩)⟩
theorem LC.fx (h : Sf A A') (rw_ : ∀ r, ar r → A' r b = A r b) (hb2 : b < A 0 3) (hk : LC A b) : LC A' b := by
  obtain ⟨a1, a2, a3, a4, a5, a6⟩ := hk
  unfold LC
  rw [rw_ 5 (by unfold ar; omega), rw_ 12 (by unfold ar; omega), rw_ 18 (by unfold ar; omega), rw_ 19 (by unfold ar; omega), rw_ 7 (by unfold ar; omega)]
  have := h.1.2.1
  have := h.2.2.1
  exact ⟨by omega, a2, a3, by omega, fun q => (a5 q).fx h hb2, a6.fx h (fun r q _ => rw_ r q) hb2 a1⟩
theorem LO.fx (h : Sf A A') (rw_ : ∀ r, ar r → A' r b = A r b) (hb2 : b < A 0 3) (hw : A' 19 (A 6 b - 1) = A 19 (A 6 b - 1) ∧ A' 24 (A 6 b - 1) = A 24 (A 6 b - 1)) (hk : LO A b) : LO A' b := by
  obtain ⟨a1, a2, a3, a4, a5⟩ := hk
  obtain ⟨b1, b2, b3, b4⟩ := h.2.2.2.2.2 (A 6 b - 1) (by omega)
  unfold LO bQ
  rw [rw_ 6 (by unfold ar; omega), rw_ 7 (by unfold ar; omega), rw_ 12 (by unfold ar; omega), rw_ 13 (by unfold ar; omega), rw_ 19 (by unfold ar; omega), b2, b3, b4, hw.1, hw.2, h.k10]
  exact ⟨a1, a2, a3, a4, a5⟩
theorem FxA.sf (h : FxA A A') : Sf A A' := ⟨h.1, h.2.2.1, h.2.2.2.1, h.2.2.2.2.1, h.2.2.2.2.2, fun c hc => ⟨h.2.1 18 c (by unfold ar; omega) hc, h.2.1 13 c (by unfold ar; omega) hc, h.2.1 12 c (by unfold ar; omega) hc, h.2.1 5 c (by unfold ar; omega) hc⟩⟩
/-- one number changes that these facts do not see -/
theorem Sf.u {r k v : Nat} (h : (r = 0 ∧ k = 8 ∧ A 0 8 ≤ v) ∨ (r = 0 ∧ k = 5 ∧ A 0 5 ≤ v) ∨ ((8 ≤ r ∧ r ≤ 9) ∨ (19 ≤ r ∧ r ≤ 22) ∨ r = 24 ∨ r = 7)) : Sf A (u2 A r k v) := by
  refine ⟨FxR.u (by unfold fxr; omega) (by omega), ?_, ?_, fun i hi => ?_, ?_, fun c hc => ⟨?_, ?_, ?_, ?_⟩⟩
  · rw [u2_a, if_neg (by omega)]; exact Nat.le_refl _
  · rw [u2_a]; split <;> omega
  · rw [u2_a, if_neg (by omega)]
  · rw [u2_a, if_neg (by omega)]; exact Nat.le_refl _
  · rw [u2_a, if_neg (by omega)]
  · rw [u2_a, if_neg (by omega)]
  · rw [u2_a, if_neg (by omega)]
  · rw [u2_a, if_neg (by omega)]
/-- what a block leaves -/
def BQ (o dp : Nat) (A A' : Bk) : Prop := FxA A A' ∧ A 0 5 + 2 ≤ A' 0 5 ∧ (A' 0 3 = A 0 3 → A' 0 8 = A 0 8) ∧ (A 0 3 < A' 0 3 → A' 18 (A 0 3) = A 0 8) ∧ ∀ b, A 0 3 ≤ b → b < A' 0 3 → LC A' b ∧ A 0 8 ≤ A' 18 b ∧ A' 13 b = A 0 2 ∧ ((A' 6 b = o ∧ A' 12 b = dp ∧ (A' 7 b = 0 → A' 19 b = A' 0 8)) ∨ (LO A' b ∧ A 0 3 + 1 ≤ A' 6 b))
def BP (blk : Nat → Bk → Bool × Bk) (dp : Nat) : Prop := ∀ {o : Nat} {A : Bk} {F : Bk → Prop}, NF A → A 0 5 < A 0 4 → TkL A → (o = 0 → dp = 0) → (o ≠ 0 → o ≤ A 0 3 ∧ dp = A 12 (o - 1) + 1) → (∀ A', BQ o dp A A' → NF A' → A' 0 5 < A' 0 4 → F A') → PW (blk o A) F
/-- what an act leaves -/
def AQ (x : Nat) (A A' : Bk) : Prop := FxR A A' ∧ (∀ r b, ar r → b < x - 1 → A' r b = A r b) ∧ A 0 3 ≤ A' 0 3 ∧ (∀ i, i < A 0 5 → A' 11 i = A 11 i) ∧ A 0 9 ≤ A' 0 9 ∧ (∀ r, r = 5 ∨ r = 6 ∨ r = 7 ∨ r = 12 ∨ r = 13 ∨ r = 18 → A' r (x - 1) = A r (x - 1)) ∧ A' 19 (x - 1) = A' 0 8 ∧ A 0 8 < A' 0 8 ∧ A 0 5 + 3 ≤ A' 0 5 ∧ kK A' (x - 1) ∧ ∀ b, x ≤ b → b < A' 0 3 → LC A' b ∧ A 0 8 < A' 18 b ∧ A' 13 b = A 0 2 ∧ LO A' b ∧ x ≤ A' 6 b
def AH (x : Nat) (A : Bk) : Prop := NF A ∧ A 0 5 < A 0 4 ∧ TkL A ∧ 1 ≤ x ∧ A 0 3 = x ∧ A 5 (x - 1) = A 0 5 ∧ A 18 (x - 1) = A 0 8 ∧ A 13 (x - 1) = A 0 2 ∧ A 8 (x - 1) = 0 ∧ A 9 (x - 1) = 0
/-- the end of an act with one order -/
theorem p_end {x m : Nat} {A2 : Bk} (hA : AH x A) (f : FxT m A A2) (hn : NF A2) (hl : A2 0 5 < A2 0 4) (h5 : A 0 5 + 2 ≤ A2 0 5) (hk : ∀ A', (∀ i, A' 10 i = A2 10 i) → (∀ i, A' 11 i = A2 11 i) → A' 0 0 = A2 0 0 → A' 0 5 = A2 0 5 + 1 → A' 5 (x - 1) = A 0 5 → A' 13 (x - 1) = A 0 2 → (A' 19 (x - 1) = A' 18 (x - 1) + 1 ∧ A' 8 (x - 1) = 0 ∧ A' 9 (x - 1) = 0) → kK A' (x - 1)) (h : ∀ A', AQ x A A' → NF A' → A' 0 5 < A' 0 4 → F A') : PW (mEnd x A2) F := by
  obtain ⟨h1, h2, h3, h4, h5', h6, h7, h8, h9, h10⟩ := hA
  unfold mEnd gPe gInc gSet
  have hn3 : NF (u2 (u2 A2 0 8 (A2 0 8 + 1)) 19 (x - 1) (u2 A2 0 8 (A2 0 8 + 1) 0 8)) := (hn.g (Or.inl ⟨rfl, by omega, by omega⟩)).g (by omega)
  refine p_tk2 (by omega) hn3 hl ((h3.fx f.1).fx ((FxR.u (by unfold fxr; omega) (by omega)).tr (FxR.u (by unfold fxr; omega) (by omega)))) (fun A' e k f3 n3 e3 l3 => h A' ?_ n3 l3)
  have ev : ∀ r k, (r ≠ 0 ∨ (k ≠ 5 ∧ k ≠ 8)) → (r ≠ 19 ∨ k ≠ x - 1) → A' r k = A2 r k := by
    intro r k q1 q2
    rw [e, u2_a, if_neg (by omega), u2_a, if_neg (by omega), u2_a, if_neg (by omega)]
  have e8 : A' 0 8 = A2 0 8 + 1 := by rw [e, u2_a, if_neg (by omega), u2_a, if_neg (by omega), u2_a, if_pos ⟨rfl, rfl⟩]
  have e19 : A' 19 (x - 1) = A2 0 8 + 1 := by rw [e, u2_a, if_neg (by omega), u2_a, if_pos ⟨rfl, rfl⟩, u2_a, if_pos ⟨rfl, rfl⟩]
  have e5 : A' 0 5 = A2 0 5 + 1 := e3
  have t := f.2.1
  have fr : FxR A2 A' := by
    rw [e]
    exact ((FxR.u (by unfold fxr; omega) (by omega)).tr (FxR.u (by unfold fxr; omega) (by omega))).tr (FxR.u (by unfold fxr; omega) (Or.inr (Or.inl ⟨rfl, by omega⟩)))
  have a03 : A' 0 3 = A 0 3 := by rw [ev 0 3 (by omega) (by omega), f.2.2.1]
  refine ⟨f.1.tr fr, fun r b hr hb => ?_, by omega, fun i hi => ?_, ?_, fun r hr => ?_, by omega, ?_, by omega, ?_, fun b hb1 hb2 => by omega⟩
  · rw [ev r b (by unfold ar at hr; omega) (by omega), t r b hr]
  · rw [ev 11 i (by omega) (by omega)]; exact f.2.2.2.2.1 i hi
  · rw [ev 0 9 (by omega) (by omega), f.2.2.2.2.2]; omega
  · rw [ev r _ (by omega) (by omega), t r _ (by unfold ar; omega)]
  · rw [e8, f.2.2.2.1]; omega
  · refine hk A' (fun i => ev 10 i (by omega) (by omega)) (fun i => ev 11 i (by omega) (by omega)) (ev 0 0 (by omega) (by omega)) e5 ?_ ?_ ?_
    · rw [ev 5 _ (by omega) (by omega), t 5 _ (by unfold ar; omega)]; exact h6
    · rw [ev 13 _ (by omega) (by omega), t 13 _ (by unfold ar; omega)]; exact h8
    · refine ⟨?_, ?_, ?_⟩
      · rw [e19, ev 18 _ (by omega) (by omega), t 18 _ (by unfold ar; omega), h7, f.2.2.2.1]
      · rw [ev 8 _ (by omega) (by omega), t 8 _ (by unfold ar; omega)]; exact h9
      · rw [ev 9 _ (by omega) (by omega), t 9 _ (by unfold ar; omega)]; exact h10
/-- the children of the act x, the last of each at the end e -/
def CH (x q pl dp : Nat) (e : Nat → Nat → Prop) (A : Bk) : Prop := ∀ b, x ≤ b → b < A 0 3 → LC A b ∧ q ≤ A 18 b ∧ A 13 b = pl ∧ ((A 6 b = x ∧ A 12 b = dp ∧ (A 7 b = 0 → e b (A 19 b))) ∨ (LO A b ∧ x + 1 ≤ A 6 b))
def HD (x : Nat) (A A5 : Bk) : Prop := Sf A A5 ∧ (∀ r b, ar r → b < x - 1 → A5 r b = A r b) ∧ (∀ r, r = 5 ∨ r = 6 ∨ r = 7 ∨ r = 9 ∨ r = 12 ∨ r = 13 ∨ r = 18 → A5 r (x - 1) = A r (x - 1)) ∧ A 0 8 + 1 ≤ A5 0 8 ∧ A 0 5 + 6 ≤ A5 0 5 ∧ cOK A5 (A5 21 (x - 1)) (A 0 5 + 1) ∧ A 0 5 + 4 * A5 21 (x - 1) + 4 ≤ A5 0 5 ∧ A5 20 (x - 1) + A5 21 (x - 1) + 1 ≤ A5 0 9 ∧ (A5 8 (x - 1) ≠ 0 → at_ A5 (x - 1) (A5 8 (x - 1)) (A 0 8 + 1)) ∧ (A5 8 (x - 1) = 0 → A5 0 8 = A 0 8 + 1) ∧ CH x (A 0 8 + 1) (A 0 2) (A 12 (x - 1) + 1) (fun _ q => q = A5 0 8) A5
theorem CH.fx {x q pl dp : Nat} {e e' : Nat → Nat → Prop} (h : CH x q pl dp e A) (hs : Sf A A') (h3 : A' 0 3 = A 0 3) (hr : ∀ r b, ar r → x ≤ b → b < A 0 3 → A' r b = A r b) (he : ∀ b q, e b q → e' b q) : CH x q pl dp e' A' := by
  intro b hb1 hb2
  rw [h3] at hb2
  obtain ⟨a1, a2, a3, a4⟩ := h b hb1 hb2
  have rb : ∀ r, ar r → A' r b = A r b := fun r q => hr r b q hb1 hb2
  refine ⟨a1.fx hs rb hb2, by rw [rb 18 (by unfold ar; omega)]; exact a2, by rw [rb 13 (by unfold ar; omega)]; exact a3, ?_⟩
  rcases a4 with ⟨c1, c2, c3⟩ | ⟨c1, c2⟩
  · refine Or.inl ⟨by rw [rb 6 (by unfold ar; omega)]; exact c1, by rw [rb 12 (by unfold ar; omega)]; exact c2, ?_⟩
    rw [rb 7 (by unfold ar; omega), rb 19 (by unfold ar; omega)]
    exact fun z => he _ _ (c3 z)
  · have l := c1.2.1
    refine Or.inr ⟨c1.fx hs rb hb2 ⟨hr 19 _ (by unfold ar; omega) (by omega) (by omega), hr 24 _ (by unfold ar; omega) (by omega) (by omega)⟩, ?_⟩
    rw [rb 6 (by unfold ar; omega)]; exact c2
theorem ar19 : ar 19 := by unfold ar; omega
theorem PW.bo {blk : Nat → Bk → Bool × Bk} {r x : Nat} (hx : x ≠ 0) (hr : r ≠ 0) (h : PW (blk x A) (fun A4 => F (u2 A4 r (x - 1) (if A 0 3 < A4 0 3 then A 0 3 + 1 else 0)))) : PW (mBO blk r x A) F := by
  intro ht h0
  unfold mBO at ht h0 ⊢
  have h0 : (if x = 0 then (blk x A).2 else u2 (blk x A).2 r (x - 1) (if A 0 3 < (blk x A).2 0 3 then A 0 3 + 1 else 0)) 0 6 = 0 := h0
  show F (if x = 0 then (blk x A).2 else u2 (blk x A).2 r (x - 1) (if A 0 3 < (blk x A).2 0 3 then A 0 3 + 1 else 0))
  rw [if_neg hx] at h0 ⊢
  rw [u2_a, if_neg (by omega)] at h0
  exact h ht h0
theorem p_head {blk : Nat → Bk → Bool × Bk} {g : Bk → Bool × Bk} {x dp k : Nat} (hb : ∀ o, Fx (blk o)) (hP : BP blk dp) (hg : Fx g) (hk : 2 ≤ k) (hA : AH x A) (hd : dp = A 12 (x - 1) + 1)
    (h : ∀ A5, HD x A A5 → NF A5 → A5 0 5 < A5 0 4 → PW (g A5) F) : PW (bd (mTk k A) fun A => bd (mCmp 400 (gCs x A)) fun A => bd (mBO blk 8 x (gInc 8 (gN x A))) g) F := by
  obtain ⟨h1, h2, h3, h4, h5, h6, h7, h8, h9, h10⟩ := hA
  have fx2 : Fx (fun A => bd (mBO blk 8 x (gInc 8 (gN x A))) g) := fun A => bd_fx (((fx_set (r := 21) (by omega)).tr (fx_inc (by omega))).tr (fx_bo (by omega) hb _)) hg
  refine PW.b (fun A1 => bd_fx ((fx_set (r := 20) (by omega)).tr (fx_cmp _)) fx2) (p_tk2 hk h1 h2 h3 (fun A1 eA1 _ f1 n1 e1 l1 => ?_))
  have fc : FxR A1 (gCs x A1) := fx_set (by omega)
  refine PW.b fx2 (p_cmp (A := gCs x A1) (n1.g (by omega)) l1 ((h3.fx f1.1).fx fc) (fun A2 c f2 n2 e2 l2 hc => ?_))
  have c5 : gCs x A1 0 5 = A1 0 5 := rfl
  have c8 : gCs x A1 0 8 = A1 0 8 := rfl
  have c9 : gCs x A1 0 9 = A1 0 9 := rfl
  have c3 : gCs x A1 0 3 = A1 0 3 := rfl
  have c20 : gCs x A1 20 (x - 1) = A1 0 9 := by unfold gCs gSet; rw [u2_a, if_pos ⟨rfl, rfl⟩]
  have cr : ∀ r j, ar r → (r ≠ 20 ∨ j ≠ x - 1) → gCs x A1 r j = A1 r j := fun r j q z => by
    unfold gCs gSet; rw [u2_a, if_neg (by omega)]
  have a20 : A2 20 (x - 1) = A 0 9 := by rw [f2.2.1 20 _ (by unfold ar; omega), c20, f1.2.2.2.2.2]; rfl
  have a09 : A2 0 9 = A 0 9 + (c + 1) := by rw [f2.2.2.2.2.2, c9, f1.2.2.2.2.2]; rfl
  have a08 : A2 0 8 = A 0 8 := by rw [f2.2.2.2.1, c8, f1.2.2.2.1]
  have a03 : A2 0 3 = A 0 3 := by rw [f2.2.2.1, c3, f1.2.2.1]
  have a05 : A2 0 5 = A 0 5 + 1 + 4 * c + 3 := by rw [e2, c5, e1]
  have ar2 : ∀ r j, ar r → (r ≠ 20 ∨ j ≠ x - 1) → A2 r j = A r j := fun r j q z => by rw [f2.2.1 r j q, cr r j q z, f1.2.1 r j q]
  have a02 : A2 0 2 = A 0 2 := by rw [f2.1.1 0 2 (by unfold fxr; omega), fc.1 0 2 (by unfold fxr; omega), f1.1.1 0 2 (by unfold fxr; omega)]
  have a11 : ∀ i, i < A 0 5 → A2 11 i = A 11 i := fun i hi => by
    rw [f2.2.2.2.2.1 i (by rw [c5, e1]; omega), show gCs x A1 11 i = A1 11 i from rfl, f1.2.2.2.2.1 i hi]
  have fr2 : FxR A A2 := (f1.1.tr fc).tr f2.1
  rw [c5, e1] at hc
  obtain ⟨A3, e3⟩ : ∃ A3, A3 = gInc 8 (gN x A2) := ⟨_, rfl⟩
  have b21 : A3 21 (x - 1) = c := by
    rw [e3]; unfold gInc gN gSet
    rw [u2_a, if_neg (by omega), u2_a, if_pos ⟨rfl, rfl⟩, a20, a09]; omega
  have b08 : A3 0 8 = A 0 8 + 1 := by
    rw [e3]; unfold gInc gN gSet
    rw [u2_a, if_pos ⟨rfl, rfl⟩, u2_a, if_neg (by omega), a08]
  have bs : ∀ r j, (r ≠ 0 ∨ j ≠ 8) → (r ≠ 21 ∨ j ≠ x - 1) → A3 r j = A2 r j := fun r j q z => by
    rw [e3]; unfold gInc gN gSet
    rw [u2_a, if_neg (by omega), u2_a, if_neg (by omega)]
  have n3 : NF A3 := by rw [e3]; exact (n2.g (by omega)).g (Or.inl ⟨rfl, by omega, by omega⟩)
  have fr3 : FxR A2 A3 := by rw [e3]; exact (fx_set (by omega)).tr (fx_inc (by omega))
  rw [← e3]
  have b05 := bs 0 5 (by omega) (by omega)
  have b04 := bs 0 4 (by omega) (by omega)
  have b03 := bs 0 3 (by omega) (by omega)
  have b09 := bs 0 9 (by omega) (by omega)
  have b02 := bs 0 2 (by omega) (by omega)
  clear e3
  have hx0 : x ≠ 0 := by omega
  have hbl : PW (blk x A3) (fun A4 => PW (g (u2 A4 8 (x - 1) (if A3 0 3 < A4 0 3 then A3 0 3 + 1 else 0))) F) := by
    refine hP n3 (by omega) (((h3.fx fr2)).fx fr3) (fun z => absurd z hx0) (fun _ => ⟨by omega, ?_⟩) (fun A4 hB n4 l4 => ?_)
    · rw [bs 12 _ (by omega) (by omega), ar2 12 _ (by unfold ar; omega) (by omega)]; exact hd
    · obtain ⟨q1, q2, q3, q4, q5⟩ := hB
      obtain ⟨A5, e5⟩ : ∃ A5, A5 = u2 A4 8 (x - 1) (if A3 0 3 < A4 0 3 then A3 0 3 + 1 else 0) := ⟨_, rfl⟩
      rw [← e5]
      have d8 : A5 8 (x - 1) = if A3 0 3 < A4 0 3 then A3 0 3 + 1 else 0 := by rw [e5, u2_a, if_pos ⟨rfl, rfl⟩]
      have ds : ∀ r j, (r ≠ 8 ∨ j ≠ x - 1) → A5 r j = A4 r j := fun r j z => by rw [e5, u2_a, if_neg (by omega)]
      have s45 : Sf A4 A5 := by rw [e5]; exact Sf.u (by omega)
      have n5 : NF A5 := by rw [e5]; exact n4.g (by omega)
      have d03 := ds 0 3 (by omega)
      have d05 := ds 0 5 (by omega)
      have d08 := ds 0 8 (by omega)
      have d09 := ds 0 9 (by omega)
      have d04 := ds 0 4 (by omega)
      clear e5
      have row : ∀ r j, ar r → j < x → (r ≠ 20 ∨ j ≠ x - 1) → (r ≠ 21 ∨ j ≠ x - 1) → (r ≠ 8 ∨ j ≠ x - 1) → A5 r j = A r j := fun r j q hj z1 z2 z3 => by
        rw [ds r j z3, q1.2.1 r j q (by omega), bs r j (by unfold ar at q; omega) z2, ar2 r j q z1]
      have sA3 : Sf A A3 := by
        refine ⟨fr2.tr fr3, by omega, by omega, fun i hi => by rw [bs 11 i (by omega) (by omega)]; exact a11 i hi, by omega, fun c hc => ?_⟩
        have z : ∀ r, r = 18 ∨ r = 13 ∨ r = 12 ∨ r = 5 → A3 r c = A r c := fun r hr => by rw [bs r c (by omega) (by omega), ar2 r c (by unfold ar; omega) (by omega)]
        exact ⟨z 18 (by omega), z 13 (by omega), z 12 (by omega), z 5 (by omega)⟩
      have sA5 := (sA3.tr q1.sf).tr s45
      have hc3 : cOK A3 c (A 0 5 + 1) := cOK_cg (T := A2 0 5) (fun i => bs 10 i (by omega) (by omega)) b04 (fun i _ => bs 11 i (by omega) (by omega)) (by omega) hc
      have k3 := q1.sf.k10
      have hc4 : cOK A4 c (A 0 5 + 1) := cOK_cg (T := A3 0 5) k3 (q1.1.1 0 4 (by unfold fxr; omega)) q1.2.2.2.2.1 (by omega) hc3
      have hc5 : cOK A5 c (A 0 5 + 1) := cOK_cg (T := A4 0 5) (fun i => ds 10 i (by omega)) d04 (fun i _ => ds 11 i (by omega)) (by omega) hc4
      have m21 : A5 21 (x - 1) = c := by rw [ds 21 _ (by omega), q1.2.1 21 _ (by unfold ar; omega) (by omega), b21]
      have m20 : A5 20 (x - 1) = A 0 9 := by rw [ds 20 _ (by omega), q1.2.1 20 _ (by unfold ar; omega) (by omega), bs 20 _ (by omega) (by omega), a20]
      have p3 := q1.2.2.1
      have p8 := q1.2.2.2.1
      have p9 := q1.2.2.2.2.2
      refine h A5 ⟨sA5, fun r b hr hb => row r b hr (by omega) (by omega) (by omega) (by omega), fun r hr => row r _ (by unfold ar; omega) (by omega) (by omega) (by omega) (by omega), by omega, by omega, by rw [m21]; exact hc5, by omega, by omega, fun z => ?_, fun z => ?_, ?_⟩ n5 (by omega)
      · rw [d8] at z ⊢
        split at z
        · next y =>
          rw [if_pos y]
          refine ⟨by omega, by omega, ?_, ?_⟩
          · rw [show A3 0 3 + 1 - 1 = A3 0 3 by omega, ds 18 _ (by omega), q4 y, b08]
          · rw [show A3 0 3 + 1 - 1 = A3 0 3 by omega, ds 13 _ (by omega), (q5 _ (Nat.le_refl _) y).2.2.1, row 13 _ (by unfold ar; omega) (by omega) (by omega) (by omega) (by omega), h8, b02, a02]
        · exact absurd rfl z
      · rw [d8] at z
        split at z
        · omega
        · have := q3 (by omega); omega
      · have ch : CH x (A 0 8 + 1) (A 0 2) (A 12 (x - 1) + 1) (fun _ q => q = A5 0 8) A4 := by
          intro b hb1 hb2
          obtain ⟨y1, y2, y3, y4⟩ := q5 b (by omega) hb2
          refine ⟨y1, by omega, by rw [y3, b02, a02], ?_⟩
          rcases y4 with ⟨w1, w2, w3⟩ | ⟨w1, w2⟩
          · exact Or.inl ⟨w1, by rw [w2, hd], fun z => by rw [w3 z, d08]⟩
          · exact Or.inr ⟨w1, by omega⟩
        exact ch.fx s45 d03 (fun r b _ hb1 _ => ds r b (by omega)) (fun _ _ z => z)
  exact PW.b hg (PW.bo hx0 (by omega) hbl)
theorem CH.lo {x q pl dp : Nat} {e : Nat → Nat → Prop} (h : CH x q pl dp e A) (h1 : 1 ≤ x) (hd : A 12 (x - 1) + 1 = dp) (hp : A 13 (x - 1) = pl) (hk : A 10 (A 5 (x - 1)) = 22 ∨ A 10 (A 5 (x - 1)) = 23) (he : ∀ b v, e b v → (A 10 (A 5 (x - 1)) = 22 → v + 1 = A 19 (x - 1)) ∧ (A 10 (A 5 (x - 1)) = 23 → v = A 24 (x - 1) ∨ v = A 19 (x - 1))) : ∀ b, x ≤ b → b < A 0 3 → LC A b ∧ q ≤ A 18 b ∧ A 13 b = pl ∧ LO A b ∧ x ≤ A 6 b := by
  intro b hb1 hb2
  obtain ⟨a1, a2, a3, a4⟩ := h b hb1 hb2
  refine ⟨a1, a2, a3, ?_⟩
  rcases a4 with ⟨c1, c2, c3⟩ | ⟨c1, c2⟩
  · refine ⟨⟨by omega, by omega, by rw [c1, c2]; exact hd.symm, by rw [c1, a3]; exact hp, fun z => ?_⟩, by omega⟩
    rw [c1]
    have := he b _ (c3 z)
    exact ⟨hk, this.1, this.2⟩
  · exact ⟨c1, by omega⟩
theorem p_while {blk : Nat → Bk → Bool × Bk} {x dp : Nat} (hb : ∀ o, Fx (blk o)) (hP : BP blk dp) (hA : AH x A) (hd : dp = A 12 (x - 1) + 1) (hk : A 10 (A 0 5) = 22) (h : ∀ A', AQ x A A' → NF A' → A' 0 5 < A' 0 4 → F A') : PW (mWhile blk x A) F := by
  unfold mWhile
  have fg : Fx (fun A => (true, gPe x (gInc 8 A))) := fun A => (fx_inc (by omega)).tr (fx_set (r := 19) (by omega))
  refine p_head hb hP fg (by omega) hA hd (fun A5 H n5 l5 => ?_)
  obtain ⟨h1, h2, h3, h4, h5, h6, h7, h8, h9, h10⟩ := hA
  obtain ⟨g1, g2, g3, g4, g5, g6, g7, g8, g9, g10, g11⟩ := H
  intro _ _
  show F (gPe x (gInc 8 A5))
  obtain ⟨A6, e6⟩ : ∃ A6, A6 = gPe x (gInc 8 A5) := ⟨_, rfl⟩
  rw [← e6]
  have s8 : A6 0 8 = A5 0 8 + 1 := by rw [e6]; unfold gPe gInc gSet; rw [u2_a, if_neg (by omega), u2_a, if_pos ⟨rfl, rfl⟩]
  have s19 : A6 19 (x - 1) = A5 0 8 + 1 := by rw [e6]; unfold gPe gInc gSet; rw [u2_a, if_pos ⟨rfl, rfl⟩, u2_a, if_pos ⟨rfl, rfl⟩]
  have ss : ∀ r j, (r ≠ 0 ∨ j ≠ 8) → (r ≠ 19 ∨ j ≠ x - 1) → A6 r j = A5 r j := fun r j q z => by
    rw [e6]; unfold gPe gInc gSet; rw [u2_a, if_neg (by omega), u2_a, if_neg (by omega)]
  have sf : Sf A5 A6 := by rw [e6]; exact (Sf.u (r := 0) (k := 8) (by omega)).tr (Sf.u (r := 19) (by omega))
  have n6 : NF A6 := by rw [e6]; exact (n5.g (Or.inl ⟨rfl, by omega, by omega⟩)).g (by omega)
  clear e6
  have t3 := ss 0 3 (by omega) (by omega)
  have t4 := ss 0 4 (by omega) (by omega)
  have t5 := ss 0 5 (by omega) (by omega)
  have t9 := ss 0 9 (by omega) (by omega)
  have sA := g1.tr sf
  have p3 := g1.2.1
  have r5 : A6 5 (x - 1) = A 0 5 := by rw [ss 5 _ (by omega) (by omega), g3 5 (by omega)]; exact h6
  have r18 : A6 18 (x - 1) = A 0 8 := by rw [ss 18 _ (by omega) (by omega), g3 18 (by omega)]; exact h7
  have r13 : A6 13 (x - 1) = A 0 2 := by rw [ss 13 _ (by omega) (by omega), g3 13 (by omega)]; exact h8
  have r12 : A6 12 (x - 1) = A 12 (x - 1) := by rw [ss 12 _ (by omega) (by omega), g3 12 (by omega)]
  have k22 : A6 10 (A 0 5) = 22 := by rw [sA.k10]; exact hk
  have ch := g11.fx (e' := fun _ q => q = A5 0 8) sf t3 (fun r b q hb1 _ => ss r b (by unfold ar at q; omega) (by omega)) (fun _ _ z => z)
  have lo := ch.lo h4 (by rw [r12]) r13 (by rw [r5]; exact Or.inl k22) (fun b v hv => ⟨fun _ => by omega, fun z => by rw [r5, k22] at z; omega⟩)
  refine h A6 ⟨sA.1, fun r b hr hb => by rw [ss r b (by unfold ar at hr; omega) (by omega), g2 r b hr hb], by omega, sA.2.2.2.1, sA.2.2.2.2.1, fun r hr => by rw [ss r _ (by omega) (by omega), g3 r (by omega)], by omega, by omega, by omega, ?_, fun b hb1 hb2 => ?_⟩ n6 (by omega)
  · refine Or.inr (Or.inr (Or.inr ⟨Or.inl (by rw [r5]; exact k22), ?_, ?_, ?_, fun z => ?_, fun _ => ⟨fun z => ?_, by omega, ?_⟩, fun z => by rw [r5, k22] at z; omega⟩))
    · rw [r5, ss 21 _ (by omega) (by omega)]
      exact cOK_cg (T := A5 0 5) sf.k10 t4 (fun i _ => ss 11 i (by omega) (by omega)) (by omega) g6
    · rw [r5, ss 21 _ (by omega) (by omega)]; omega
    · rw [ss 20 _ (by omega) (by omega), ss 21 _ (by omega) (by omega)]; omega
    · rw [ss 8 _ (by omega) (by omega)] at z ⊢
      rw [r18]
      exact (g9 z).fx sf (by omega)
    · rw [ss 8 _ (by omega) (by omega)] at z
      have := g10 z; omega
    · rw [ss 9 _ (by omega) (by omega), g3 9 (by omega)]; exact h10
  · obtain ⟨y1, y2, y3, y4, y5⟩ := lo b hb1 hb2
    exact ⟨y1, by omega, y3, y4, y5⟩
theorem p_if {blk : Nat → Bk → Bool × Bk} {x dp : Nat} (hb : ∀ o, Fx (blk o)) (hP : BP blk dp) (hA : AH x A) (hd : dp = A 12 (x - 1) + 1) (hk : A 10 (A 0 5) = 23) (h : ∀ A', AQ x A A' → NF A' → A' 0 5 < A' 0 4 → F A') : PW (mIf blk x A) F := by
  unfold mIf
  have fe : Fx (fun A4 => bd (mBO blk 9 x A4) (fun A5 => (true, gPe x A5))) := fun A4 => bd_fx (fx_bo (by omega) hb A4) (fun A5 => fx_set (r := 19) (by omega))
  have fg : Fx (fun A => mElse blk x (gIe x A)) := fun A3 => by
    refine FxR.tr (A1 := gIe x A3) (fx_set (r := 24) (by omega)) ?_
    show FxR (gIe x A3) (mElse blk x (gIe x A3)).2
    generalize gIe x A3 = A3
    unfold mElse
    split
    · exact bd_fx (((fx_inc (k := 8) (by omega)).tr (fx_set (r := 22) (by omega))).tr (fx_tk _)) fe
    · exact (fx_set (r := 22) (by omega)).tr (fx_set (r := 19) (by omega))
  refine p_head hb hP fg (by omega) hA hd (fun A5 H n5 l5 => ?_)
  obtain ⟨h1, h2, h3, h4, h5, h6, h7, h8, h9, h10⟩ := hA
  obtain ⟨g1, g2, g3, g4, g5, g6, g7, g8, g9, g10, g11⟩ := H
  have hx0 : x ≠ 0 := by omega
  have p3 := g1.2.1
  show PW (mElse blk x (gIe x A5)) F
  obtain ⟨A6, e6⟩ : ∃ A6, A6 = gIe x A5 := ⟨_, rfl⟩
  rw [← e6]
  have s24 : A6 24 (x - 1) = A5 0 8 := by rw [e6]; unfold gIe gSet; rw [u2_a, if_pos ⟨rfl, rfl⟩]
  have ss : ∀ r j, (r ≠ 24 ∨ j ≠ x - 1) → A6 r j = A5 r j := fun r j z => by
    rw [e6]; unfold gIe gSet; rw [u2_a, if_neg (by omega)]
  have sf : Sf A5 A6 := by rw [e6]; exact Sf.u (r := 24) (by omega)
  have n6 : NF A6 := by rw [e6]; exact n5.g (by omega)
  clear e6
  unfold mElse
  split
  · next k24 =>
    obtain ⟨A7, e7⟩ : ∃ A7, A7 = gEx x (gInc 8 A6) := ⟨_, rfl⟩
    rw [← e7]
    have t8 : A7 0 8 = A6 0 8 + 1 := by rw [e7]; unfold gEx gInc gSet; rw [u2_a, if_neg (by omega), u2_a, if_pos ⟨rfl, rfl⟩]
    have t22 : A7 22 (x - 1) = A6 0 8 + 1 := by rw [e7]; unfold gEx gInc gSet; rw [u2_a, if_pos ⟨rfl, rfl⟩, u2_a, if_pos ⟨rfl, rfl⟩]
    have ts : ∀ r j, (r ≠ 0 ∨ j ≠ 8) → (r ≠ 22 ∨ j ≠ x - 1) → A7 r j = A6 r j := fun r j q z => by
      rw [e7]; unfold gEx gInc gSet; rw [u2_a, if_neg (by omega), u2_a, if_neg (by omega)]
    have sf7 : Sf A6 A7 := by rw [e7]; exact (Sf.u (r := 0) (k := 8) (by omega)).tr (Sf.u (r := 22) (by omega))
    have n7 : NF A7 := by rw [e7]; exact (n6.g (Or.inl ⟨rfl, by omega, by omega⟩)).g (by omega)
    clear e7
    have l7 : A7 0 5 < A7 0 4 := by rw [ts 0 5 (by omega) (by omega), ts 0 4 (by omega) (by omega), ss 0 5 (by omega), ss 0 4 (by omega)]; exact l5
    have L7 : TkL A7 := h3.fx ((g1.tr sf).tr sf7).1
    refine PW.b fe (p_tk2 (by omega) n7 l7 L7 (fun A8 e8 _ f8 n8 e85 l8 => ?_))
    have us : ∀ r j, (r ≠ 0 ∨ j ≠ 5) → A8 r j = A7 r j := fun r j q => by rw [e8, u2_a, if_neg (by omega)]
    have sf8 : Sf A7 A8 := by rw [e8]; exact Sf.u (by omega)
    clear e8
    have s58 := (sf.tr sf7).tr sf8
    have s08 := g1.tr s58
    have es : ∀ r j, (r ≠ 0 ∨ (j ≠ 5 ∧ j ≠ 8)) → (r ≠ 22 ∨ j ≠ x - 1) → (r ≠ 24 ∨ j ≠ x - 1) → A8 r j = A5 r j := fun r j q z y => by rw [us r j (by omega), ts r j (by omega) z, ss r j y]
    have e88 : A8 0 8 = A5 0 8 + 1 := by rw [us 0 8 (by omega), t8, ss 0 8 (by omega)]
    have e822 : A8 22 (x - 1) = A5 0 8 + 1 := by rw [us 22 _ (by omega), t22, ss 0 8 (by omega)]
    have e824 : A8 24 (x - 1) = A5 0 8 := by rw [us 24 _ (by omega), ts 24 _ (by omega) (by omega), s24]
    have e83 := es 0 3 (by omega) (by omega) (by omega)
    have e84 := es 0 4 (by omega) (by omega) (by omega)
    have e89 := es 0 9 (by omega) (by omega) (by omega)
    have e855 : A8 0 5 = A5 0 5 + 1 := by rw [e85, ts 0 5 (by omega) (by omega), ss 0 5 (by omega)]
    have e82 : A8 0 2 = A 0 2 := by rw [s08.1.1 0 2 (by unfold fxr; omega)]
    have ch8 : CH x (A 0 8 + 1) (A 0 2) (A 12 (x - 1) + 1) (fun _ q => q = A5 0 8) A8 := g11.fx s58 e83 (fun r b q hb1 _ => es r b (by unfold ar at q; omega) (by omega) (by omega)) (fun _ _ z => z)
    refine PW.b (fun A5 => fx_set (r := 19) (by omega)) (PW.bo hx0 (by omega) ?_)
    refine hP n8 l8 (L7.fx sf8.1) (fun z => absurd z hx0) (fun _ => ⟨by omega, by rw [hd, es 12 _ (by omega) (by omega) (by omega), g3 12 (by omega)]⟩) (fun A9 hB n9 l9 => ?_)
    obtain ⟨q1, q2, q3, q4, q5⟩ := hB
    obtain ⟨A10, e10⟩ : ∃ A10, A10 = u2 A9 9 (x - 1) (if A8 0 3 < A9 0 3 then A8 0 3 + 1 else 0) := ⟨_, rfl⟩
    rw [← e10]
    intro _ _
    show F (gPe x A10)
    obtain ⟨A11, e11⟩ : ∃ A11, A11 = gPe x A10 := ⟨_, rfl⟩
    rw [← e11]
    have v19 : A11 19 (x - 1) = A9 0 8 := by rw [e11]; unfold gPe gSet; rw [u2_a, if_pos ⟨rfl, rfl⟩, e10, u2_a, if_neg (by omega)]
    have v9 : A11 9 (x - 1) = if A8 0 3 < A9 0 3 then A8 0 3 + 1 else 0 := by rw [e11]; unfold gPe gSet; rw [u2_a, if_neg (by omega), e10, u2_a, if_pos ⟨rfl, rfl⟩]
    have vs : ∀ r j, (r ≠ 9 ∨ j ≠ x - 1) → (r ≠ 19 ∨ j ≠ x - 1) → A11 r j = A9 r j := fun r j q z => by
      rw [e11]; unfold gPe gSet; rw [u2_a, if_neg (by omega), e10, u2_a, if_neg (by omega)]
    have sf9 : Sf A9 A11 := by rw [e11, e10]; exact (Sf.u (r := 9) (by omega)).tr (Sf.u (r := 19) (by omega))
    have n11 : NF A11 := by rw [e11, e10]; exact (n9.g (by omega)).g (by omega)
    clear e11 e10
    have v03 := vs 0 3 (by omega) (by omega)
    have v04 := vs 0 4 (by omega) (by omega)
    have v05 := vs 0 5 (by omega) (by omega)
    have v08 := vs 0 8 (by omega) (by omega)
    have v09 := vs 0 9 (by omega) (by omega)
    have m3 := q1.2.2.1
    have m8 := q1.2.2.2.1
    have m9 := q1.2.2.2.2.2
    have sA := (s08.tr q1.sf).tr sf9
    have row : ∀ r, ar r → r ≠ 9 → r ≠ 19 → A11 r (x - 1) = A8 r (x - 1) := fun r q z1 z2 => by rw [vs r _ (by omega) (by omega), q1.2.1 r _ q (by omega)]
    have row5 : ∀ r, ar r → r ≠ 9 → r ≠ 19 → r ≠ 22 → r ≠ 24 → A11 r (x - 1) = A5 r (x - 1) := fun r q z1 z2 z3 z4 => by rw [row r q z1 z2, es r _ (by unfold ar at q; omega) (by omega) (by omega)]
    have r5 : A11 5 (x - 1) = A 0 5 := by rw [row5 5 (by unfold ar; omega) (by omega) (by omega) (by omega) (by omega), g3 5 (by omega)]; exact h6
    have r18 : A11 18 (x - 1) = A 0 8 := by rw [row5 18 (by unfold ar; omega) (by omega) (by omega) (by omega) (by omega), g3 18 (by omega)]; exact h7
    have r13 : A11 13 (x - 1) = A 0 2 := by rw [row5 13 (by unfold ar; omega) (by omega) (by omega) (by omega) (by omega), g3 13 (by omega)]; exact h8
    have r12 : A11 12 (x - 1) = A 12 (x - 1) := by rw [row5 12 (by unfold ar; omega) (by omega) (by omega) (by omega) (by omega), g3 12 (by omega)]
    have r22 : A11 22 (x - 1) = A5 0 8 + 1 := by rw [row 22 (by unfold ar; omega) (by omega) (by omega), e822]
    have r24 : A11 24 (x - 1) = A5 0 8 := by rw [row 24 (by unfold ar; omega) (by omega) (by omega), e824]
    have r8 := row5 8 (by unfold ar; omega) (by omega) (by omega) (by omega) (by omega)
    have r20 := row5 20 (by unfold ar; omega) (by omega) (by omega) (by omega) (by omega)
    have r21 := row5 21 (by unfold ar; omega) (by omega) (by omega) (by omega) (by omega)
    have k23 : A11 10 (A 0 5) = 23 := by rw [sA.k10]; exact hk
    have ch9 : CH x (A 0 8 + 1) (A 0 2) (A 12 (x - 1) + 1) (fun _ q => q = A5 0 8 ∨ q = A9 0 8) A9 := by
      intro b hb1 hb2
      by_cases hlt : b < A8 0 3
      · obtain ⟨y1, y2, y3, y4⟩ := ch8 b hb1 hlt
        have rb : ∀ r, ar r → A9 r b = A8 r b := fun r q => q1.2.1 r b q hlt
        refine ⟨y1.fx q1.sf rb hlt, by rw [rb 18 (by unfold ar; omega)]; exact y2, by rw [rb 13 (by unfold ar; omega)]; exact y3, ?_⟩
        rcases y4 with ⟨c1, c2, c3⟩ | ⟨c1, c2⟩
        · refine Or.inl ⟨by rw [rb 6 (by unfold ar; omega)]; exact c1, by rw [rb 12 (by unfold ar; omega)]; exact c2, ?_⟩
          rw [rb 7 (by unfold ar; omega), rb 19 (by unfold ar; omega)]
          exact fun z => Or.inl (c3 z)
        · have l := c1.2.1
          refine Or.inr ⟨c1.fx q1.sf rb hlt ⟨q1.2.1 19 _ (by unfold ar; omega) (by omega), q1.2.1 24 _ (by unfold ar; omega) (by omega)⟩, ?_⟩
          rw [rb 6 (by unfold ar; omega)]; exact c2
      · obtain ⟨y1, y2, y3, y4⟩ := q5 b (by omega) hb2
        refine ⟨y1, by omega, by rw [y3, e82], ?_⟩
        rcases y4 with ⟨w1, w2, w3⟩ | ⟨w1, w2⟩
        · exact Or.inl ⟨w1, by rw [w2, hd], fun z => Or.inr (w3 z)⟩
        · exact Or.inr ⟨w1, by omega⟩
    have ch := ch9.fx (e' := fun _ q => q = A5 0 8 ∨ q = A9 0 8) sf9 v03 (fun r b q hb1 _ => vs r b (by omega) (by omega)) (fun _ _ z => z)
    have lo := ch.lo h4 (by rw [r12]) r13 (by rw [r5]; exact Or.inr k23) (fun b v hv => ⟨fun z => by rw [r5, k23] at z; omega, fun _ => by rw [r24, v19]; exact hv⟩)
    refine h A11 ⟨sA.1, fun r b hr hb => by rw [vs r b (by omega) (by omega), q1.2.1 r b hr (by omega), es r b (by unfold ar at hr; omega) (by omega) (by omega), g2 r b hr hb], by omega, sA.2.2.2.1, sA.2.2.2.2.1, fun r hr => by rw [row5 r (by unfold ar; omega) (by omega) (by omega) (by omega) (by omega), g3 r (by omega)], by omega, by omega, by omega, ?_, fun b hb1 hb2 => ?_⟩ n11 (by omega)
    · refine Or.inr (Or.inr (Or.inr ⟨Or.inr (by rw [r5]; exact k23), ?_, ?_, ?_, fun z => ?_, fun z => by rw [r5, k23] at z; omega, fun _ => ⟨fun z => ?_, by omega, Or.inr ⟨by omega, by omega, fun z => ?_, fun z => ?_⟩⟩⟩))
      · rw [r5, r21]
        exact cOK_cg (T := A5 0 5) (fun i => (s58.tr (q1.sf.tr sf9)).k10 i) (by rw [v04, q1.1.1 0 4 (by unfold fxr; omega), e84]) (s58.tr (q1.sf.tr sf9)).2.2.2.1 (by omega) g6
      · rw [r5, r21]; omega
      · rw [r20, r21]; omega
      · rw [r8] at z ⊢
        rw [r18]
        exact (g9 z).fx (s58.tr (q1.sf.tr sf9)) (by omega)
      · rw [r8] at z
        have := g10 z; omega
      · rw [v9] at z ⊢
        split at z
        · next y =>
          rw [if_pos y]
          refine ⟨by omega, by omega, ?_, ?_⟩
          · rw [show A8 0 3 + 1 - 1 = A8 0 3 by omega, vs 18 _ (by omega) (by omega), q4 y, r22, e88]
          · rw [show A8 0 3 + 1 - 1 = A8 0 3 by omega, vs 13 _ (by omega) (by omega), (q5 _ (Nat.le_refl _) y).2.2.1, r13, e82]
        · exact absurd rfl z
      · rw [v9] at z
        split at z
        · omega
        · have := q3 (by omega); omega
    · obtain ⟨y1, y2, y3, y4, y5⟩ := lo b hb1 hb2
      exact ⟨y1, by omega, y3, y4, y5⟩
  · intro _ _
    show F (gPe x (gEx x A6))
    obtain ⟨A7, e7⟩ : ∃ A7, A7 = gPe x (gEx x A6) := ⟨_, rfl⟩
    rw [← e7]
    have t22 : A7 22 (x - 1) = A6 0 8 := by rw [e7]; unfold gPe gEx gSet; rw [u2_a, if_neg (by omega), u2_a, if_pos ⟨rfl, rfl⟩]
    have t19 : A7 19 (x - 1) = A6 0 8 := by rw [e7]; unfold gPe gEx gSet; rw [u2_a, if_pos ⟨rfl, rfl⟩, u2_a, if_neg (by omega)]
    have ts : ∀ r j, (r ≠ 22 ∨ j ≠ x - 1) → (r ≠ 19 ∨ j ≠ x - 1) → A7 r j = A6 r j := fun r j q z => by
      rw [e7]; unfold gPe gEx gSet; rw [u2_a, if_neg (by omega), u2_a, if_neg (by omega)]
    have sf7 : Sf A6 A7 := by rw [e7]; exact (Sf.u (r := 22) (by omega)).tr (Sf.u (r := 19) (by omega))
    have n7 : NF A7 := by rw [e7]; exact (n6.g (by omega)).g (by omega)
    clear e7
    have s57 := sf.tr sf7
    have sA := g1.tr s57
    have es : ∀ r j, (r ≠ 24 ∨ j ≠ x - 1) → (r ≠ 22 ∨ j ≠ x - 1) → (r ≠ 19 ∨ j ≠ x - 1) → A7 r j = A5 r j := fun r j q z y => by rw [ts r j z y, ss r j q]
    have v03 := es 0 3 (by omega) (by omega) (by omega)
    have v04 := es 0 4 (by omega) (by omega) (by omega)
    have v05 := es 0 5 (by omega) (by omega) (by omega)
    have v08 := es 0 8 (by omega) (by omega) (by omega)
    have v09 := es 0 9 (by omega) (by omega) (by omega)
    have r68 := ss 0 8 (by omega)
    have r5 : A7 5 (x - 1) = A 0 5 := by rw [es 5 _ (by omega) (by omega) (by omega), g3 5 (by omega)]; exact h6
    have r18 : A7 18 (x - 1) = A 0 8 := by rw [es 18 _ (by omega) (by omega) (by omega), g3 18 (by omega)]; exact h7
    have r13 : A7 13 (x - 1) = A 0 2 := by rw [es 13 _ (by omega) (by omega) (by omega), g3 13 (by omega)]; exact h8
    have r12 : A7 12 (x - 1) = A 12 (x - 1) := by rw [es 12 _ (by omega) (by omega) (by omega), g3 12 (by omega)]
    have r24 : A7 24 (x - 1) = A5 0 8 := by rw [ts 24 _ (by omega) (by omega), s24]
    have k23 : A7 10 (A 0 5) = 23 := by rw [sA.k10]; exact hk
    have ch := g11.fx (e' := fun _ q => q = A5 0 8) s57 v03 (fun r b q hb1 _ => es r b (by omega) (by omega) (by omega)) (fun _ _ z => z)
    have lo := ch.lo h4 (by rw [r12]) r13 (by rw [r5]; exact Or.inr k23) (fun b v hv => ⟨fun z => by rw [r5, k23] at z; omega, fun _ => Or.inl (by rw [r24]; exact hv)⟩)
    refine h A7 ⟨sA.1, fun r b hr hb => by rw [es r b (by omega) (by omega) (by omega), g2 r b hr hb], by omega, sA.2.2.2.1, sA.2.2.2.2.1, fun r hr => by rw [es r _ (by omega) (by omega) (by omega), g3 r (by omega)], by omega, by omega, by omega, ?_, fun b hb1 hb2 => ?_⟩ n7 (by omega)
    · refine Or.inr (Or.inr (Or.inr ⟨Or.inr (by rw [r5]; exact k23), ?_, ?_, ?_, fun z => ?_, fun z => by rw [r5, k23] at z; omega, fun _ => ⟨fun z => ?_, by omega, Or.inl ⟨by omega, by omega, ?_⟩⟩⟩))
      · rw [r5, es 21 _ (by omega) (by omega) (by omega)]
        exact cOK_cg (T := A5 0 5) s57.k10 v04 s57.2.2.2.1 (by omega) g6
      · rw [r5, es 21 _ (by omega) (by omega) (by omega)]; omega
      · rw [es 20 _ (by omega) (by omega) (by omega), es 21 _ (by omega) (by omega) (by omega)]; omega
      · rw [es 8 _ (by omega) (by omega) (by omega)] at z ⊢
        rw [r18]
        exact (g9 z).fx s57 (by omega)
      · rw [es 8 _ (by omega) (by omega) (by omega)] at z
        have := g10 z; omega
      · rw [es 9 _ (by omega) (by omega) (by omega), g3 9 (by omega)]; exact h10
    · obtain ⟨y1, y2, y3, y4, y5⟩ := lo b hb1 hb2
      exact ⟨y1, by omega, y3, y4, y5⟩
theorem p_act {blk : Nat → Bk → Bool × Bk} {x dp : Nat} (hb : ∀ o, Fx (blk o)) (hP : BP blk dp) (hA : AH x A) (hd : dp = A 12 (x - 1) + 1) (h : ∀ A', AQ x A A' → NF A' → A' 0 5 < A' 0 4 → F A') : PW (mAct blk x A) F := by
  have hA2 := hA
  obtain ⟨h1, h2, h3, h4, h5, h6, h7, h8, h9, h10⟩ := hA2
  unfold mAct
  split
  · next k16 =>
    unfold mSend
    have fi : Fx (fun A : Bk => bd (if A 10 (A 0 5) = 17 then bd (mTk 17 A) mWho else (true, A)) (mEnd x)) := fun A2 => by
      refine bd_fx ?_ fx_end
      split
      · exact bd_fx (fx_tk A2) fx_who
      · exact FxR.rf
    refine PW.b (fun A1 => bd_fx (fx_who A1) fi) (p_tk2 (by omega) h1 h2 h3 (fun A1 _ _ f1 n1 e1 l1 => ?_))
    refine PW.b fi (p_who n1 (fun A2 f2 n2 e2 hh => ?_))
    have L1 := h3.fx f1.1
    have k1 := f1.1.1 10 (A1 0 5) (by unfold fxr; omega)
    have hk := hOK_k hh
    rw [f2.1.1 10 _ (by unfold fxr; omega)] at hk
    have l2 : A2 0 5 < A2 0 4 := by rw [e2, f2.1.1 0 4 (by unfold fxr; omega)]; exact L1 _ l1 hk
    have f12 := f1.tr f2
    split
    · next k17 =>
      refine PW.b fx_end ?_
      refine PW.b fx_who (p_tk2 (by omega) n2 l2 (L1.fx f2.1) (fun A3 _ _ f3 n3 e3 l3 => ?_))
      refine p_who n3 (fun A4 f4 n4 e4 hh4 => ?_)
      have hk4 := hOK_k hh4
      rw [f4.1.1 10 _ (by unfold fxr; omega)] at hk4
      have l4 : A4 0 5 < A4 0 4 := by rw [e4, f4.1.1 0 4 (by unfold fxr; omega)]; exact ((L1.fx f2.1).fx f3.1) _ l3 hk4
      have f34 := f3.tr f4
      refine p_end hA (f12.tr f34) n4 l4 (by omega) (fun A' a10 a11 a0 a5 r5 r13 r19 => ?_) h
      refine Or.inl ⟨?_, ?_, fun _ => ⟨?_, by omega⟩, r19⟩
      · rw [r5, a10, (f12.tr f34).1.1 10 _ (by unfold fxr; omega)]; exact k16
      · rw [r5]
        refine hOK_cg (A := A2) (fun i => by rw [a10, f34.1.1 10 i (by unfold fxr; omega)]) (by rw [a0, f34.1.1 0 0 (by unfold fxr; omega)]) (by rw [a11, f34.2.2.2.2.1 _ (by omega)]) ?_
        rw [← e1]; exact hh
      · rw [r5]
        refine hOK_cg (A := A4) a10 a0 (a11 _) ?_
        rw [show A 0 5 + 3 = A3 0 5 by omega]; exact hh4
    · next k17 =>
      refine PW.b fx_end ?_
      intro _ _
      show PW (mEnd x A2) F
      refine p_end hA f12 n2 l2 (by omega) (fun A' a10 a11 a0 a5 r5 r13 r19 => ?_) h
      refine Or.inl ⟨?_, ?_, fun z => ?_, r19⟩
      · rw [r5, a10, f12.1.1 10 _ (by unfold fxr; omega)]; exact k16
      · rw [r5]
        refine hOK_cg (A := A2) a10 a0 (a11 _) ?_
        rw [← e1]; exact hh
      · rw [r5, a10] at z
        exact absurd (by rw [e2, e1]; exact z) k17
  split
  · next hk =>
    unfold mSim
    refine PW.b (fun A1 => bd_fx (fx_val A1) fx_end) (p_tk2 (by omega) h1 h2 h3 (fun A1 _ _ f1 n1 e1 l1 => ?_))
    refine PW.b fx_end (p_valL n1 l1 (h3.fx f1.1) (fun A2 f2 n2 e2 l2 v => ?_))
    have f12 := f1.tr f2
    refine p_end hA f12 n2 l2 (by omega) (fun A' a10 a11 a0 a5 r5 r13 r19 => ?_) h
    refine Or.inr (Or.inl ⟨?_, ?_, r19⟩)
    · rw [r5, a10, f12.1.1 10 _ (by unfold fxr; omega)]; exact hk
    · rw [r5]
      refine vOK_cg (A := A2) a10 (a11 _) ?_
      rw [← e1]; exact v
  split
  · next hk =>
    unfold mDo
    refine PW.b (fun A1 => bd_fx (fx_pna A1) fx_end) (p_tk2 (by omega) h1 h2 h3 (fun A1 _ _ f1 n1 e1 l1 => ?_))
    refine PW.b fx_end (PW.fx (fun h0 => ?_))
    intro ht _
    have hk2 : A1 10 (A1 0 5) = 2 := by
      unfold mPna mTk at ht
      split at ht
      · next q =>
        unfold mRes at q
        rw [u2_a, if_neg (by omega), u2_a, if_neg (by omega)] at q
        rw [mMk3_s (by omega), mMk3_s (by omega)] at q
        exact q
      · cases ht
    refine p_pna (F := fun A2 => PW (mEnd x A2) F) n1 (fun A2 f2 n2 e2 b1 b2 => ?_) ht h0
    have f12 := f1.tr f2
    have l2 : A2 0 5 < A2 0 4 := by rw [e2, f2.1.1 0 4 (by unfold fxr; omega)]; exact (h3.fx f1.1) _ l1 (by omega)
    refine p_end hA f12 n2 l2 (by omega) (fun A' a10 a11 a0 a5 r5 r13 r19 => ?_) h
    refine Or.inr (Or.inr (Or.inl ⟨?_, ?_, ?_, r19⟩))
    · rw [r5, a10, f12.1.1 10 _ (by unfold fxr; omega)]; exact hk
    · rw [r5, a11, ← e1]; exact b1
    · rw [r5, a11, r13, ← e1, ← f1.1.1 0 2 (by unfold fxr; omega)]; exact b2
  split
  · next hk => exact p_while hb hP hA hd hk h
  split
  · next hk => exact p_if hb hP hA hd hk h
  · intro q; cases q
/-- in a block's loop -/
def LIn (As : Bk) (o dp last : Nat) (A : Bk) : Prop := FxA As A ∧ (last = 0 → A 0 3 = As 0 3 ∧ A 0 8 = As 0 8) ∧ (last ≠ 0 → As 0 3 ≤ last - 1 ∧ last - 1 < A 0 3 ∧ A 18 (As 0 3) = As 0 8 ∧ A 6 (last - 1) = o ∧ A 7 (last - 1) = 0 ∧ A 19 (last - 1) = A 0 8) ∧ ∀ b, As 0 3 ≤ b → b < A 0 3 → LC A b ∧ As 0 8 ≤ A 18 b ∧ A 13 b = As 0 2 ∧ ((A 6 b = o ∧ A 12 b = dp ∧ (A 7 b = 0 → b + 1 = last ∧ A 19 b = A 0 8)) ∨ (LO A b ∧ As 0 3 + 1 ≤ A 6 b))
theorem addA_s {o r k : Nat} (h : A 0 3 < 60) (hr : (r ≠ 0 ∨ k ≠ 3) ∧ (k ≠ A 0 3 ∨ ¬ ((5 ≤ r ∧ r ≤ 9) ∨ r = 12 ∨ r = 13 ∨ r = 18))) : mAddA o A r k = A r k := by
  unfold mAddA
  rw [if_pos h]
  repeat rw [u2_a, if_neg (by omega)]
theorem addA_v {o : Nat} (h : A 0 3 < 60) : mAddA o A 5 (A 0 3) = A 0 5 ∧ mAddA o A 6 (A 0 3) = o ∧ mAddA o A 7 (A 0 3) = 0 ∧ mAddA o A 8 (A 0 3) = 0 ∧ mAddA o A 9 (A 0 3) = 0 ∧ mAddA o A 12 (A 0 3) = (if o = 0 then 0 else A 12 (o - 1) + 1) ∧ mAddA o A 13 (A 0 3) = A 0 2 ∧ mAddA o A 18 (A 0 3) = A 0 8 ∧ mAddA o A 0 3 = A 0 3 + 1 := by
  unfold mAddA
  rw [if_pos h]
  refine ⟨?_, ?_, ?_, ?_, ?_, ?_, ?_, ?_, ?_⟩ <;> simp [u2_a]
theorem LIn.step {As A3 : Bk} {o dp last x : Nat} (hL : LIn As o dp last A) (hd2 : dp ≤ 2) (ho : o ≤ As 0 3) (hdo : (if o = 0 then 0 else A 12 (o - 1) + 1) = dp) (h60 : A 0 3 < 60) (hx : x = A 0 3 + 1) (hA : AQ x (mLink last x (mAddA o A)) A3) : LIn As o dp x A3 := by
  obtain ⟨v5, v6, v7, v8, v9, v12, v13, v18, v03⟩ := addA_v (o := o) h60
  obtain ⟨l1, l2, l3, l4⟩ := hL
  obtain ⟨q1, q2, q3, q4, q5, q6, q7, q8, q9, q10, q11⟩ := hA
  have ls : ∀ r k, (r ≠ 7 ∨ k ≠ last - 1 ∨ last = 0) → mLink last x (mAddA o A) r k = mAddA o A r k := fun r k z => by
    unfold mLink
    split
    · rfl
    · rw [u2_a, if_neg (by omega)]
  have lv : last ≠ 0 → mLink last x (mAddA o A) 7 (last - 1) = x := fun z => by
    unfold mLink
    rw [if_neg z, u2_a, if_pos ⟨rfl, rfl⟩]
  generalize mLink last x (mAddA o A) = A2 at *
  have hx1 : x - 1 = A 0 3 := by omega
  have l13 := l1.2.2.1
  have l18 := l1.2.2.2.1
  have w03 : A2 0 3 = x := by rw [ls 0 3 (by omega), v03, hx]
  have s03 : ∀ k, k ≠ 3 → A2 0 k = A 0 k := fun k hk => by rw [ls 0 k (by omega), addA_s h60 (by omega)]
  have rowA : ∀ r b, ar r → b < A 0 3 → (r ≠ 7 ∨ b ≠ last - 1 ∨ last = 0) → A3 r b = A r b := fun r b hr hb z => by
    rw [q2 r b hr (by omega), ls r b z, addA_s h60 (by unfold ar at hr; omega)]
  have z5 : A3 5 (x - 1) = A 0 5 := by rw [q6 5 (by omega), ls 5 _ (by omega), hx1, v5]
  have z6 : A3 6 (x - 1) = o := by rw [q6 6 (by omega), ls 6 _ (by omega), hx1, v6]
  have z7 : A3 7 (x - 1) = 0 := by
    by_cases z : last = 0
    · rw [q6 7 (by omega), ls 7 _ (by omega), hx1, v7]
    · have := l3 z
      rw [q6 7 (by omega), ls 7 _ (by omega), hx1, v7]
  have z12 : A3 12 (x - 1) = dp := by rw [q6 12 (by omega), ls 12 _ (by omega), hx1, v12, hdo]
  have z13 : A3 13 (x - 1) = As 0 2 := by rw [q6 13 (by omega), ls 13 _ (by omega), hx1, v13, l1.1.1 0 2 (by unfold fxr; omega)]
  have z18 : A3 18 (x - 1) = A 0 8 := by rw [q6 18 (by omega), ls 18 _ (by omega), hx1, v18]
  have t8 := s03 8 (by omega)
  have t5 := s03 5 (by omega)
  have t9 := s03 9 (by omega)
  have fr : FxR A A3 := by
    refine FxR.tr ⟨fun r k hr => ?_, by omega, by rw [s03 1 (by omega)]; exact Nat.le_refl _, fun _ => ⟨s03 6 (by omega), s03 7 (by omega)⟩⟩ q1
    rw [ls r k (by unfold fxr at hr; omega), addA_s h60 (by unfold fxr at hr; omega)]
  have sf : Sf A A3 := ⟨fr, by omega, by omega, fun i hi => by rw [q4 i (by omega), ls 11 i (by omega), addA_s h60 (by omega)], by omega, fun c hc => ⟨rowA 18 c (by unfold ar; omega) hc (by omega), rowA 13 c (by unfold ar; omega) hc (by omega), rowA 12 c (by unfold ar; omega) hc (by omega), rowA 5 c (by unfold ar; omega) hc (by omega)⟩⟩
  refine ⟨⟨l1.1.tr fr, fun r b hr hb => ?_, by omega, by omega, fun i hi => ?_, ?_⟩, fun z => by omega, fun _ => ⟨by omega, by omega, ?_, z6, z7, q7⟩, fun b hb1 hb2 => ?_⟩
  · rw [rowA r b hr (by omega) (by
      by_cases z : last = 0
      · omega
      · have := l3 z; omega), l1.2.1 r b hr hb]
  · rw [sf.2.2.2.1 i (by have := l1.1.2.1; omega), l1.2.2.2.2.1 i hi]
  · have := l1.2.2.2.2.2; omega
  · by_cases z : last = 0
    · have := l2 z
      rw [show As 0 3 = x - 1 by omega, z18]; omega
    · have := l3 z
      rw [rowA 18 _ (by unfold ar; omega) (by omega) (by omega)]
      exact this.2.2.1
  · by_cases hb3 : b < A 0 3
    · obtain ⟨y1, y2, y3, y4⟩ := l4 b hb1 hb3
      have r18 := rowA 18 b (by unfold ar; omega) hb3 (by omega)
      have r13 := rowA 13 b (by unfold ar; omega) hb3 (by omega)
      have r6 := rowA 6 b (by unfold ar; omega) hb3 (by omega)
      have r12 := rowA 12 b (by unfold ar; omega) hb3 (by omega)
      have r19 := rowA 19 b (by unfold ar; omega) hb3 (by omega)
      by_cases hl : last ≠ 0 ∧ b = last - 1
      · obtain ⟨m1, m2, m3, m4, m5, m6⟩ := l3 hl.1
        have hb4 := hl.2
        rw [← hb4] at m4 m5 m6
        have b7 : A3 7 b = x := by rw [q2 7 b (by unfold ar; omega) (by omega), hb4, lv hl.1]
        have y12 : A 12 b = dp := by
          rcases y4 with ⟨_, c2, _⟩ | ⟨c1, c2⟩
          · exact c2
          · omega
        obtain ⟨n1, n2, n3, n4, n5, n6⟩ := y1
        refine ⟨⟨?_, by omega, by omega, by omega, fun _ => ?_, ?_⟩, by omega, by omega, Or.inl ⟨by omega, by omega, fun z => by omega⟩⟩
        · rw [rowA 5 b (by unfold ar; omega) hb3 (by omega)]; have := sf.1.2.1; omega
        · rw [b7]
          exact ⟨by omega, by omega, by omega, by omega⟩
        · exact n6.fx sf (fun r hr h7 => rowA r b hr hb3 (Or.inl h7)) hb3 n1
      · have rb : ∀ r, ar r → A3 r b = A r b := fun r hr => rowA r b hr hb3 (by omega)
        refine ⟨y1.fx sf rb hb3, by omega, by omega, ?_⟩
        rcases y4 with ⟨c1, c2, c3⟩ | ⟨c1, c2⟩
        · refine Or.inl ⟨by omega, by omega, fun z => ?_⟩
          rw [rb 7 (by unfold ar; omega)] at z
          have := c3 z
          exact absurd ⟨by omega, by omega⟩ hl
        · have l := c1.2.1
          exact Or.inr ⟨c1.fx sf rb hb3 ⟨rowA 19 _ (by unfold ar; omega) (by omega) (by omega), rowA 24 _ (by unfold ar; omega) (by omega) (by omega)⟩, by omega⟩
    · by_cases hb4 : b = x - 1
      · rw [hb4]
        exact ⟨⟨by omega, by omega, by omega, by omega, fun z => absurd z7 z, q10⟩, by omega, z13, Or.inl ⟨z6, z12, fun _ => ⟨by omega, q7⟩⟩⟩
      · obtain ⟨y1, y2, y3, y4, y5⟩ := q11 b (by omega) hb2
        exact ⟨y1, by omega, by rw [y3, s03 2 (by omega), l1.1.1 0 2 (by unfold fxr; omega)], Or.inr ⟨y4, by omega⟩⟩
theorem p_loop {act : Nat → Bk → Bool × Bk} {As : Bk} {o dp : Nat} (hf : ∀ x, Fx (act x)) (ha : ∀ {x : Nat} {A : Bk} {F : Bk → Prop}, AH x A → dp = A 12 (x - 1) → (∀ A', AQ x A A' → NF A' → A' 0 5 < A' 0 4 → F A') → PW (act x A) F) (hd2 : dp ≤ 2) (ho : o ≤ As 0 3) (hdo : (if o = 0 then 0 else As 12 (o - 1) + 1) = dp) {F : Bk → Prop} (h : ∀ last A A', LIn As o dp last A → A' = u2 A 0 5 (A 0 5 + 1) → NF A' → A' 0 5 < A' 0 4 → F A') : ∀ (f last : Nat) (A : Bk), LIn As o dp last A → NF A → A 0 5 < A 0 4 → TkL A → PW (mLoop act o f last A) F := by
  intro f
  induction f with
  | zero =>
    intro last A hL hn hl hT
    unfold mLoop
    exact p_tk2 (by omega) hn hl hT (fun A' e _ _ n3 _ l3 => h last A A' hL e n3 l3)
  | succ f ih =>
    intro last A hL hn hl hT
    unfold mLoop
    split
    · exact p_tk2 (by omega) hn hl hT (fun A' e _ _ n3 _ l3 => h last A A' hL e n3 l3)
    · refine PW.b (fx_loop hf) (PW.fx (fun h0 => ?_))
      have e1 := (hf _ (mLink last (mAddX A) (mAddA o A))).e0 h0
      have e2 := (fx_link (last := last) (x := mAddX A) (A := mAddA o A)).e0 e1
      have h60 : A 0 3 < 60 := by
        apply Nat.lt_of_not_le
        intro z
        unfold mAddA at e2
        rw [if_neg (by omega)] at e2
        exact mMk_0 (by decide) e2
      have hx : mAddX A = A 0 3 + 1 := by unfold mAddX; rw [if_pos h60]
      rw [hx] at h0 ⊢
      obtain ⟨v5, v6, v7, v8, v9, v12, v13, v18, v03⟩ := addA_v (o := o) h60
      have hdo' : (if o = 0 then 0 else A 12 (o - 1) + 1) = dp := by
        by_cases z : o = 0
        · rw [if_pos z] at hdo ⊢; exact hdo
        · rw [if_neg z] at hdo ⊢
          rw [hL.1.2.1 12 _ (by unfold ar; omega) (by omega)]; exact hdo
      have ls : ∀ r k, r ≠ 7 → mLink last (A 0 3 + 1) (mAddA o A) r k = mAddA o A r k := fun r k z => link_s z
      have a1 : ∀ k, k ≠ 3 → mLink last (A 0 3 + 1) (mAddA o A) 0 k = A 0 k := fun k hk => by rw [ls 0 k (by omega), addA_s h60 (by omega)]
      have n2 : NF (mLink last (A 0 3 + 1) (mAddA o A)) := hn.addA.link
      have T2 : TkL (mLink last (A 0 3 + 1) (mAddA o A)) := hT.fx (fx_addA.tr fx_link)
      refine ha ⟨n2, by rw [a1 5 (by omega), a1 4 (by omega)]; exact hl, T2, by omega, by rw [ls 0 3 (by omega), v03], ?_, ?_, ?_, ?_, ?_⟩ ?_ (fun A3 hA n3 l3 => ?_)
      · rw [a1 5 (by omega), ls 5 _ (by omega)]; exact v5
      · rw [a1 8 (by omega), ls 18 _ (by omega)]; exact v18
      · rw [a1 2 (by omega), ls 13 _ (by omega)]; exact v13
      · rw [ls 8 _ (by omega)]; exact v8
      · rw [ls 9 _ (by omega)]; exact v9
      · rw [ls 12 _ (by omega)]; exact hdo'.symm.trans v12.symm
      · exact ih _ A3 (hL.step hd2 ho hdo' h60 rfl hA) n3 l3 (T2.fx hA.1)
theorem p_blk {dp k : Nat} (hk : dp + k = 3) : BP (mBlk k) dp := by
  induction k generalizing dp with
  | zero => intro o A F _ _ _ _ _ _ q; cases q
  | succ k ih =>
    intro o A F hn hl hT h0 h1 h
    unfold mBlk
    have ihk : BP (mBlk k) (dp + 1) := @ih (dp + 1) (by omega)
    refine PW.b (fx_loop (fun x => fx_act (fun o => fx_blk))) (p_tk2 (by omega) hn hl hT (fun A1 e1 _ f1 n1 e5 l1 => ?_))
    have es : ∀ r k, (r ≠ 0 ∨ k ≠ 5) → A1 r k = A r k := fun r k q => by rw [e1, u2_a, if_neg (by omega)]
    clear e1
    have s03 := es 0 3 (by omega)
    have s08 := es 0 8 (by omega)
    refine p_loop (act := mAct (mBlk k)) (As := A1) (o := o) (dp := dp) (fun x => fx_act (fun o => fx_blk)) (fun hA hd hh => p_act (dp := dp + 1) (fun o => fx_blk) ihk hA (by omega) hh) (by omega) ?_ ?_ ?_ 400 0 A1 ?_ n1 l1 (hT.fx f1.1)
    · by_cases z : o = 0
      · omega
      · have := h1 z; omega
    · by_cases z : o = 0
      · rw [if_pos z]; exact (h0 z).symm
      · rw [if_neg z, es 12 _ (by omega)]; exact (h1 z).2.symm
    · intro last A2 A' hL e n' l'
      obtain ⟨l1', l2, l3, l4⟩ := hL
      have us : ∀ r k, (r ≠ 0 ∨ k ≠ 5) → A' r k = A2 r k := fun r k q => by rw [e, u2_a, if_neg (by omega)]
      have u5 : A' 0 5 = A2 0 5 + 1 := by rw [e, u2_a, if_pos ⟨rfl, rfl⟩]
      have sfe : Sf A2 A' := by rw [e]; exact Sf.u (by omega)
      clear e
      have u3 := us 0 3 (by omega)
      have u8 := us 0 8 (by omega)
      have m5 := l1'.1.2.1
      have fa : FxA A A' := (f1.a.tr l1').tr ⟨sfe.1, fun r b hr _ => us r b (by unfold ar at hr; omega), by omega, by omega, sfe.2.2.2.1, by rw [us 0 9 (by omega)]; exact Nat.le_refl _⟩
      refine h A' ⟨fa, by omega, fun z => ?_, fun z => ?_, fun b hb1 hb2 => ?_⟩ n' l'
      · by_cases y : last = 0
        · have := l2 y; omega
        · have := l3 y; omega
      · by_cases y : last = 0
        · have := l2 y; omega
        · have := (l3 y).2.2.1
          rw [us 18 _ (by omega), ← s03, this, s08]
      · obtain ⟨y1, y2, y3, y4⟩ := l4 b (by omega) (by omega)
        have rb : ∀ r, ar r → A' r b = A2 r b := fun r hr => us r b (by unfold ar at hr; omega)
        refine ⟨y1.fx sfe rb (by omega), by rw [rb 18 (by unfold ar; omega)]; omega, by rw [rb 13 (by unfold ar; omega), y3, es 0 2 (by omega)], ?_⟩
        rcases y4 with ⟨c1, c2, c3⟩ | ⟨c1, c2⟩
        · refine Or.inl ⟨by rw [rb 6 (by unfold ar; omega)]; exact c1, by rw [rb 12 (by unfold ar; omega)]; exact c2, ?_⟩
          rw [rb 7 (by unfold ar; omega), rb 19 (by unfold ar; omega)]
          exact fun z => by rw [(c3 z).2, u8]
        · exact Or.inr ⟨c1.fx sfe rb (by omega) ⟨us 19 _ (by omega), us 24 _ (by omega)⟩, by rw [rb 6 (by unfold ar; omega)]; omega⟩
    · exact ⟨⟨FxR.rf, fun _ _ _ _ => rfl, Nat.le_refl _, Nat.le_refl _, fun _ _ => rfl, Nat.le_refl _⟩, fun _ => ⟨rfl, rfl⟩, fun z => absurd rfl z, fun b hb1 hb2 => by omega⟩
end TRE

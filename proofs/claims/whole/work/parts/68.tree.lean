/-! a right book's acts and blocks -/
theorem vOK_cg {A A' : Bk} {u : Nat} (h : ∀ i, A' 10 i = A 10 i) (hu : A' 11 u = A 11 u) (hv : vOK A u) : vOK A' u := by
  unfold vOK at hv ⊢
  rw [h, hu]
  exact hv
theorem hOK_cg {A A' : Bk} {u : Nat} (h : ∀ i, A' 10 i = A 10 i) (h0 : A' 0 0 = A 0 0) (hu : A' 11 u = A 11 u) (hv : hOK A u) : hOK A' u := by
  unfold hOK at hv ⊢
  rw [h, hu, h0]
  exact hv
theorem cOK_cg {T : Nat} {A A' : Bk} (h10 : ∀ i, A' 10 i = A 10 i) (h4 : A' 0 4 = A 0 4) (h11 : ∀ i, i < T → A' 11 i = A 11 i) : ∀ {c u : Nat}, u + 4 * c + 3 ≤ T → cOK A c u → cOK A' c u := by
  intro c
  induction c with
  | zero =>
    intro u hu hc
    unfold cOK at hc ⊢
    obtain ⟨a, b, c, d, e, g⟩ := hc
    rw [h10, h10, h4]
    exact ⟨vOK_cg h10 (h11 _ (by omega)) a, b, c, vOK_cg h10 (h11 _ (by omega)) d, e, g⟩
  | succ c ih =>
    intro u hu hc
    unfold cOK at hc ⊢
    obtain ⟨a, b, c1, d, e, g, i⟩ := hc
    rw [h10, h10, h4]
    exact ⟨vOK_cg h10 (h11 _ (by omega)) a, b, c1, vOK_cg h10 (h11 _ (by omega)) d, e, g, ih (by omega) i⟩
/-- the place y (+1) lies behind a, begins with the order q, and is of the same plan -/
def at_ (A : Bk) (a y q : Nat) : Prop := a < y - 1 ∧ y - 1 < A 0 3 ∧ A 18 (y - 1) = q ∧ A 13 (y - 1) = A 13 a
/-- an act's kind and what it needs, and its orders -/
def kK (A : Bk) (a : Nat) : Prop :=
  (A 10 (A 5 a) = 16 ∧ hOK A (A 5 a + 1) ∧ (A 10 (A 5 a + 2) = 17 → hOK A (A 5 a + 3) ∧ A 5 a + 4 ≤ A 0 5) ∧ A 19 a = A 18 a + 1) ∨
  ((A 10 (A 5 a) = 18 ∨ A 10 (A 5 a) = 19 ∨ A 10 (A 5 a) = 20) ∧ vOK A (A 5 a + 1) ∧ A 19 a = A 18 a + 1) ∨
  (A 10 (A 5 a) = 21 ∧ 1 ≤ A 11 (A 5 a + 1) ∧ A 11 (A 5 a + 1) ≤ A 13 a ∧ A 19 a = A 18 a + 1) ∨
  ((A 10 (A 5 a) = 22 ∨ A 10 (A 5 a) = 23) ∧ cOK A (A 21 a) (A 5 a + 1) ∧ A 5 a + 4 * A 21 a + 4 ≤ A 0 5 ∧ A 20 a + A 21 a + 1 ≤ A 0 9 ∧ (A 8 a ≠ 0 → at_ A a (A 8 a) (A 18 a + 1)) ∧
    (A 10 (A 5 a) = 22 → (A 8 a = 0 → A 19 a = A 18 a + 2) ∧ A 18 a + 2 ≤ A 19 a ∧ A 9 a = 0) ∧
    (A 10 (A 5 a) = 23 → (A 8 a = 0 → A 24 a = A 18 a + 1) ∧ A 18 a + 1 ≤ A 24 a ∧ ((A 22 a = A 24 a ∧ A 19 a = A 24 a ∧ A 9 a = 0) ∨ (A 22 a = A 24 a + 1 ∧ A 22 a ≤ A 19 a ∧ (A 9 a ≠ 0 → at_ A a (A 9 a) (A 22 a)) ∧ (A 9 a = 0 → A 19 a = A 22 a)))))
def LC (A : Bk) (b : Nat) : Prop := A 5 b + 3 ≤ A 0 5 ∧ A 12 b ≤ 2 ∧ A 18 b < A 19 b ∧ A 19 b ≤ A 0 8 ∧ (A 7 b ≠ 0 → at_ A b (A 7 b) (A 19 b)) ∧ kK A b
def bQ (A : Bk) (b w : Nat) : Prop := (A 10 (A 5 w) = 22 ∨ A 10 (A 5 w) = 23) ∧ (A 10 (A 5 w) = 22 → A 19 b + 1 = A 19 w) ∧ (A 10 (A 5 w) = 23 → A 19 b = A 24 w ∨ A 19 b = A 19 w)
def LO (A : Bk) (b : Nat) : Prop := A 6 b ≠ 0 ∧ A 6 b - 1 < b ∧ A 12 b = A 12 (A 6 b - 1) + 1 ∧ A 13 (A 6 b - 1) = A 13 b ∧ (A 7 b = 0 → bQ A b (A 6 b - 1))
/-- what stays for acts read: all below n -/
def Sf (n : Nat) (A A' : Bk) : Prop := FxR A A' ∧ (∀ r b, ar r → b < n → A' r b = A r b) ∧ A 0 3 ≤ A' 0 3 ∧ A 0 8 ≤ A' 0 8 ∧ (∀ i, i < A 0 5 → A' 11 i = A 11 i) ∧ A 0 9 ≤ A' 0 9 ∧ ∀ c, c < A 0 3 → A' 18 c = A 18 c ∧ A' 13 c = A 13 c ∧ A' 12 c = A 12 c ∧ A' 5 c = A 5 c
section TRE
variable {n b : Nat} {A A' : Bk} {F : Bk → Prop}
theorem Sf.k10 (h : Sf n A A') (i : Nat) : A' 10 i = A 10 i := h.1.1 10 i (by unfold fxr; omega)
theorem at_.fx {a y q : Nat} (h : Sf n A A') (ha : a < A 0 3) (hy : at_ A a y q) : at_ A' a y q := by
  obtain ⟨h1, h2, h3, h4⟩ := hy
  have s := h.2.2.2.2.2.2 _ h2
  have s2 := h.2.2.2.2.2.2 _ ha
  exact ⟨h1, Nat.lt_of_lt_of_le h2 h.2.2.1, s.1.trans h3, by rw [s.2.1, s2.2.1]; exact h4⟩
theorem kK.fx (h : Sf n A A') (hb : b < n) (hb2 : b < A 0 3) (h5 : A 5 b + 3 ≤ A 0 5) (hk : kK A b) : kK A' b := by
  have k10 := h.k10
  have rw_ : ∀ r, ar r → A' r b = A r b := fun r hr => h.2.1 r b hr hb
  have r5 := rw_ 5 (by unfold ar; omega)
  have r8 := rw_ 8 (by unfold ar; omega)
  have r9 := rw_ 9 (by unfold ar; omega)
  have r13 := rw_ 13 (by unfold ar; omega)
  have r18 := rw_ 18 (by unfold ar; omega)
  have r19 := rw_ 19 (by unfold ar; omega)
  have r20 := rw_ 20 (by unfold ar; omega)
  have r21 := rw_ 21 (by unfold ar; omega)
  have r22 := rw_ 22 (by unfold ar; omega)
  have r24 := rw_ 24 (by unfold ar; omega)
  have m5 := h.1.2.1
  have m9 := h.2.2.2.2.2.1
  have h11 := h.2.2.2.2.1
  have h0 := h.1.1 0 0 (by unfold fxr; omega)
  have h4 := h.1.1 0 4 (by unfold fxr; omega)
  unfold kK at hk ⊢
  rw [r5, r8, r9, r13, r18, r19, r20, r21, r22, r24, k10, k10]
  rcases hk with ⟨a1, a2, a3, a4⟩ | ⟨a1, a2, a3⟩ | ⟨a1, a2, a3, a4⟩ | ⟨a1, a2, a3, a4, a5, a6, a7⟩
  · exact Or.inl ⟨a1, hOK_cg k10 h0 (h11 _ (by omega)) a2, fun q => ⟨hOK_cg k10 h0 (h11 _ (by have := (a3 q).2; omega)) (a3 q).1, by have := (a3 q).2; omega⟩, a4⟩
  · exact Or.inr (Or.inl ⟨a1, vOK_cg k10 (h11 _ (by omega)) a2, a3⟩)
  · refine Or.inr (Or.inr (Or.inl ⟨a1, ?_, ?_, a4⟩))
    · rw [h11 _ (by omega)]; exact a2
    · rw [h11 _ (by omega)]; exact a3
  · refine Or.inr (Or.inr (Or.inr ⟨a1, cOK_cg k10 h4 h11 (by omega) a2, by omega, by omega, fun q => (a5 q).fx h hb2, a6, fun q => ?_⟩))
    obtain ⟨b1, b2, b3⟩ := a7 q
    refine ⟨b1, b2, b3.imp id (fun ⟨c1, c2, c3, c4⟩ => ⟨c1, c2, fun z => (c3 z).fx h hb2, c4⟩)⟩
theorem LC.fx (h : Sf n A A') (hb : b < n) (hb2 : b < A 0 3) (hk : LC A b) : LC A' b := by
  obtain ⟨a1, a2, a3, a4, a5, a6⟩ := hk
  have rw_ : ∀ r, ar r → A' r b = A r b := fun r hr => h.2.1 r b hr hb
  unfold LC
  rw [rw_ 5 (by unfold ar; omega), rw_ 12 (by unfold ar; omega), rw_ 18 (by unfold ar; omega), rw_ 19 (by unfold ar; omega), rw_ 7 (by unfold ar; omega)]
  have := h.1.2.1
  have := h.2.2.2.1
  exact ⟨by omega, a2, a3, by omega, fun q => (a5 q).fx h hb2, a6.fx h hb hb2 a1⟩
theorem LO.fx (h : Sf n A A') (hb : b < n) (hk : LO A b) : LO A' b := by
  obtain ⟨a1, a2, a3, a4, a5⟩ := hk
  have rw_ : ∀ r c, ar r → c < n → A' r c = A r c := h.2.1
  unfold LO bQ
  rw [rw_ 6 b (by unfold ar; omega) hb, rw_ 7 b (by unfold ar; omega) hb, rw_ 12 b (by unfold ar; omega) hb, rw_ 13 b (by unfold ar; omega) hb, rw_ 19 b (by unfold ar; omega) hb, rw_ 12 _ (by unfold ar; omega) (by omega), rw_ 13 _ (by unfold ar; omega) (by omega), rw_ 5 _ (by unfold ar; omega) (by omega), rw_ 19 _ (by unfold ar; omega) (by omega), rw_ 24 _ (by unfold ar; omega) (by omega), h.k10]
  exact ⟨a1, a2, a3, a4, a5⟩
theorem FxA.sf (h : FxA A A') : Sf (A 0 3) A A' := ⟨h.1, h.2.1, h.2.2.1, h.2.2.2.1, h.2.2.2.2.1, h.2.2.2.2.2, fun c hc => ⟨h.2.1 18 c (by unfold ar; omega) hc, h.2.1 13 c (by unfold ar; omega) hc, h.2.1 12 c (by unfold ar; omega) hc, h.2.1 5 c (by unfold ar; omega) hc⟩⟩
/-- what a block leaves -/
def BQ (o dp : Nat) (A A' : Bk) : Prop := FxA A A' ∧ A 0 5 + 2 ≤ A' 0 5 ∧ (A' 0 3 = A 0 3 → A' 0 8 = A 0 8) ∧ (A 0 3 < A' 0 3 → A' 18 (A 0 3) = A 0 8) ∧ ∀ b, A 0 3 ≤ b → b < A' 0 3 → LC A' b ∧ A 0 8 ≤ A' 18 b ∧ A' 13 b = A 0 2 ∧ ((A' 6 b = o ∧ A' 12 b = dp ∧ (A' 7 b = 0 → A' 19 b = A' 0 8)) ∨ (LO A' b ∧ A 0 3 + 1 ≤ A' 6 b))
def BP (blk : Nat → Bk → Bool × Bk) (dp : Nat) : Prop := ∀ {o : Nat} {A : Bk} {F : Bk → Prop}, NF A → A 0 5 < A 0 4 → TkL A → (o = 0 → dp = 0) → (o ≠ 0 → o ≤ A 0 3 ∧ dp = A 12 (o - 1) + 1) → (∀ A', BQ o dp A A' → NF A' → A' 0 5 < A' 0 4 → F A') → PW (blk o A) F
/-- what an act leaves -/
def AQ (x : Nat) (A A' : Bk) : Prop := FxR A A' ∧ (∀ r b, ar r → b < x - 1 → A' r b = A r b) ∧ A 0 3 ≤ A' 0 3 ∧ (∀ i, i < A 0 5 → A' 11 i = A 11 i) ∧ A 0 9 ≤ A' 0 9 ∧ (∀ r, r = 5 ∨ r = 6 ∨ r = 7 ∨ r = 12 ∨ r = 13 ∨ r = 18 → A' r (x - 1) = A r (x - 1)) ∧ A' 19 (x - 1) = A' 0 8 ∧ A 0 8 < A' 0 8 ∧ A 0 5 + 3 ≤ A' 0 5 ∧ kK A' (x - 1) ∧ ∀ b, x ≤ b → b < A' 0 3 → LC A' b ∧ A 0 8 < A' 18 b ∧ A' 13 b = A 0 2 ∧ LO A' b ∧ x ≤ A' 6 b
def AH (x : Nat) (A : Bk) : Prop := NF A ∧ A 0 5 < A 0 4 ∧ TkL A ∧ 1 ≤ x ∧ A 0 3 = x ∧ A 5 (x - 1) = A 0 5 ∧ A 18 (x - 1) = A 0 8 ∧ A 13 (x - 1) = A 0 2 ∧ A 8 (x - 1) = 0 ∧ A 9 (x - 1) = 0
/-- the end of an act with one order -/
theorem p_end {x m : Nat} {A2 : Bk} (hA : AH x A) (f : FxT m A A2) (hn : NF A2) (hl : A2 0 5 < A2 0 4) (h5 : A 0 5 + 2 ≤ A2 0 5) (hk : ∀ A', (∀ i, A' 10 i = A2 10 i) → (∀ i, A' 11 i = A2 11 i) → A' 0 0 = A2 0 0 → A' 0 5 = A2 0 5 + 1 → A' 5 (x - 1) = A 0 5 → A' 13 (x - 1) = A 0 2 → A' 19 (x - 1) = A' 18 (x - 1) + 1 → kK A' (x - 1)) (h : ∀ A', AQ x A A' → NF A' → A' 0 5 < A' 0 4 → F A') : PW (mEnd x A2) F := by
  obtain ⟨h1, h2, h3, h4, h5', h6, h7, h8, h9, h10⟩ := hA
  unfold mEnd gPe gInc gSet
  have hn3 : NF (u2 (u2 A2 0 8 (A2 0 8 + 1)) 19 (x - 1) (u2 A2 0 8 (A2 0 8 + 1) 0 8)) := (hn.g (Or.inl ⟨rfl, by omega, by omega⟩)).g (by omega)
  refine p_tk2 (by omega) hn3 hl ((h3.fx f.1).fx ((FxR.u (by unfold fxr; omega) (by omega)).tr (FxR.u (by unfold fxr; omega) (by omega)))) (fun A' e k f3 n3 e3 l3 => h A' ?_ n3 l3)
  have ev : ∀ r k, (r ≠ 0 ∨ (k ≠ 5 ∧ k ≠ 8)) → (r ≠ 19 ∨ k ≠ x - 1) → A' r k = A2 r k := by
    intro r k q1 q2
    rw [e, u2_a, if_neg (by omega), u2_a, if_neg (by omega), u2_a, if_neg (by omega)]
  have e8 : A' 0 8 = A2 0 8 + 1 := by rw [e, u2_a, if_neg (by omega), u2_a, if_neg (by omega), u2_a, if_pos ⟨rfl, rfl⟩]
  have e19 : A' 19 (x - 1) = A2 0 8 + 1 := by rw [e, u2_a, if_neg (by omega), u2_a, if_pos ⟨rfl, rfl⟩, u2_a, if_pos ⟨rfl, rfl⟩]
  have e5 : A' 0 5 = A2 0 5 + 1 := e3
  have t := f.2.1
  have fr : FxR A2 A' := by
    rw [e]
    exact ((FxR.u (by unfold fxr; omega) (by omega)).tr (FxR.u (by unfold fxr; omega) (by omega))).tr (FxR.u (by unfold fxr; omega) (Or.inr (Or.inl ⟨rfl, by omega⟩)))
  have a03 : A' 0 3 = A 0 3 := by rw [ev 0 3 (by omega) (by omega), f.2.2.1]
  refine ⟨f.1.tr fr, fun r b hr hb => ?_, by omega, fun i hi => ?_, ?_, fun r hr => ?_, by omega, ?_, by omega, ?_, fun b hb1 hb2 => by omega⟩
  · rw [ev r b (by unfold ar at hr; omega) (by omega), t r b hr]
  · rw [ev 11 i (by omega) (by omega)]; exact f.2.2.2.2.1 i hi
  · rw [ev 0 9 (by omega) (by omega), f.2.2.2.2.2]; omega
  · rw [ev r _ (by omega) (by omega), t r _ (by unfold ar; omega)]
  · rw [e8, f.2.2.2.1]; omega
  · refine hk A' (fun i => ev 10 i (by omega) (by omega)) (fun i => ev 11 i (by omega) (by omega)) (ev 0 0 (by omega) (by omega)) e5 ?_ ?_ ?_
    · rw [ev 5 _ (by omega) (by omega), t 5 _ (by unfold ar; omega)]; exact h6
    · rw [ev 13 _ (by omega) (by omega), t 13 _ (by unfold ar; omega)]; exact h8
    · rw [e19, ev 18 _ (by omega) (by omega), t 18 _ (by unfold ar; omega), h7, f.2.2.2.1]
end TRE

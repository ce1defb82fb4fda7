/-! a right book's acts and blocks -/
theorem vOK_cg {A A' : Bk} {u : Nat} (h : ∀ i, A' 10 i = A 10 i) (hu : A' 11 u = A 11 u) (hv : vOK A u) : vOK A' u := by
  unfold vOK at hv ⊢
  rw [h, hu]
  exact hv
theorem hOK_cg {A A' : Bk} {u : Nat} (h : ∀ i, A' 10 i = A 10 i) (h0 : A' 0 0 = A 0 0) (hu : A' 11 u = A 11 u) (hv : hOK A u) : hOK A' u := by
  unfold hOK at hv ⊢
  rw [h, hu, h0]
  exact hv
theorem cOK_cg {T : Nat} {A A' : Bk} (h10 : ∀ i, A' 10 i = A 10 i) (h4 : A' 0 4 = A 0 4) (h11 : ∀ i, i < T → A' 11 i = A 11 i) : ∀ {c u : Nat}, u + 4 * c + 3 ≤ T → cOK A c u → cOK A' c u := by
  intro c
  induction c with
  | zero =>
    intro u hu hc
    unfold cOK at hc ⊢
    obtain ⟨a, b, c, d, e, g⟩ := hc
    rw [h10, h10, h4]
    exact ⟨vOK_cg h10 (h11 _ (by omega)) a, b, c, vOK_cg h10 (h11 _ (by omega)) d, e, g⟩
  | succ c ih =>
    intro u hu hc
    unfold cOK at hc ⊢
    obtain ⟨a, b, c1, d, e, g, i⟩ := hc
    rw [h10, h10, h4]
    exact ⟨vOK_cg h10 (h11 _ (by omega)) a, b, c1, vOK_cg h10 (h11 _ (by omega)) d, e, g, ih (by omega) i⟩
/-- the place y (+1) lies behind a, begins with the order q, and is of the same plan -/
def at_ (A : Bk) (a y q : Nat) : Prop := a < y - 1 ∧ y - 1 < A 0 3 ∧ A 18 (y - 1) = q ∧ A 13 (y - 1) = A 13 a
/-- an act's kind and what it needs, and its orders -/
def kK (A : Bk) (a : Nat) : Prop :=
  (A 10 (A 5 a) = 16 ∧ hOK A (A 5 a + 1) ∧ (A 10 (A 5 a + 2) = 17 → hOK A (A 5 a + 3) ∧ A 5 a + 4 ≤ A 0 5) ∧ A 19 a = A 18 a + 1) ∨
  ((A 10 (A 5 a) = 18 ∨ A 10 (A 5 a) = 19 ∨ A 10 (A 5 a) = 20) ∧ vOK A (A 5 a + 1) ∧ A 19 a = A 18 a + 1) ∨
  (A 10 (A 5 a) = 21 ∧ 1 ≤ A 11 (A 5 a + 1) ∧ A 11 (A 5 a + 1) ≤ A 13 a ∧ A 19 a = A 18 a + 1) ∨
  ((A 10 (A 5 a) = 22 ∨ A 10 (A 5 a) = 23) ∧ cOK A (A 21 a) (A 5 a + 1) ∧ A 5 a + 4 * A 21 a + 4 ≤ A 0 5 ∧ A 20 a + A 21 a + 1 ≤ A 0 9 ∧ (A 8 a ≠ 0 → at_ A a (A 8 a) (A 18 a + 1)) ∧
    (A 10 (A 5 a) = 22 → (A 8 a = 0 → A 19 a = A 18 a + 2) ∧ A 18 a + 2 ≤ A 19 a ∧ A 9 a = 0) ∧
    (A 10 (A 5 a) = 23 → (A 8 a = 0 → A 24 a = A 18 a + 1) ∧ A 18 a + 1 ≤ A 24 a ∧ ((A 22 a = A 24 a ∧ A 19 a = A 24 a ∧ A 9 a = 0) ∨ (A 22 a = A 24 a + 1 ∧ A 22 a ≤ A 19 a ∧ (A 9 a ≠ 0 → at_ A a (A 9 a) (A 22 a)) ∧ (A 9 a = 0 → A 19 a = A 22 a)))))
def LC (A : Bk) (b : Nat) : Prop := A 5 b + 3 ≤ A 0 5 ∧ A 12 b ≤ 2 ∧ A 18 b < A 19 b ∧ A 19 b ≤ A 0 8 ∧ (A 7 b ≠ 0 → at_ A b (A 7 b) (A 19 b)) ∧ kK A b
def bQ (A : Bk) (b w : Nat) : Prop := (A 10 (A 5 w) = 22 ∨ A 10 (A 5 w) = 23) ∧ (A 10 (A 5 w) = 22 → A 19 b + 1 = A 19 w) ∧ (A 10 (A 5 w) = 23 → A 19 b = A 24 w ∨ A 19 b = A 19 w)
def LO (A : Bk) (b : Nat) : Prop := A 6 b ≠ 0 ∧ A 6 b - 1 < b ∧ A 12 b = A 12 (A 6 b - 1) + 1 ∧ A 13 (A 6 b - 1) = A 13 b ∧ (A 7 b = 0 → bQ A b (A 6 b - 1))
/-- what stays for acts read -/
def Sf (A A' : Bk) : Prop := FxR A A' ∧ A 0 3 ≤ A' 0 3 ∧ A 0 8 ≤ A' 0 8 ∧ (∀ i, i < A 0 5 → A' 11 i = A 11 i) ∧ A 0 9 ≤ A' 0 9 ∧ ∀ c, c < A 0 3 → A' 18 c = A 18 c ∧ A' 13 c = A 13 c ∧ A' 12 c = A 12 c ∧ A' 5 c = A 5 c
section TRE
variable {n b : Nat} {A A' : Bk} {F : Bk → Prop}
theorem Sf.rf : Sf A A := ⟨FxR.rf, Nat.le_refl _, Nat.le_refl _, fun _ _ => rfl, Nat.le_refl _, fun _ _ => ⟨rfl, rfl, rfl, rfl⟩⟩
theorem Sf.tr {A1 : Bk} (h : Sf A A1) (h2 : Sf A1 A') : Sf A A' := ⟨h.1.tr h2.1, Nat.le_trans h.2.1 h2.2.1, Nat.le_trans h.2.2.1 h2.2.2.1, fun i hi => (h2.2.2.2.1 i (Nat.lt_of_lt_of_le hi h.1.2.1)).trans (h.2.2.2.1 i hi), Nat.le_trans h.2.2.2.2.1 h2.2.2.2.2.1, fun c hc => by
  obtain ⟨a1, a2, a3, a4⟩ := h.2.2.2.2.2 c hc
  obtain ⟨b1, b2, b3, b4⟩ := h2.2.2.2.2.2 c (Nat.lt_of_lt_of_le hc h.2.1)
  exact ⟨b1.trans a1, b2.trans a2, b3.trans a3, b4.trans a4⟩⟩
theorem Sf.k10 (h : Sf A A') (i : Nat) : A' 10 i = A 10 i := h.1.1 10 i (by unfold fxr; omega)
theorem at_.fx {a y q : Nat} (h : Sf A A') (ha : a < A 0 3) (hy : at_ A a y q) : at_ A' a y q := by
  obtain ⟨h1, h2, h3, h4⟩ := hy
  have s := h.2.2.2.2.2 _ h2
  have s2 := h.2.2.2.2.2 _ ha
  exact ⟨h1, Nat.lt_of_lt_of_le h2 h.2.1, s.1.trans h3, by rw [s.2.1, s2.2.1]; exact h4⟩
theorem kK.fx (h : Sf A A') (rw_ : ∀ r, ar r → A' r b = A r b) (hb2 : b < A 0 3) (h5 : A 5 b + 3 ≤ A 0 5) (hk : kK A b) : kK A' b := by
  have k10 := h.k10
  have r5 := rw_ 5 (by unfold ar; omega)
  have r8 := rw_ 8 (by unfold ar; omega)
  have r9 := rw_ 9 (by unfold ar; omega)
  have r13 := rw_ 13 (by unfold ar; omega)
  have r18 := rw_ 18 (by unfold ar; omega)
  have r19 := rw_ 19 (by unfold ar; omega)
  have r20 := rw_ 20 (by unfold ar; omega)
  have r21 := rw_ 21 (by unfold ar; omega)
  have r22 := rw_ 22 (by unfold ar; omega)
  have r24 := rw_ 24 (by unfold ar; omega)
  have m5 := h.1.2.1
  have m9 := h.2.2.2.2.1
  have h11 := h.2.2.2.1
  have h0 := h.1.1 0 0 (by unfold fxr; omega)
  have h4 := h.1.1 0 4 (by unfold fxr; omega)
  unfold kK at hk ⊢
  rw [r5, r8, r9, r13, r18, r19, r20, r21, r22, r24, k10, k10]
  rcases hk with ⟨a1, a2, a3, a4⟩ | ⟨a1, a2, a3⟩ | ⟨a1, a2, a3, a4⟩ | ⟨a1, a2, a3, a4, a5, a6, a7⟩
  · exact Or.inl ⟨a1, hOK_cg k10 h0 (h11 _ (by omega)) a2, fun q => ⟨hOK_cg k10 h0 (h11 _ (by have := (a3 q).2; omega)) (a3 q).1, by have := (a3 q).2; omega⟩, a4⟩
  · exact Or.inr (Or.inl ⟨a1, vOK_cg k10 (h11 _ (by omega)) a2, a3⟩)
  · refine Or.inr (Or.inr (Or.inl ⟨a1, ?_, ?_, a4⟩))
    · rw [h11 _ (by omega)]; exact a2
    · rw [h11 _ (by omega)]; exact a3
  · refine Or.inr (Or.inr (Or.inr ⟨a1, cOK_cg k10 h4 h11 (by omega) a2, by omega, by omega, fun q => (a5 q).fx h hb2, a6, fun q => ?_⟩))
    obtain ⟨b1, b2, b3⟩ := a7 q
    refine ⟨b1, b2, b3.imp id (fun ⟨c1, c2, c3, c4⟩ => ⟨c1, c2, fun z => (c3 z).fx h hb2, c4⟩)⟩
theorem LC.fx (h : Sf A A') (rw_ : ∀ r, ar r → A' r b = A r b) (hb2 : b < A 0 3) (hk : LC A b) : LC A' b := by
  obtain ⟨a1, a2, a3, a4, a5, a6⟩ := hk
  unfold LC
  rw [rw_ 5 (by unfold ar; omega), rw_ 12 (by unfold ar; omega), rw_ 18 (by unfold ar; omega), rw_ 19 (by unfold ar; omega), rw_ 7 (by unfold ar; omega)]
  have := h.1.2.1
  have := h.2.2.1
  exact ⟨by omega, a2, a3, by omega, fun q => (a5 q).fx h hb2, a6.fx h rw_ hb2 a1⟩
theorem LO.fx (h : Sf A A') (rw_ : ∀ r, ar r → A' r b = A r b) (hb2 : b < A 0 3) (hw : A' 19 (A 6 b - 1) = A 19 (A 6 b - 1) ∧ A' 24 (A 6 b - 1) = A 24 (A 6 b - 1)) (hk : LO A b) : LO A' b := by
  obtain ⟨a1, a2, a3, a4, a5⟩ := hk
  obtain ⟨b1, b2, b3, b4⟩ := h.2.2.2.2.2 (A 6 b - 1) (by omega)
  unfold LO bQ
  rw [rw_ 6 (by unfold ar; omega), rw_ 7 (by unfold ar; omega), rw_ 12 (by unfold ar; omega), rw_ 13 (by unfold ar; omega), rw_ 19 (by unfold ar; omega), b2, b3, b4, hw.1, hw.2, h.k10]
  exact ⟨a1, a2, a3, a4, a5⟩
theorem FxA.sf (h : FxA A A') : Sf A A' := ⟨h.1, h.2.2.1, h.2.2.2.1, h.2.2.2.2.1, h.2.2.2.2.2, fun c hc => ⟨h.2.1 18 c (by unfold ar; omega) hc, h.2.1 13 c (by unfold ar; omega) hc, h.2.1 12 c (by unfold ar; omega) hc, h.2.1 5 c (by unfold ar; omega) hc⟩⟩
/-- one number changes that these facts do not see -/
theorem Sf.u {r k v : Nat} (h : (r = 0 ∧ k = 8 ∧ A 0 8 ≤ v) ∨ (r = 0 ∧ k = 5 ∧ A 0 5 ≤ v) ∨ ((8 ≤ r ∧ r ≤ 9) ∨ (19 ≤ r ∧ r ≤ 22) ∨ r = 24 ∨ r = 7)) : Sf A (u2 A r k v) := by
  refine ⟨FxR.u (by unfold fxr; omega) (by omega), ?_, ?_, fun i hi => ?_, ?_, fun c hc => ⟨?_, ?_, ?_, ?_⟩⟩
  · rw [u2_a, if_neg (by omega)]; exact Nat.le_refl _
  · rw [u2_a]; split <;> omega
  · rw [u2_a, if_neg (by omega)]
  · rw [u2_a, if_neg (by omega)]; exact Nat.le_refl _
  · rw [u2_a, if_neg (by omega)]
  · rw [u2_a, if_neg (by omega)]
  · rw [u2_a, if_neg (by omega)]
  · rw [u2_a, if_neg (by omega)]
/-- what a block leaves -/
def BQ (o dp : Nat) (A A' : Bk) : Prop := FxA A A' ∧ A 0 5 + 2 ≤ A' 0 5 ∧ (A' 0 3 = A 0 3 → A' 0 8 = A 0 8) ∧ (A 0 3 < A' 0 3 → A' 18 (A 0 3) = A 0 8) ∧ ∀ b, A 0 3 ≤ b → b < A' 0 3 → LC A' b ∧ A 0 8 ≤ A' 18 b ∧ A' 13 b = A 0 2 ∧ ((A' 6 b = o ∧ A' 12 b = dp ∧ (A' 7 b = 0 → A' 19 b = A' 0 8)) ∨ (LO A' b ∧ A 0 3 + 1 ≤ A' 6 b))
def BP (blk : Nat → Bk → Bool × Bk) (dp : Nat) : Prop := ∀ {o : Nat} {A : Bk} {F : Bk → Prop}, NF A → A 0 5 < A 0 4 → TkL A → (o = 0 → dp = 0) → (o ≠ 0 → o ≤ A 0 3 ∧ dp = A 12 (o - 1) + 1) → (∀ A', BQ o dp A A' → NF A' → A' 0 5 < A' 0 4 → F A') → PW (blk o A) F
/-- what an act leaves -/
def AQ (x : Nat) (A A' : Bk) : Prop := FxR A A' ∧ (∀ r b, ar r → b < x - 1 → A' r b = A r b) ∧ A 0 3 ≤ A' 0 3 ∧ (∀ i, i < A 0 5 → A' 11 i = A 11 i) ∧ A 0 9 ≤ A' 0 9 ∧ (∀ r, r = 5 ∨ r = 6 ∨ r = 7 ∨ r = 12 ∨ r = 13 ∨ r = 18 → A' r (x - 1) = A r (x - 1)) ∧ A' 19 (x - 1) = A' 0 8 ∧ A 0 8 < A' 0 8 ∧ A 0 5 + 3 ≤ A' 0 5 ∧ kK A' (x - 1) ∧ ∀ b, x ≤ b → b < A' 0 3 → LC A' b ∧ A 0 8 < A' 18 b ∧ A' 13 b = A 0 2 ∧ LO A' b ∧ x ≤ A' 6 b
def AH (x : Nat) (A : Bk) : Prop := NF A ∧ A 0 5 < A 0 4 ∧ TkL A ∧ 1 ≤ x ∧ A 0 3 = x ∧ A 5 (x - 1) = A 0 5 ∧ A 18 (x - 1) = A 0 8 ∧ A 13 (x - 1) = A 0 2 ∧ A 8 (x - 1) = 0 ∧ A 9 (x - 1) = 0
/-- the end of an act with one order -/
theorem p_end {x m : Nat} {A2 : Bk} (hA : AH x A) (f : FxT m A A2) (hn : NF A2) (hl : A2 0 5 < A2 0 4) (h5 : A 0 5 + 2 ≤ A2 0 5) (hk : ∀ A', (∀ i, A' 10 i = A2 10 i) → (∀ i, A' 11 i = A2 11 i) → A' 0 0 = A2 0 0 → A' 0 5 = A2 0 5 + 1 → A' 5 (x - 1) = A 0 5 → A' 13 (x - 1) = A 0 2 → A' 19 (x - 1) = A' 18 (x - 1) + 1 → kK A' (x - 1)) (h : ∀ A', AQ x A A' → NF A' → A' 0 5 < A' 0 4 → F A') : PW (mEnd x A2) F := by
  obtain ⟨h1, h2, h3, h4, h5', h6, h7, h8, h9, h10⟩ := hA
  unfold mEnd gPe gInc gSet
  have hn3 : NF (u2 (u2 A2 0 8 (A2 0 8 + 1)) 19 (x - 1) (u2 A2 0 8 (A2 0 8 + 1) 0 8)) := (hn.g (Or.inl ⟨rfl, by omega, by omega⟩)).g (by omega)
  refine p_tk2 (by omega) hn3 hl ((h3.fx f.1).fx ((FxR.u (by unfold fxr; omega) (by omega)).tr (FxR.u (by unfold fxr; omega) (by omega)))) (fun A' e k f3 n3 e3 l3 => h A' ?_ n3 l3)
  have ev : ∀ r k, (r ≠ 0 ∨ (k ≠ 5 ∧ k ≠ 8)) → (r ≠ 19 ∨ k ≠ x - 1) → A' r k = A2 r k := by
    intro r k q1 q2
    rw [e, u2_a, if_neg (by omega), u2_a, if_neg (by omega), u2_a, if_neg (by omega)]
  have e8 : A' 0 8 = A2 0 8 + 1 := by rw [e, u2_a, if_neg (by omega), u2_a, if_neg (by omega), u2_a, if_pos ⟨rfl, rfl⟩]
  have e19 : A' 19 (x - 1) = A2 0 8 + 1 := by rw [e, u2_a, if_neg (by omega), u2_a, if_pos ⟨rfl, rfl⟩, u2_a, if_pos ⟨rfl, rfl⟩]
  have e5 : A' 0 5 = A2 0 5 + 1 := e3
  have t := f.2.1
  have fr : FxR A2 A' := by
    rw [e]
    exact ((FxR.u (by unfold fxr; omega) (by omega)).tr (FxR.u (by unfold fxr; omega) (by omega))).tr (FxR.u (by unfold fxr; omega) (Or.inr (Or.inl ⟨rfl, by omega⟩)))
  have a03 : A' 0 3 = A 0 3 := by rw [ev 0 3 (by omega) (by omega), f.2.2.1]
  refine ⟨f.1.tr fr, fun r b hr hb => ?_, by omega, fun i hi => ?_, ?_, fun r hr => ?_, by omega, ?_, by omega, ?_, fun b hb1 hb2 => by omega⟩
  · rw [ev r b (by unfold ar at hr; omega) (by omega), t r b hr]
  · rw [ev 11 i (by omega) (by omega)]; exact f.2.2.2.2.1 i hi
  · rw [ev 0 9 (by omega) (by omega), f.2.2.2.2.2]; omega
  · rw [ev r _ (by omega) (by omega), t r _ (by unfold ar; omega)]
  · rw [e8, f.2.2.2.1]; omega
  · refine hk A' (fun i => ev 10 i (by omega) (by omega)) (fun i => ev 11 i (by omega) (by omega)) (ev 0 0 (by omega) (by omega)) e5 ?_ ?_ ?_
    · rw [ev 5 _ (by omega) (by omega), t 5 _ (by unfold ar; omega)]; exact h6
    · rw [ev 13 _ (by omega) (by omega), t 13 _ (by unfold ar; omega)]; exact h8
    · rw [e19, ev 18 _ (by omega) (by omega), t 18 _ (by unfold ar; omega), h7, f.2.2.2.1]
/-- the children of the act x, the last of each at the end e -/
def CH (x q pl dp : Nat) (e : Nat → Nat → Prop) (A : Bk) : Prop := ∀ b, x ≤ b → b < A 0 3 → LC A b ∧ q ≤ A 18 b ∧ A 13 b = pl ∧ ((A 6 b = x ∧ A 12 b = dp ∧ (A 7 b = 0 → e b (A 19 b))) ∨ (LO A b ∧ x + 1 ≤ A 6 b))
def HD (x : Nat) (A A5 : Bk) : Prop := Sf A A5 ∧ (∀ r b, ar r → b < x - 1 → A5 r b = A r b) ∧ (∀ r, r = 5 ∨ r = 6 ∨ r = 7 ∨ r = 9 ∨ r = 12 ∨ r = 13 ∨ r = 18 → A5 r (x - 1) = A r (x - 1)) ∧ A 0 8 + 1 ≤ A5 0 8 ∧ A 0 5 + 6 ≤ A5 0 5 ∧ cOK A5 (A5 21 (x - 1)) (A 0 5 + 1) ∧ A 0 5 + 4 * A5 21 (x - 1) + 4 ≤ A5 0 5 ∧ A5 20 (x - 1) + A5 21 (x - 1) + 1 ≤ A5 0 9 ∧ (A5 8 (x - 1) ≠ 0 → at_ A5 (x - 1) (A5 8 (x - 1)) (A 0 8 + 1)) ∧ (A5 8 (x - 1) = 0 → A5 0 8 = A 0 8 + 1) ∧ CH x (A 0 8 + 1) (A 0 2) (A 12 (x - 1) + 1) (fun _ q => q = A5 0 8) A5
theorem CH.fx {x q pl dp : Nat} {e e' : Nat → Nat → Prop} (h : CH x q pl dp e A) (hs : Sf A A') (h3 : A' 0 3 = A 0 3) (hr : ∀ r b, ar r → x ≤ b → b < A 0 3 → A' r b = A r b) (he : ∀ b q, e b q → e' b q) : CH x q pl dp e' A' := by
  intro b hb1 hb2
  rw [h3] at hb2
  obtain ⟨a1, a2, a3, a4⟩ := h b hb1 hb2
  have rb : ∀ r, ar r → A' r b = A r b := fun r q => hr r b q hb1 hb2
  refine ⟨a1.fx hs rb hb2, by rw [rb 18 (by unfold ar; omega)]; exact a2, by rw [rb 13 (by unfold ar; omega)]; exact a3, ?_⟩
  rcases a4 with ⟨c1, c2, c3⟩ | ⟨c1, c2⟩
  · refine Or.inl ⟨by rw [rb 6 (by unfold ar; omega)]; exact c1, by rw [rb 12 (by unfold ar; omega)]; exact c2, ?_⟩
    rw [rb 7 (by unfold ar; omega), rb 19 (by unfold ar; omega)]
    exact fun z => he _ _ (c3 z)
  · have l := c1.2.1
    refine Or.inr ⟨c1.fx hs rb hb2 ⟨hr 19 _ (by unfold ar; omega) (by omega) (by omega), hr 24 _ (by unfold ar; omega) (by omega) (by omega)⟩, ?_⟩
    rw [rb 6 (by unfold ar; omega)]; exact c2
theorem ar19 : ar 19 := by unfold ar; omega
theorem PW.bo {blk : Nat → Bk → Bool × Bk} {r x : Nat} (hx : x ≠ 0) (hr : r ≠ 0) (h : PW (blk x A) (fun A4 => F (u2 A4 r (x - 1) (if A 0 3 < A4 0 3 then A 0 3 + 1 else 0)))) : PW (mBO blk r x A) F := by
  intro ht h0
  unfold mBO at ht h0 ⊢
  have h0 : (if x = 0 then (blk x A).2 else u2 (blk x A).2 r (x - 1) (if A 0 3 < (blk x A).2 0 3 then A 0 3 + 1 else 0)) 0 6 = 0 := h0
  show F (if x = 0 then (blk x A).2 else u2 (blk x A).2 r (x - 1) (if A 0 3 < (blk x A).2 0 3 then A 0 3 + 1 else 0))
  rw [if_neg hx] at h0 ⊢
  rw [u2_a, if_neg (by omega)] at h0
  exact h ht h0
theorem p_head {blk : Nat → Bk → Bool × Bk} {g : Bk → Bool × Bk} {x dp k : Nat} (hb : ∀ o, Fx (blk o)) (hP : BP blk dp) (hg : Fx g) (hk : 2 ≤ k) (hA : AH x A) (hd : dp = A 12 (x - 1) + 1)
    (h : ∀ A5, HD x A A5 → NF A5 → A5 0 5 < A5 0 4 → PW (g A5) F) : PW (bd (mTk k A) fun A => bd (mCmp 400 (gCs x A)) fun A => bd (mBO blk 8 x (gInc 8 (gN x A))) g) F := by
  obtain ⟨h1, h2, h3, h4, h5, h6, h7, h8, h9, h10⟩ := hA
  have fx2 : Fx (fun A => bd (mBO blk 8 x (gInc 8 (gN x A))) g) := fun A => bd_fx (((fx_set (r := 21) (by omega)).tr (fx_inc (by omega))).tr (fx_bo (by omega) hb _)) hg
  refine PW.b (fun A1 => bd_fx ((fx_set (r := 20) (by omega)).tr (fx_cmp _)) fx2) (p_tk2 hk h1 h2 h3 (fun A1 eA1 _ f1 n1 e1 l1 => ?_))
  have fc : FxR A1 (gCs x A1) := fx_set (by omega)
  refine PW.b fx2 (p_cmp (A := gCs x A1) (n1.g (by omega)) l1 ((h3.fx f1.1).fx fc) (fun A2 c f2 n2 e2 l2 hc => ?_))
  have c5 : gCs x A1 0 5 = A1 0 5 := rfl
  have c8 : gCs x A1 0 8 = A1 0 8 := rfl
  have c9 : gCs x A1 0 9 = A1 0 9 := rfl
  have c3 : gCs x A1 0 3 = A1 0 3 := rfl
  have c20 : gCs x A1 20 (x - 1) = A1 0 9 := by unfold gCs gSet; rw [u2_a, if_pos ⟨rfl, rfl⟩]
  have cr : ∀ r j, ar r → (r ≠ 20 ∨ j ≠ x - 1) → gCs x A1 r j = A1 r j := fun r j q z => by
    unfold gCs gSet; rw [u2_a, if_neg (by omega)]
  have a20 : A2 20 (x - 1) = A 0 9 := by rw [f2.2.1 20 _ (by unfold ar; omega), c20, f1.2.2.2.2.2]; rfl
  have a09 : A2 0 9 = A 0 9 + (c + 1) := by rw [f2.2.2.2.2.2, c9, f1.2.2.2.2.2]; rfl
  have a08 : A2 0 8 = A 0 8 := by rw [f2.2.2.2.1, c8, f1.2.2.2.1]
  have a03 : A2 0 3 = A 0 3 := by rw [f2.2.2.1, c3, f1.2.2.1]
  have a05 : A2 0 5 = A 0 5 + 1 + 4 * c + 3 := by rw [e2, c5, e1]
  have ar2 : ∀ r j, ar r → (r ≠ 20 ∨ j ≠ x - 1) → A2 r j = A r j := fun r j q z => by rw [f2.2.1 r j q, cr r j q z, f1.2.1 r j q]
  have a02 : A2 0 2 = A 0 2 := by rw [f2.1.1 0 2 (by unfold fxr; omega), fc.1 0 2 (by unfold fxr; omega), f1.1.1 0 2 (by unfold fxr; omega)]
  have a11 : ∀ i, i < A 0 5 → A2 11 i = A 11 i := fun i hi => by
    rw [f2.2.2.2.2.1 i (by rw [c5, e1]; omega), show gCs x A1 11 i = A1 11 i from rfl, f1.2.2.2.2.1 i hi]
  have fr2 : FxR A A2 := (f1.1.tr fc).tr f2.1
  rw [c5, e1] at hc
  obtain ⟨A3, e3⟩ : ∃ A3, A3 = gInc 8 (gN x A2) := ⟨_, rfl⟩
  have b21 : A3 21 (x - 1) = c := by
    rw [e3]; unfold gInc gN gSet
    rw [u2_a, if_neg (by omega), u2_a, if_pos ⟨rfl, rfl⟩, a20, a09]; omega
  have b08 : A3 0 8 = A 0 8 + 1 := by
    rw [e3]; unfold gInc gN gSet
    rw [u2_a, if_pos ⟨rfl, rfl⟩, u2_a, if_neg (by omega), a08]
  have bs : ∀ r j, (r ≠ 0 ∨ j ≠ 8) → (r ≠ 21 ∨ j ≠ x - 1) → A3 r j = A2 r j := fun r j q z => by
    rw [e3]; unfold gInc gN gSet
    rw [u2_a, if_neg (by omega), u2_a, if_neg (by omega)]
  have n3 : NF A3 := by rw [e3]; exact (n2.g (by omega)).g (Or.inl ⟨rfl, by omega, by omega⟩)
  have fr3 : FxR A2 A3 := by rw [e3]; exact (fx_set (by omega)).tr (fx_inc (by omega))
  rw [← e3]
  have b05 := bs 0 5 (by omega) (by omega)
  have b04 := bs 0 4 (by omega) (by omega)
  have b03 := bs 0 3 (by omega) (by omega)
  have b09 := bs 0 9 (by omega) (by omega)
  have b02 := bs 0 2 (by omega) (by omega)
  clear e3
  have hx0 : x ≠ 0 := by omega
  have hbl : PW (blk x A3) (fun A4 => PW (g (u2 A4 8 (x - 1) (if A3 0 3 < A4 0 3 then A3 0 3 + 1 else 0))) F) := by
    refine hP n3 (by omega) (((h3.fx fr2)).fx fr3) (fun z => absurd z hx0) (fun _ => ⟨by omega, ?_⟩) (fun A4 hB n4 l4 => ?_)
    · rw [bs 12 _ (by omega) (by omega), ar2 12 _ (by unfold ar; omega) (by omega)]; exact hd
    · obtain ⟨q1, q2, q3, q4, q5⟩ := hB
      obtain ⟨A5, e5⟩ : ∃ A5, A5 = u2 A4 8 (x - 1) (if A3 0 3 < A4 0 3 then A3 0 3 + 1 else 0) := ⟨_, rfl⟩
      rw [← e5]
      have d8 : A5 8 (x - 1) = if A3 0 3 < A4 0 3 then A3 0 3 + 1 else 0 := by rw [e5, u2_a, if_pos ⟨rfl, rfl⟩]
      have ds : ∀ r j, (r ≠ 8 ∨ j ≠ x - 1) → A5 r j = A4 r j := fun r j z => by rw [e5, u2_a, if_neg (by omega)]
      have s45 : Sf A4 A5 := by rw [e5]; exact Sf.u (by omega)
      have n5 : NF A5 := by rw [e5]; exact n4.g (by omega)
      have d03 := ds 0 3 (by omega)
      have d05 := ds 0 5 (by omega)
      have d08 := ds 0 8 (by omega)
      have d09 := ds 0 9 (by omega)
      have d04 := ds 0 4 (by omega)
      clear e5
      have row : ∀ r j, ar r → j < x → (r ≠ 20 ∨ j ≠ x - 1) → (r ≠ 21 ∨ j ≠ x - 1) → (r ≠ 8 ∨ j ≠ x - 1) → A5 r j = A r j := fun r j q hj z1 z2 z3 => by
        rw [ds r j z3, q1.2.1 r j q (by omega), bs r j (by unfold ar at q; omega) z2, ar2 r j q z1]
      have sA3 : Sf A A3 := by
        refine ⟨fr2.tr fr3, by omega, by omega, fun i hi => by rw [bs 11 i (by omega) (by omega)]; exact a11 i hi, by omega, fun c hc => ?_⟩
        have z : ∀ r, r = 18 ∨ r = 13 ∨ r = 12 ∨ r = 5 → A3 r c = A r c := fun r hr => by rw [bs r c (by omega) (by omega), ar2 r c (by unfold ar; omega) (by omega)]
        exact ⟨z 18 (by omega), z 13 (by omega), z 12 (by omega), z 5 (by omega)⟩
      have sA5 := (sA3.tr q1.sf).tr s45
      have hc3 : cOK A3 c (A 0 5 + 1) := cOK_cg (T := A2 0 5) (fun i => bs 10 i (by omega) (by omega)) b04 (fun i _ => bs 11 i (by omega) (by omega)) (by omega) hc
      have k3 := q1.sf.k10
      have hc4 : cOK A4 c (A 0 5 + 1) := cOK_cg (T := A3 0 5) k3 (q1.1.1 0 4 (by unfold fxr; omega)) q1.2.2.2.2.1 (by omega) hc3
      have hc5 : cOK A5 c (A 0 5 + 1) := cOK_cg (T := A4 0 5) (fun i => ds 10 i (by omega)) d04 (fun i _ => ds 11 i (by omega)) (by omega) hc4
      have m21 : A5 21 (x - 1) = c := by rw [ds 21 _ (by omega), q1.2.1 21 _ (by unfold ar; omega) (by omega), b21]
      have m20 : A5 20 (x - 1) = A 0 9 := by rw [ds 20 _ (by omega), q1.2.1 20 _ (by unfold ar; omega) (by omega), bs 20 _ (by omega) (by omega), a20]
      have p3 := q1.2.2.1
      have p8 := q1.2.2.2.1
      have p9 := q1.2.2.2.2.2
      refine h A5 ⟨sA5, fun r b hr hb => row r b hr (by omega) (by omega) (by omega) (by omega), fun r hr => row r _ (by unfold ar; omega) (by omega) (by omega) (by omega) (by omega), by omega, by omega, by rw [m21]; exact hc5, by omega, by omega, fun z => ?_, fun z => ?_, ?_⟩ n5 (by omega)
      · rw [d8] at z ⊢
        split at z
        · next y =>
          rw [if_pos y]
          refine ⟨by omega, by omega, ?_, ?_⟩
          · rw [show A3 0 3 + 1 - 1 = A3 0 3 by omega, ds 18 _ (by omega), q4 y, b08]
          · rw [show A3 0 3 + 1 - 1 = A3 0 3 by omega, ds 13 _ (by omega), (q5 _ (Nat.le_refl _) y).2.2.1, row 13 _ (by unfold ar; omega) (by omega) (by omega) (by omega) (by omega), h8, b02, a02]
        · exact absurd rfl z
      · rw [d8] at z
        split at z
        · omega
        · have := q3 (by omega); omega
      · have ch : CH x (A 0 8 + 1) (A 0 2) (A 12 (x - 1) + 1) (fun _ q => q = A5 0 8) A4 := by
          intro b hb1 hb2
          obtain ⟨y1, y2, y3, y4⟩ := q5 b (by omega) hb2
          refine ⟨y1, by omega, by rw [y3, b02, a02], ?_⟩
          rcases y4 with ⟨w1, w2, w3⟩ | ⟨w1, w2⟩
          · exact Or.inl ⟨w1, by rw [w2, hd], fun z => by rw [w3 z, d08]⟩
          · exact Or.inr ⟨w1, by omega⟩
        exact ch.fx s45 d03 (fun r b _ hb1 _ => ds r b (by omega)) (fun _ _ z => z)
  exact PW.b hg (PW.bo hx0 (by omega) hbl)
end TRE

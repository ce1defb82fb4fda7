/-! the reference's orders of a right book lead where the class's book leads -/
def GFa (A : Bk) (og cg : Nat → Int32) (a : Nat) : Prop := og (4 * A 18 a) = nI (189 + A 10 (A 5 a)) ∧
  (A 10 (A 5 a) = 16 → og (4 * A 18 a + 1) = wI (fWc A (A 5 a + 1)) ∧ og (4 * A 18 a + 2) = wO (fWith A (A 5 a + 2))) ∧
  ((A 10 (A 5 a) = 18 ∨ A 10 (A 5 a) = 19 ∨ A 10 (A 5 a) = 20) → og (4 * A 18 a + 1) = vI (fVc A (A 5 a + 1))) ∧
  (A 10 (A 5 a) = 21 → og (4 * A 18 a + 1) = nI (A 11 (A 5 a + 1) - 1)) ∧
  ((A 10 (A 5 a) = 22 ∨ A 10 (A 5 a) = 23) → og (4 * A 18 a + 1) = nI (A 20 a) ∧ rCmp A cg (A 21 a) (A 5 a + 1) (A 20 a)) ∧
  (A 10 (A 5 a) = 22 → og (4 * A 18 a + 3) = nI (A 19 a) ∧ og (4 * (A 19 a - 1)) = nI 300 ∧ og (4 * (A 19 a - 1) + 1) = nI (A 18 a)) ∧
  (A 10 (A 5 a) = 23 → og (4 * A 18 a + 3) = nI (A 22 a) ∧ (A 22 a = A 24 a + 1 → og (4 * A 24 a) = nI 300 ∧ og (4 * A 24 a + 1) = nI (A 19 a)))
section JMP
variable {A A' : Bk} {og cg bg og' cg' : Nat → Int32}
theorem fVc_cg {u : Nat} (h : ∀ i, A' 10 i = A 10 i) (hu : A' 11 u = A 11 u) : fVc A' u = fVc A u := by unfold fVc; rw [h, hu]
theorem fWc_cg {u : Nat} (h : ∀ i, A' 10 i = A 10 i) (hu : A' 11 u = A 11 u) : fWc A' u = fWc A u := by unfold fWc; rw [h, hu]
theorem rCmp_cg {T C : Nat} (h : ∀ i, A' 10 i = A 10 i) (h11 : ∀ i, i < T → A' 11 i = A 11 i) (hc : ∀ j, j < 4 * C → cg' j = cg j) : ∀ {n u i : Nat}, u + 4 * n + 3 ≤ T → i + n + 1 ≤ C → rCmp A cg n u i → rCmp A' cg' n u i := by
  intro n
  induction n with
  | zero =>
    intro u i hu hi hr
    obtain ⟨a, b, c, d, e⟩ := hr
    refine ⟨a, ?_, ?_, ?_, ?_⟩
    · rw [hc _ (by omega), fVc_cg h (h11 _ (by omega))]; exact b
    · rw [hc _ (by omega), h]; exact c
    · rw [hc _ (by omega), fVc_cg h (h11 _ (by omega))]; exact d
    · rw [hc _ (by omega)]; exact e
  | succ n ih =>
    intro u i hu hi hr
    obtain ⟨a, b, c, d, e, f⟩ := hr
    refine ⟨a, ?_, ?_, ?_, ?_, ih (by omega) (by omega) f⟩
    · rw [hc _ (by omega), fVc_cg h (h11 _ (by omega))]; exact b
    · rw [hc _ (by omega), h]; exact c
    · rw [hc _ (by omega), fVc_cg h (h11 _ (by omega))]; exact d
    · rw [hc _ (by omega)]; exact e
theorem Lnd.up {k q x : Nat} (h : Lnd A og k q x) : Lnd A og (k + 1) q x := Or.inl h
theorem Lnd.le {q x : Nat} : ∀ {k2 k : Nat}, k ≤ k2 → Lnd A og k q x → Lnd A og k2 q x := by
  intro k2
  induction k2 with
  | zero => intro k hk h; rw [show k = 0 by omega] at h; exact h
  | succ k2 ih =>
    intro k hk h
    by_cases e : k = k2 + 1
    · rw [e] at h; exact h
    · exact (ih (by omega) h).up
theorem Lnd.to {q x : Nat} (h : x ≠ 0) (hq : q = A 18 (x - 1)) (h4 : q < 400) : Lnd A og 0 q x := ⟨h4, Or.inl ⟨h, hq⟩⟩
theorem Lnd.go {k q q' x : Nat} (h0 : og (4 * q) = nI 300) (h1 : og (4 * q + 1) = nI q') (h4 : q < 400) (h : Lnd A og k q' x) : Lnd A og (k + 1) q x := Or.inr ⟨h4, h0, q', h1, h⟩
theorem at_.to {a y q : Nat} (h : at_ A a y q) (h4 : q < 400) : Lnd A og 0 q y := Lnd.to (by have := h.1; omega) h.2.2.1.symm h4
theorem cont (hI : PI A) (h8 : A 0 8 ≤ 400) (hg : ∀ a, a < A 0 3 → GFa A og cg a) (hb : ∀ p, p < A 0 2 → og (4 * A 25 p) = nI 301) : ∀ {d a f : Nat}, a < A 0 3 → A 12 a = d → d + 1 ≤ f → Lnd A og (d + 1) (A 19 a) (fBeh A f a) := by
  intro d
  induction d with
  | zero =>
    intro a f ha hd hf
    obtain ⟨f, rfl⟩ : ∃ g, f = g + 1 := ⟨f - 1, by omega⟩
    obtain ⟨⟨y1, y2, y3, y4, y5, y6⟩, y7, y8⟩ := hI.1 a ha
    unfold fBeh
    by_cases e : A 7 a = 0
    · rw [if_neg (fun z => z e)]
      rcases y8 with ⟨c1, c2, c3⟩ | c
      · rw [if_pos c1, c3 e]
        have := (hI.2 _ y7).2.2
        exact Or.inl ⟨by omega, Or.inr ⟨rfl, hb _ y7⟩⟩
      · have := c.2.2.1; omega
    · rw [if_pos e]
      have := y5 e
      have h2 := (hI.1 _ this.2.1).1
      exact (this.to (by have := h2.2.2.1; have := h2.2.2.2.1; have := (y5 e).2.2.1; omega)).up
  | succ d ih =>
    intro a f ha hd hf
    obtain ⟨f, rfl⟩ : ∃ g, f = g + 1 := ⟨f - 1, by omega⟩
    obtain ⟨⟨y1, y2, y3, y4, y5, y6⟩, y7, y8⟩ := hI.1 a ha
    unfold fBeh
    by_cases e : A 7 a = 0
    · rw [if_neg (fun z => z e)]
      rcases y8 with ⟨c1, c2, c3⟩ | ⟨c1, c2, c3, c4, c5⟩
      · omega
      · rw [if_neg c1]
        obtain ⟨w1, w2, w3⟩ := c5 e
        have hw : A 6 a - 1 < A 0 3 := by omega
        have gw := hg _ hw
        obtain ⟨⟨z1, z2, z3, z4, z5, z6⟩, z7, z8⟩ := hI.1 _ hw
        by_cases k22 : A 10 (A 5 (A 6 a - 1)) = 22
        · rw [if_pos k22]
          have g := gw.2.2.2.2.2.1 k22
          have := w2 k22
          rw [show A 19 (A 6 a - 1) - 1 = A 19 a by omega] at g
          refine Lnd.le (k := 1) (by omega) (Lnd.go g.2.1 g.2.2 (by omega) (Lnd.to c1 rfl (by omega)))
        · rw [if_neg k22]
          have k23 : A 10 (A 5 (A 6 a - 1)) = 23 := by omega
          have IH := ih (a := A 6 a - 1) (f := f) hw (by omega) (by omega)
          rcases z6 with q | q | q | ⟨q1, q2, q3, q4, q5, q6, q7⟩
          · omega
          · omega
          · omega
          · obtain ⟨r1, r2, r3⟩ := q7 k23
            rcases w3 k23 with v | v
            · rcases r3 with ⟨t1, t2, t3⟩ | ⟨t1, t2, t3, t4⟩
              · rw [v, ← t2]; exact IH.up
              · have g := (gw.2.2.2.2.2.2 k23).2 t1
                rw [← v] at g
                exact Lnd.go g.1 g.2 (by omega) IH
            · rw [v]; exact IH.up
    · rw [if_pos e]
      have := y5 e
      have h2 := (hI.1 _ this.2.1).1
      exact Lnd.le (k := 0) (by omega) (this.to (by have := h2.2.2.1; have := h2.2.2.2.1; have := (y5 e).2.2.1; omega))
theorem gOK_of (hI : PI A) (h8 : A 0 8 ≤ 400) (hg : ∀ a, a < A 0 3 → GFa A og cg a) (hb : ∀ p, p < A 0 2 → bg p = nI (A 23 p) ∧ og (4 * A 25 p) = nI 301) : gOK A og cg bg := by
  have ct : ∀ {d a f : Nat}, a < A 0 3 → A 12 a = d → d + 1 ≤ f → Lnd A og (d + 1) (A 19 a) (fBeh A f a) := fun x y z => cont hI h8 hg (fun p hp => (hb p hp).2) x y z
  refine ⟨fun p hp => ⟨(hb p hp).1, ?_⟩, fun a ha => ?_⟩
  · obtain ⟨y1, y2, y3⟩ := hI.2 p hp
    rcases y1 with ⟨c1, c2⟩ | ⟨c1, c2, c3, c4⟩
    · rw [c1]
      refine Lnd.le (k := 0) (by omega) ⟨by omega, Or.inr ⟨rfl, ?_⟩⟩
      rw [← c2]; exact (hb p hp).2
    · exact Lnd.le (k := 0) (by omega) (Lnd.to c1 c4.symm (by omega))
  · obtain ⟨⟨y1, y2, y3, y4, y5, y6⟩, y7, y8⟩ := hI.1 a ha
    obtain ⟨g0, g1, g2, g3, g4, g5, g6⟩ := hg a ha
    have C : Lnd A og (A 12 a + 1) (A 19 a) (fBeh A 4 a) := ct ha rfl (by omega)
    have C4 : Lnd A og 4 (A 19 a) (fBeh A 4 a) := C.le (by omega)
    refine ⟨by omega, g0, g1, g2, g3, fun q => ?_, fun q1 q2 => ?_⟩
    · obtain ⟨h1, h2⟩ := g4 q
      refine ⟨h1, h2, ?_, ?_⟩
      · rcases y6 with q' | q' | q' | ⟨q1, q2, q3, q4, q5, q6, q7⟩
        · omega
        · omega
        · omega
        · unfold inn
          rcases q with k | k
          · rw [if_pos k]
            obtain ⟨r1, r2, r3⟩ := q6 k
            by_cases e : A 8 a = 0
            · rw [if_pos e]
              have g := g5 k
              have := r1 e
              rw [show A 19 a - 1 = A 18 a + 1 by omega] at g
              exact Lnd.le (k := 1) (by omega) (Lnd.go g.2.1 g.2.2 (by omega) (Lnd.to (by omega) rfl (by omega)))
            · rw [if_neg e]
              exact Lnd.le (k := 0) (by omega) ((q5 e).to (by omega))
          · rw [if_neg (by omega)]
            obtain ⟨r1, r2, r3⟩ := q7 k
            by_cases e : A 8 a = 0
            · rw [if_pos e]
              have := r1 e
              rcases r3 with ⟨t1, t2, t3⟩ | ⟨t1, t2, t3, t4⟩
              · rw [show A 18 a + 1 = A 19 a by omega]; exact C4
              · have g := (g6 k).2 t1
                rw [this] at g
                exact Lnd.le (k := A 12 a + 2) (by omega) (Lnd.go g.1 g.2 (by omega) C)
            · rw [if_neg e]
              have at_8 := q5 e
              have h2 := (hI.1 _ at_8.2.1).1
              exact Lnd.le (k := 0) (by omega) (at_8.to (by have := h2.2.2.1; have := h2.2.2.2.1; have := at_8.2.2.1; omega))
      · rcases y6 with q' | q' | q' | ⟨q1, q2, q3, q4, q5, q6, q7⟩
        · omega
        · omega
        · omega
        · rcases q with k | k
          · rw [if_pos k]
            exact ⟨_, (g5 k).1, C4⟩
          · rw [if_neg (by omega)]
            refine ⟨_, (g6 k).1, ?_⟩
            obtain ⟨r1, r2, r3⟩ := q7 k
            rcases r3 with ⟨t1, t2, t3⟩ | ⟨t1, t2, t3, t4⟩
            · rw [if_pos t3, t1, ← t2]; exact C4
            · by_cases e : A 9 a = 0
              · rw [if_pos e, ← t4 e]; exact C4
              · rw [if_neg e]
                have at_9 := t3 e
                have h2 := (hI.1 _ at_9.2.1).1
                exact Lnd.le (k := 0) (by omega) (at_9.to (by have := h2.2.2.1; have := h2.2.2.2.1; have := at_9.2.2.1; omega))
    · have : A 19 a = A 18 a + 1 := by
        rcases y6 with q' | q' | q' | q'
        · exact q'.2.2.2.1
        · exact q'.2.2.1
        · exact q'.2.2.2.1
        · omega
      rw [← this]; exact C4
end JMP

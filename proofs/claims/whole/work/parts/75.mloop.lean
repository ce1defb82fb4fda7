/-! the reference's reader: loops and choices -/
section MLP
variable {n : Nat} {tp : Nat → Nat} {s0 : St} {P : Nat → Prop} {op : Nat → Prop} {q0 c0 : Nat} {g0 h0 : Nat → Int32} {pd : Nat} {ph : Bool} {z k y : Nat} {A : Bk} {st st' : St} {Q : Int32 → St → Prop} {Qv : St → Prop}
/-- an order is mended -/
theorem RP.pat {j : Nat} {v : Int32} {s1 : St} (hP : P 75) (h : RP n tp s0 P op q0 c0 g0 h0 pd ph z k A st) (e1 : s1 = uI st 75 j v) (hj : 4 * q0 ≤ j) (h4 : j % 4 ≠ 0) (ha : A 0 6 = 0 → ∀ a, a < A 0 3 → ¬ op a → ¬ (4 * A 18 a ≤ j ∧ j < 4 * A 19 a)) : RP n tp s0 P op q0 c0 g0 h0 pd ph z k A s1 := by
  obtain ⟨⟨t1, t2, t3⟩, l, c1, c2, c3, c4, ⟨y1, y2, y3, y4⟩, c6⟩ := h
  have o : ∀ d i, (d ≠ 75 ∨ i ≠ j) → gI s1 d i = gI st d i := fun d i w => by rw [e1, gI_uI, if_neg (by omega)]
  have J : s1.2 = st.2 := by rw [e1]; rfl
  have F1 : FQ (fun d => d = 75) st s1 := by rw [e1]; exact FQ.uI (P := fun d => d = 75) rfl
  clear e1
  refine ⟨⟨?_, ?_, t3.tr (F1.mo (fun d hd => by rw [hd]; exact hP))⟩, l, c1, ?_, ?_, ?_, ⟨fun i hi => ?_, y2, fun i hi => ?_, y4⟩, fun e => ?_⟩
  · exact ⟨(o 54 2 (by omega)).trans t1.1, t1.2.1, fun i hi => (o 55 i (by omega)).trans (t1.2.2.1 i hi), t1.2.2.2⟩
  · obtain ⟨r1, r2, r3, r4, r5, r6⟩ := t2
    refine ⟨(o 68 6 (by omega)).trans r1, (o 68 7 (by omega)).trans r2, fun w => (o 68 8 (by omega)).trans (r3 w), fun w => ?_, (o 68 10 (by omega)).trans r5, fun w => (o 68 5 (by omega)).trans (r6 w)⟩
    show s1.2.1 68 9 = _
    rw [J]; exact r4 w
  · obtain ⟨a1, a2, a3, a4, a5, a6⟩ := c2
    exact ⟨(o 70 0 (by omega)).trans a1, (o 70 1 (by omega)).trans a2, (o 70 2 (by omega)).trans a3, (o 70 3 (by omega)).trans a4, (o 70 9 (by omega)).trans a5, (o 70 11 (by omega)).trans a6⟩
  · obtain ⟨f1, f2, f3, f4, f5⟩ := c3
    exact ⟨f1, (o 68 11 (by omega)).trans f2, fun w => ⟨(f3 w).1, (o 68 12 (by omega)).trans (f3 w).2⟩, fun w => ⟨(f4 w).1, (o 68 12 (by omega)).trans (f4 w).2⟩, f5⟩
  · obtain ⟨m, m3, m4, x1, x2, x3, x4, x5, x6, x7⟩ := c4
    exact ⟨m, m3, m4, x1, x2, x3, (o 68 2 (by omega)).trans x4, (o 68 3 (by omega)).trans x5, (o 68 4 (by omega)).trans x6, x7⟩
  · rw [o 75 i (by omega)]; exact y1 i hi
  · rw [o 76 i (by omega)]; exact y3 i hi
  · obtain ⟨b1, b2, b3, b4, b5, b6, b7⟩ := c6 e
    have Jj : ∀ i, gJ s1 69 i = gJ st 69 i := fun i => by show s1.2.1 69 i = _; rw [J]; rfl
    refine ⟨fun k hk => by rw [Jj]; exact b1 k hk, fun k hk => by rw [Jj]; exact b2 k hk, fun k hk => by rw [o 71 k (by omega), o 72 k (by omega)]; exact b3 k hk, fun k hk => by rw [o 73 k (by omega)]; exact b4 k hk, fun k w1 w2 => by rw [o 73 k (by omega)]; exact b5 k w1 w2, fun p hp => ?_, fun a ha2 ho => ?_⟩
    · obtain ⟨d1, d2, d3⟩ := b6 p hp
      exact ⟨(o 74 p (by omega)).trans d1, (o 75 _ (by omega)).trans d2, d3⟩
    · exact (b7 a ha2 ho).fx (fun _ => rfl) (fun _ _ _ => rfl) (fun _ _ => rfl) (Nat.le_refl _) (Nat.le_refl _) (Nat.le_refl _) (fun i w1 w2 => o 75 i (Or.inr (fun q => ha e a ha2 ho (by rw [← q]; exact ⟨w1, w2⟩)))) (fun i _ => o 76 i (by omega))
/-- a block's reading, as the model's -/
def SBk (n : Nat) (tp : Nat → Nat) (s0 : St) (P : Nat → Prop) (pd : Nat) (ph : Bool) (wb : St → (Int32 → St → Prop) → Prop) (blk : Nat → Bk → Bool × Bk) (dp : Nat) : Prop := ∀ (op : Nat → Prop) (q0 c0 : Nat) (g0 h0 : Nat → Int32) (k o : Nat) (A : Bk) (st : St) (Q : Int32 → St → Prop), (∀ a, op a → a < A 0 3) → (A 0 6 = 0 → (o = 0 → dp = 0) ∧ (o ≠ 0 → o ≤ A 0 3 ∧ dp = A 12 (o - 1) + 1)) → 1 ≤ A 0 5 → RP n tp s0 P op q0 c0 g0 h0 pd ph 0 k A st → RO n tp s0 P op q0 c0 g0 h0 pd ph (k + 1) Q (blk o A) → wb st Q
theorem bo_x {blk : Nat → Bk → Bool × Bk} {r x : Nat} (hx : x ≠ 0) : (mBO blk r x A) = ((blk x A).1, u2 (blk x A).2 r (x - 1) (if A 0 3 < (blk x A).2 0 3 then A 0 3 + 1 else 0)) := by
  unfold mBO
  rw [if_neg hx]
theorem RP.bo {blk : Nat → Bk → Bool × Bk} {r x : Nat} (hy : y = x - 1) (hr : r = 8 ∨ r = 9) (h : RP n tp s0 P (fun a => op a ∨ a = y) q0 c0 g0 h0 pd ph z k (blk x A).2 st) : RP n tp s0 P (fun a => op a ∨ a = y) q0 c0 g0 h0 pd ph z k (mBO blk r x A).2 st := by
  by_cases hx : x = 0
  · unfold mBO
    show RP n tp s0 P (fun a => op a ∨ a = y) q0 c0 g0 h0 pd ph z k (if x = 0 then (blk x A).2 else _) st
    rw [if_pos hx]; exact h
  · rw [bo_x hx]
    exact h.g (r := r) (Or.inl (by unfold ar; omega)) (by omega) (Or.inl (Or.inr hy.symm))
theorem bo_0 {blk : Nat → Bk → Bool × Bk} {r x : Nat} (hr : r ≠ 0) (j : Nat) : (mBO blk r x A).2 0 j = (blk x A).2 0 j := by
  unfold mBO
  show (if x = 0 then (blk x A).2 else u2 (blk x A).2 r (x - 1) _) 0 j = _
  split
  · rfl
  · rw [u2_a, if_neg (by omega)]
/-- the head of a loop or a choice, up to its block's end -/
theorem ra_head {blk : Nat → Bk → Bool × Bk} {wb : St → (Int32 → St → Prop) → Prop} {x kk dp : Nat} {g : Bk → Bool × Bk} {G : Int32 → Int32 → St → Prop} (hP : P 68 ∧ P 70 ∧ P 75 ∧ P 76) (hb : ∀ o, Fx (blk o)) (hmo : ∀ o, Mo (blk o)) (hPb : BP blk dp) (hS : SBk n tp s0 P pd ph wb blk dp) (hy : y = x - 1) (hyl : y < A 0 3) (hol : ∀ a, op a → a < A 0 3) (hAH : A 0 6 = 0 → AH x A ∧ dp = A 12 (x - 1) + 1) (hk0 : A 10 (A 0 5) = kk) (hkk : kk = 22 ∨ kk = 23)
    (h : RP n tp s0 P (fun a => op a ∨ a = y) q0 c0 g0 h0 pd ph 0 (k + 1) (u2 A 0 5 (A 0 5 + 1)) st)
    (hq : RO n tp s0 P op q0 c0 g0 h0 pd ph (k + 2) Q (bd (mTk kk A) fun A => bd (mCmp 400 (gCs x A)) fun A => bd (mBO blk 8 x (gInc 8 (gN x A))) g))
    (hG : ∀ A5 s5 q, (bd (mTk kk A) fun A => bd (mCmp 400 (gCs x A)) fun A => bd (mBO blk 8 x (gInc 8 (gN x A))) g) = g A5 → RP n tp s0 P (fun a => op a ∨ a = y) q0 c0 g0 h0 pd ph 0 (k + 3) A5 s5 → q0 ≤ q → q + 1 ≤ A5 0 8 → A 0 3 ≤ A5 0 3 → 1 ≤ A5 0 5 → (A5 0 6 = 0 → q = A 0 8 ∧ A 0 6 = 0 ∧ A5 20 y = A 0 9 ∧ gI s5 75 (4 * q) = nI (189 + kk) ∧ gI s5 75 (4 * q + 1) = nI (A 0 9) ∧ A5 0 9 ≥ A 0 9 + A5 21 y + 1 ∧ rCmp A5 (gI s5 76) (A5 21 y) (A 0 5 + 1) (A 0 9) ∧ (∀ a, a < A5 0 3 → ¬ (op a ∨ a = y) → A5 19 a ≤ q ∨ q + 1 ≤ A5 18 a) ∧ A 0 5 + 4 * A5 21 y + 4 ≤ A5 0 5 ∧ A5 12 y = A 12 y ∧ ∀ i, A5 10 i = A 10 i) → G (nI q) 1 s5) :
    wX11_row 68 st (fun r2 st1 => ((¬ r2 = (-100) → (wX10_put 70 (nI (189 + kk)) r2 0 st1 (fun r4 st3 => (wb st3 (fun r6 st5 => ((¬ r6 = 0 → G r4 1 st5) ∧ (r6 = 0 → Q 0 st5))))))) ∧ (r2 = (-100) → Q 0 st1))) := by
  have m1 : mTk kk A = (true, u2 A 0 5 (A 0 5 + 1)) := by unfold mTk; rw [if_pos hk0]
  rw [m1, bd_t rfl] at hq hG
  have f1 := fxt_at (A := A) (v := A 0 5 + 1) (by omega)
  have a15 : u2 A 0 5 (A 0 5 + 1) 0 5 = A 0 5 + 1 := by rw [u2_a, if_pos ⟨rfl, rfl⟩]
  have hq : RO n tp s0 P op q0 c0 g0 h0 pd ph (k + 2) Q (bd (mCmp 400 (gCs x (u2 A 0 5 (A 0 5 + 1)))) fun A => bd (mBO blk 8 x (gInc 8 (gN x A))) g) := hq
  have hG : ∀ A5 s5 q, (bd (mCmp 400 (gCs x (u2 A 0 5 (A 0 5 + 1)))) fun A => bd (mBO blk 8 x (gInc 8 (gN x A))) g) = g A5 → RP n tp s0 P (fun a => op a ∨ a = y) q0 c0 g0 h0 pd ph 0 (k + 3) A5 s5 → q0 ≤ q → q + 1 ≤ A5 0 8 → A 0 3 ≤ A5 0 3 → 1 ≤ A5 0 5 → (A5 0 6 = 0 → q = A 0 8 ∧ A 0 6 = 0 ∧ A5 20 y = A 0 9 ∧ gI s5 75 (4 * q) = nI (189 + kk) ∧ gI s5 75 (4 * q + 1) = nI (A 0 9) ∧ A5 0 9 ≥ A 0 9 + A5 21 y + 1 ∧ rCmp A5 (gI s5 76) (A5 21 y) (A 0 5 + 1) (A 0 9) ∧ (∀ a, a < A5 0 3 → ¬ (op a ∨ a = y) → A5 19 a ≤ q ∨ q + 1 ≤ A5 18 a) ∧ A 0 5 + 4 * A5 21 y + 4 ≤ A5 0 5 ∧ A5 12 y = A 12 y ∧ ∀ i, A5 10 i = A 10 i) → G (nI q) 1 s5 := hG
  have hRD : A 0 6 = 0 → ∀ a, a < A 0 3 → ¬ (op a ∨ a = y) → A 19 a ≤ A 0 8 := fun e a ha ho => by
    have := ((h.2.2.2.2.2.2.2 e).2.2.2.2.2.2 a ha ho).1.2.2.1
    exact this
  generalize u2 A 0 5 (A 0 5 + 1) = A1 at h hq hG f1 a15
  obtain ⟨Ac, ec⟩ : ∃ Ac, Ac = gCs x A1 := ⟨_, rfl⟩
  have hc : RP n tp s0 P (fun a => op a ∨ a = y) q0 c0 g0 h0 pd ph 0 (k + 1) Ac st := by rw [ec]; exact h.g (r := 20) (Or.inl (by unfold ar; omega)) (by omega) (Or.inl (Or.inr hy.symm))
  rw [← ec] at hq hG
  have cs : ∀ r j, (r ≠ 20 ∨ j ≠ x - 1) → Ac r j = A1 r j := fun r j w => by rw [ec]; unfold gCs gSet; rw [u2_a, if_neg (by omega)]
  have c20 : Ac 20 (x - 1) = A1 0 9 := by rw [ec]; unfold gCs gSet; rw [u2_a, if_pos ⟨rfl, rfl⟩]
  clear ec
  have c5 := cs 0 5 (by omega)
  have c9 := cs 0 9 (by omega)
  have c8 := cs 0 8 (by omega)
  have c3 := cs 0 3 (by omega)
  have c6 := cs 0 6 (by omega)
  have a18 : A1 0 8 = A 0 8 := f1.2.2.2.1
  have a19 : A1 0 9 = A 0 9 := f1.2.2.2.2.2
  have a13 : A1 0 3 = A 0 3 := f1.2.2.1
  have hcn := hc.2.1
  refine r_row ⟨hP.1, hP.2.1, hP.2.2.2⟩ (by omega) hc (fun t2 s2 h2 hr2 => ?_) (fun t2 s2 h2 => ⟨fun w => absurd rfl w, fun _ => ?_⟩)
  · rw [bd_t t2] at hq hG
    have pc : (mCmp 400 Ac).2 0 6 = 0 → ∃ c, FxT (c + 1) Ac (mCmp 400 Ac).2 ∧ (mCmp 400 Ac).2 0 5 = Ac 0 5 + 4 * c + 3 := fun e => p_cmp (F := fun A' => ∃ c, FxT (c + 1) Ac A' ∧ A' 0 5 = Ac 0 5 + 4 * c + 3) hcn.nf hcn.1 hcn.tl (fun A' c f _ e5 _ _ => ⟨c, f, e5⟩) t2 e
    have fc := fx_cmp (f := 400) Ac
    have moc := mo_cmp (f := 400) Ac
    generalize (mCmp 400 Ac).2 = A2 at h2 hr2 hq hG pc fc moc
    have lt9 : A1 0 9 < 2 ^ 20 := by have := hc.2.2.1.2.2.2.2; have := hcn.1; have := hcn.2.1; omega
    refine ⟨fun _ => ?_, fun w => absurd w (by rw [c9]; exact nI_100 (by omega))⟩
    obtain ⟨An, en⟩ : ∃ An, An = gN x A2 := ⟨_, rfl⟩
    have hn : RP n tp s0 P (fun a => op a ∨ a = y) q0 c0 g0 h0 pd ph 0 (k + 3) An s2 := by rw [en]; exact h2.g (r := 21) (Or.inl (by unfold ar; omega)) (by omega) (Or.inl (Or.inr hy.symm))
    have hq : RO n tp s0 P op q0 c0 g0 h0 pd ph (k + 2) Q (bd (mBO blk 8 x (gInc 8 An)) g) := by rw [en]; exact hq
    have ns : ∀ r j, (r ≠ 21 ∨ j ≠ x - 1) → An r j = A2 r j := fun r j w => by rw [en]; unfold gN gSet; rw [u2_a, if_neg (by omega)]
    have n21 : An 21 (x - 1) = A2 0 9 - A2 20 (x - 1) - 1 := by rw [en]; unfold gN gSet; rw [u2_a, if_pos ⟨rfl, rfl⟩]
    rw [← en] at hG
    clear en
    have n8 := ns 0 8 (by omega)
    have n3 := ns 0 3 (by omega)
    have n5 := ns 0 5 (by omega)
    have n9 := ns 0 9 (by omega)
    have n6 := ns 0 6 (by omega)
    refine r_put (k := k + 2) ⟨hP.2.1, hP.2.2.1⟩ hn (fun s3 h3 o0 o1 o2 ok oth j1 => ?_)
    obtain ⟨A3, e3⟩ : ∃ A3, A3 = gInc 8 An := ⟨_, rfl⟩
    rw [← e3] at h3 hq hG
    have i8 : A3 0 8 = An 0 8 + 1 := by rw [e3]; unfold gInc; rw [u2_a, if_pos ⟨rfl, rfl⟩]
    have is : ∀ r j, (r ≠ 0 ∨ j ≠ 8) → A3 r j = An r j := fun r j w => by rw [e3]; unfold gInc; rw [u2_a, if_neg (by omega)]
    clear e3
    have i3 := is 0 3 (by omega)
    have i5 := is 0 5 (by omega)
    have i9 := is 0 9 (by omega)
    have i6 := is 0 6 (by omega)
    have an3 := h3.2.2.2.2.2.2.1
    have fxm := mo_tk (k := 0) A
    have at2 := fc.2.1
    have no3 : A3 0 6 = 0 → A 0 6 = 0 ∧ ∃ c, FxT (c + 1) Ac A2 ∧ A2 0 6 = 0 ∧ A2 0 5 = Ac 0 5 + 4 * c + 3 := fun e => by
      have e2 : A2 0 6 = 0 := by rw [← n6, ← i6]; exact e
      have e1 := fc.e0 e2
      rw [c6] at e1
      obtain ⟨c, q, e5⟩ := pc e2
      exact ⟨f1.1.e0 e1, c, q, e2, e5⟩
    have b3 : A 0 3 ≤ A3 0 3 := by omega
    have anH := hn.2.2.2.2.2.2.1
    refine hS (fun a => op a ∨ a = y) (A3 0 8) (A3 0 9) (gI s3 75) (gI s3 76) (k + 2) x A3 s3 _ (fun a ha => ?_) (fun e => ?_) (by omega) h3.re ⟨fun t4 s4 h4 => ?_, fun t4 s4 h4 => ?_⟩
    · rcases ha with w | w
      · have := hol a w; omega
      · omega
    · obtain ⟨e0, c, q, e2, e5⟩ := no3 e
      obtain ⟨⟨u1, u2', u3, u4, u5, u6⟩, u7⟩ := hAH e0
      refine ⟨fun w => by omega, fun _ => ⟨by omega, ?_⟩⟩
      rw [is 12 _ (by omega), ns 12 _ (by omega), q.2.1 12 _ (by unfold ar; omega), cs 12 _ (by omega), f1.2.1 12 _ (by unfold ar; omega)]
      exact u7
    · refine ⟨fun _ => ?_, fun w => absurd w (by decide)⟩
      have an4 := h4.2.2.2.2.2.2.1
      have pb : (blk x A3).2 0 6 = 0 → A3 0 6 = 0 → BQ x dp A3 (blk x A3).2 := fun e e3 => by
        obtain ⟨e0, c, q, e2, e5⟩ := no3 e3
        obtain ⟨⟨u1, u2', u3, u4, u5, u6⟩, u7⟩ := hAH e0
        refine hPb (F := fun A' => BQ x dp A3 A') h3.2.1.nf h3.2.1.1 h3.2.1.tl (fun w => by omega) (fun _ => ⟨by omega, ?_⟩) (fun A' b _ _ => b) t4 e
        rw [is 12 _ (by omega), ns 12 _ (by omega), q.2.1 12 _ (by unfold ar; omega), cs 12 _ (by omega), f1.2.1 12 _ (by unfold ar; omega)]
        exact u7
      have tB : (mBO blk 8 x A3).1 = true := t4
      have f34 := hb x A3
      have m34 := hmo x A3
      have z3 := bo_0 (A := A3) (blk := blk) (r := 8) (x := x) (by omega) 3
      have z5 := bo_0 (A := A3) (blk := blk) (r := 8) (x := x) (by omega) 5
      have z6 := bo_0 (A := A3) (blk := blk) (r := 8) (x := x) (by omega) 6
      have z8 := bo_0 (A := A3) (blk := blk) (r := 8) (x := x) (by omega) 8
      have z9 := bo_0 (A := A3) (blk := blk) (r := 8) (x := x) (by omega) 9
      have hB := (h4.ba (q0 := q0) (c0 := c0) (g0 := g0) (h0 := h0) an3.2.1 an3.2.2.2 (fun i hi => an3.1 i hi) (fun i hi => an3.2.2.1 i hi)).bo (r := 8) hy (Or.inl rfl)
      have at3 := f34.2.1
      refine hG (mBO blk 8 x A3).2 s4 (An 0 8) (bd_t tB) hB anH.2.1 (by have := an4.2.1; omega) (by omega) (by omega) (fun e => ?_)
      rw [z6] at e
      have e3 := f34.e0 e
      have B := pb e e3
      obtain ⟨e0, c, q, e2, e5⟩ := no3 e3
      obtain ⟨⟨u1, u2', u3, u4, u5, u6⟩, u7⟩ := hAH e0
      have hx0 : x ≠ 0 := by omega
      obtain ⟨c', hc1, hc2⟩ := hr2 e2
      have c29 := q.2.2.2.2.2
      have cc : c' = c := by omega
      rw [cc] at hc2
      have vs : ∀ r j, (r ≠ 8 ∨ j ≠ x - 1) → (mBO blk 8 x A3).2 r j = (blk x A3).2 r j := fun r j w => by
        rw [bo_x hx0]
        show u2 (blk x A3).2 8 (x - 1) _ r j = _
        rw [u2_a, if_neg (by omega)]
      have row : ∀ r, ar r → r ≠ 8 → r ≠ 7 → (mBO blk 8 x A3).2 r (x - 1) = An r (x - 1) := fun r hr w w7 => by
        rw [vs r _ (by omega), B.1.2.1 r _ hr (by omega), is r _ (by unfold ar at hr; omega)]
      generalize (mBO blk 8 x A3).2 = A5 at vs row z3 z5 z6 z8 z9
      have w20 : A5 20 (x - 1) = A 0 9 := by rw [row 20 (by unfold ar; omega) (by omega) (by omega), ns 20 _ (by omega), q.2.1 20 _ (by unfold ar; omega), c20, a19]
      have w220 : A2 20 (x - 1) = A 0 9 := by rw [q.2.1 20 _ (by unfold ar; omega), c20, a19]
      have w21 : A5 21 (x - 1) = c := by rw [row 21 (by unfold ar; omega) (by omega) (by omega), n21, w220]; omega
      have q8 : An 0 8 = A 0 8 := by rw [n8, q.2.2.2.1, c8, a18]
      have B9 := B.1.2.2.2.2.2
      have x3 : A3 0 3 = x := by rw [i3, n3, q.2.2.1, c3, a13]; exact u5
      have k10 : ∀ i, (blk x A3).2 10 i = A2 10 i := fun i => by rw [B.1.1.1 10 i (by unfold fxr; omega), is 10 i (by omega), ns 10 i (by omega)]
      refine ⟨q8, e0, by rw [hy]; exact w20, ?_, ?_, by rw [hy]; omega, ?_, fun a ha ho => ?_, by rw [hy]; omega, ?_, fun i => ?_⟩
      · rw [an4.1 _ (by omega)]; exact o0
      · rw [an4.1 _ (by omega), o1, c9, a19]
      · rw [hy, w21]
        have hc2 : rCmp A2 (gI s2 76) c (A 0 5 + 1) (A 0 9) := by rw [← a15, ← a19, ← c5, ← c9]; exact hc2
        refine rCmp_cg (T := A2 0 5) (C := A3 0 9) (fun i => by rw [vs 10 i (by omega), k10]) (fun i hi => ?_) (fun j hj => ?_) (by omega) (by omega) hc2
        · rw [vs 11 i (by omega), B.1.2.2.2.2.1 i (by omega), is 11 i (by omega), ns 11 i (by omega)]
        · rw [an4.2.2.1 j (by omega)]
          exact congrFun (oth 76 (by omega) (by omega)) j
      · by_cases hax : a < x
        · have hne : a ≠ x - 1 := fun w => ho (Or.inr (by omega))
          have := hRD e0 a (by omega) ho
          refine Or.inl ?_
          rw [vs 19 a (by omega), B.1.2.1 19 a ar19 (by omega), is 19 a (by omega), ns 19 a (by omega), q.2.1 19 a ar19, cs 19 a (by omega), f1.2.1 19 a ar19]
          omega
        · have := (B.2.2.2.2 a (by omega) (by omega)).2.1
          refine Or.inr ?_
          rw [vs 18 a (by omega)]
          omega
      · rw [hy, row 12 (by unfold ar; omega) (by omega) (by omega), ns 12 _ (by omega), q.2.1 12 _ (by unfold ar; omega), cs 12 _ (by omega), f1.2.1 12 _ (by unfold ar; omega)]
      · rw [vs 10 i (by omega), k10, q.1.1 10 i (by unfold fxr; omega), cs 10 i (by omega), f1.1.1 10 i (by unfold fxr; omega)]
    · refine ⟨fun w => absurd rfl w, fun _ => ?_⟩
      have bf : (mBO blk 8 x A3).1 = false := t4
      rw [bd_f bf] at hq
      refine hq.2 rfl s4 ⟨h4.1, ?_⟩
      show gI s4 68 13 = nI (tfr n tp ((mBO blk 8 x A3).2 0 5))
      rw [bo_0 (by omega)]
      exact h4.2
  · rw [bd_f t2] at hq
    exact hq.2 rfl s2 h2
/-- a loop -/
theorem ra_while {blk : Nat → Bk → Bool × Bk} {wb : St → (Int32 → St → Prop) → Prop} {x dp : Nat} (hP : P 68 ∧ P 70 ∧ P 75 ∧ P 76) (hb : ∀ o, Fx (blk o)) (hmo : ∀ o, Mo (blk o)) (hPb : BP blk dp) (hS : SBk n tp s0 P pd ph wb blk dp) (hy : y = x - 1) (hyl : y < A 0 3) (hol : ∀ a, op a → a < A 0 3) (hAH : A 0 6 = 0 → AH x A ∧ dp = A 12 (x - 1) + 1) (hk0 : A 10 (A 0 5) = 22)
    (h : RP n tp s0 P (fun a => op a ∨ a = y) q0 c0 g0 h0 pd ph 0 (k + 1) (u2 A 0 5 (A 0 5 + 1)) st) (hAN : AN x A (mWhile blk x A)) (hq : RO n tp s0 P op q0 c0 g0 h0 pd ph (k + 2) Q (mWhile blk x A)) :
    wX11_row 68 st (fun r2 st1 => ((¬ r2 = (-100) → (wX10_put 70 211 r2 0 st1 (fun r4 st3 => (wb st3 (fun r6 st5 => ((¬ r6 = 0 → (wX10_put 70 300 r4 0 st5 (fun r8 st7 => (vp_in (((4 : Int32) * r4) + 3) 1600 ∧ ∀ st9, st9 = uI st7 75 (((4 : Int32) * r4) + 3 : Int32).toNatClampNeg (gI st7 70 9) → Q 1 st9)))) ∧ (r6 = 0 → Q 0 st5))))))) ∧ (r2 = (-100) → Q 0 st1))) := by
  unfold mWhile at hAN hq
  refine ra_head (kk := 22) (x := x) (dp := dp) (g := fun A => (true, gPe x (gInc 8 A))) (G := fun r4 _ st5 => (wX10_put 70 300 r4 0 st5 (fun r8 st7 => (vp_in (((4 : Int32) * r4) + 3) 1600 ∧ ∀ st9, st9 = uI st7 75 (((4 : Int32) * r4) + 3 : Int32).toNatClampNeg (gI st7 70 9) → Q 1 st9)))) hP hb hmo hPb hS hy hyl hol hAH hk0 (Or.inl rfl) h hq (fun A5 s5 q eA h5 hq0 hq8 h3 h5' hf => ?_)
  rw [eA] at hAN hq
  have an5 := h5.2.2.2.2.2.2.1
  refine r_put (k := k + 2) ⟨hP.2.1, hP.2.2.1⟩ h5 (fun s6 h6 o0 o1 o2 ok oth j1 => ?_)
  have lt8 : A5 0 8 ≤ 400 := by have := h5.2.2.1.2.2.2.2; have := h5.2.1.1; have := h5.2.1.2.1; omega
  rw [show (4 : Int32) * nI q = nI (4 * q) from pk_mul 4 _, show nI (4 * q) + 3 = nI (4 * q + 3) from nI_add _ 3, nI_clamp (by omega)]
  refine ⟨(vin_iff (by omega)).mpr (by omega), ?_⟩
  intro s7 e7
  have g9 : gI s6 70 9 = nI (A5 0 8 + 1) := by
    have := h6.2.2.2.1.2.2.2.2.1
    rw [this]; unfold gInc; rw [u2_a, if_pos ⟨rfl, rfl⟩]
  rw [g9] at e7
  have h7 : RP n tp s0 P (fun a => op a ∨ a = y) q0 c0 g0 h0 pd ph 0 (k + 2) (gInc 8 A5) s7 := h6.pat hP.2.2.1 e7 (by omega) (by omega) (fun e a ha ho => by
    have := (hf e).2.2.2.2.2.2.2.1 a ha ho
    show ¬ (4 * A5 18 a ≤ 4 * q + 3 ∧ 4 * q + 3 < 4 * A5 19 a)
    omega)
  have h8 : RP n tp s0 P (fun a => op a ∨ a = y) q0 c0 g0 h0 pd ph 0 (k + 2) (gPe x (gInc 8 A5)) s7 := h7.g (r := 19) (Or.inl ar19) (by omega) (Or.inl (Or.inr hy.symm))
  refine hq.1 rfl s7 (h8.cl (fun e => ?_))
  obtain ⟨b1, b2, b3⟩ := hAN.bd rfl e
  have b1 : BDa (gPe x (gInc 8 A5)) (x - 1) := b1
  have b2 : gPe x (gInc 8 A5) 18 (x - 1) = A 0 8 := b2
  have b3 : gPe x (gInc 8 A5) 5 (x - 1) = A 0 5 := b3
  have e : A5 0 6 = 0 := e
  obtain ⟨f1, f2, f3, f4, f5, f6, f7, f8, fT, f12, f9⟩ := hf e
  have v19 : gPe x (gInc 8 A5) 19 (x - 1) = A5 0 8 + 1 := by unfold gPe gInc gSet; rw [u2_a, if_pos ⟨rfl, rfl⟩, u2_a, if_pos ⟨rfl, rfl⟩]
  have vs : ∀ r j, (r ≠ 0 ∨ j ≠ 8) → (r ≠ 19 ∨ j ≠ x - 1) → gPe x (gInc 8 A5) r j = A5 r j := fun r j w1 w2 => by unfold gPe gInc gSet; rw [u2_a, if_neg (by omega), u2_a, if_neg (by omega)]
  generalize gPe x (gInc 8 A5) = A6 at b1 b2 b3 v19 vs
  rw [hy] at f3 f6 f7 ⊢
  have k22 : A6 10 (A 0 5) = 22 := by rw [vs 10 _ (by omega) (by omega), f9]; exact hk0
  have og : ∀ i, i ≠ 4 * q + 3 → gI s7 75 i = gI s6 75 i := fun i hi => by rw [e7, gI_uI, if_neg (by omega)]
  have cg : ∀ i, gI s7 76 i = gI s5 76 i := fun i => by rw [e7, gI_uI, if_neg (by omega)]; exact congrFun (oth 76 (by omega) (by omega)) i
  refine ⟨b1, ?_⟩
  unfold GFa
  rw [b2, b3, k22, v19, vs 20 _ (by omega) (by omega), vs 21 _ (by omega) (by omega), f3, ← f1]
  refine ⟨?_, fun w => by omega, fun w => by omega, fun w => by omega, fun _ => ⟨?_, ?_⟩, fun _ => ⟨?_, ?_, ?_⟩, fun w => by omega⟩
  · rw [og _ (by omega), ok _ (by omega)]; exact f4
  · rw [og _ (by omega), ok _ (by omega)]; exact f5
  · exact rCmp_cg (T := A 0 5 + 1 + 4 * A5 21 (x - 1) + 3) (C := A 0 9 + A5 21 (x - 1) + 1) (fun i => vs 10 i (by omega) (by omega)) (fun i _ => vs 11 i (by omega) (by omega)) (fun j _ => cg j) (by omega) (by omega) f7
  · rw [e7, gI_uI, if_pos ⟨rfl, rfl⟩]
  · rw [og _ (by omega), show A5 0 8 + 1 - 1 = A5 0 8 by omega]; exact o0
  · rw [og _ (by omega), show A5 0 8 + 1 - 1 = A5 0 8 by omega]; exact o1
/-- a choice -/
theorem ra_if {blk : Nat → Bk → Bool × Bk} {wb : St → (Int32 → St → Prop) → Prop} {x dp : Nat} (hP : P 68 ∧ P 70 ∧ P 75 ∧ P 76) (hb : ∀ o, Fx (blk o)) (hmo : ∀ o, Mo (blk o)) (hPb : BP blk dp) (hS : SBk n tp s0 P pd ph wb blk dp) (hy : y = x - 1) (hyl : y < A 0 3) (hol : ∀ a, op a → a < A 0 3) (hAH : A 0 6 = 0 → AH x A ∧ dp = A 12 (x - 1) + 1) (hk0 : A 10 (A 0 5) = 23)
    (h : RP n tp s0 P (fun a => op a ∨ a = y) q0 c0 g0 h0 pd ph 0 (k + 1) (u2 A 0 5 (A 0 5 + 1)) st) (hAN : AN x A (mIf blk x A)) (hq : RO n tp s0 P op q0 c0 g0 h0 pd ph (k + 2) Q (mIf blk x A))
    (L : Int32 → Int32 → St → Prop)
    (hL : ∀ v3 s0' st, (vp_in (((4 : Int32) * v3) + 3) 1600 ∧ ∀ st9, st9 = uI st 75 (((4 : Int32) * v3) + 3 : Int32).toNatClampNeg (gI st 70 9) → ((¬ s0' = (-1) → (wX11_next 68 st9 (fun st10 => (wb st10 (fun r12 st11 => ((¬ r12 = 0 → (vp_in (((4 : Int32) * s0') + 1) 1600 ∧ ∀ st13, st13 = uI st11 75 (((4 : Int32) * s0') + 1 : Int32).toNatClampNeg (gI st11 70 9) → Q 1 st13)) ∧ (r12 = 0 → Q 0 st11))))))) ∧ (s0' = (-1) → Q 1 st9))) → L v3 s0' st) :
    wX11_row 68 st (fun r2 st1 => ((¬ r2 = (-100) → (wX10_put 70 212 r2 0 st1 (fun r4 st3 => (wb st3 (fun r6 st5 => ((¬ r6 = 0 → ((¬ (gI st5 68 6) = 213 → L r4 (-1) st5) ∧ ((gI st5 68 6) = 213 → (wX10_put 70 300 0 0 st5 (fun r8 st7 => L r4 r8 st7))))) ∧ (r6 = 0 → Q 0 st5))))))) ∧ (r2 = (-100) → Q 0 st1))) := by
  unfold mIf at hAN hq
  refine ra_head (kk := 23) (x := x) (dp := dp) (g := fun A => mElse blk x (gIe x A)) (G := fun r4 _ st5 => ((¬ (gI st5 68 6) = 213 → L r4 (-1) st5) ∧ ((gI st5 68 6) = 213 → (wX10_put 70 300 0 0 st5 (fun r8 st7 => L r4 r8 st7))))) hP hb hmo hPb hS hy hyl hol hAH hk0 (Or.inr rfl) h hq (fun A5 s5 q eA h5 hq0 hq8 h3 h5' hf => ?_)
  rw [eA] at hAN hq
  have hAN : AN x A (mElse blk x (gIe x A5)) := hAN
  have hq : RO n tp s0 P op q0 c0 g0 h0 pd ph (k + 2) Q (mElse blk x (gIe x A5)) := hq
  have an5 := h5.2.2.2.2.2.2.1
  obtain ⟨k1, k2⟩ := r_kd h5
  rw [k1, show (213 : Int32) = nI (rkd 24) from rfl, rkd_iff k2 (by omega)]
  have lt8 : A5 0 8 + 3 ≤ 400 := by have := h5.2.2.1.2.2.2.2; have := h5.2.1.1; have := h5.2.1.2.1; omega
  obtain ⟨A6, e6⟩ : ∃ A6, A6 = gIe x A5 := ⟨_, rfl⟩
  have h6 : RP n tp s0 P (fun a => op a ∨ a = y) q0 c0 g0 h0 pd ph 0 (k + 3) A6 s5 := by rw [e6]; exact h5.g (r := 24) (Or.inr (by omega)) (by omega) (Or.inl (Or.inr hy.symm))
  have v24 : A6 24 (x - 1) = A5 0 8 := by rw [e6]; unfold gIe gSet; rw [u2_a, if_pos ⟨rfl, rfl⟩]
  have ss : ∀ r j, (r ≠ 24 ∨ j ≠ x - 1) → A6 r j = A5 r j := fun r j w => by rw [e6]; unfold gIe gSet; rw [u2_a, if_neg (by omega)]
  rw [← e6] at hAN hq
  clear e6
  have s8 := ss 0 8 (by omega)
  have s5' := ss 0 5 (by omega)
  have s6 := ss 0 6 (by omega)
  have s3 := ss 0 3 (by omega)
  have s9 := ss 0 9 (by omega)
  have s10 : ∀ i, A6 10 i = A5 10 i := fun i => ss 10 i (by omega)
  unfold mElse at hAN hq
  rw [s5', s10] at hAN hq
  refine ⟨fun w => hL _ _ _ ?_, fun w => ?_⟩
  · rw [if_neg w] at hAN hq
    have a9 := h5.2.2.2.1.2.2.2.2.1
    rw [a9, show (4 : Int32) * nI q = nI (4 * q) from pk_mul 4 _, show nI (4 * q) + 3 = nI (4 * q + 3) from nI_add _ 3, nI_clamp (by omega)]
    refine ⟨(vin_iff (by omega)).mpr (by omega), ?_⟩
    intro s7 e7
    refine ⟨fun z => absurd rfl z, fun _ => ?_⟩
    have h7 : RP n tp s0 P (fun a => op a ∨ a = y) q0 c0 g0 h0 pd ph 0 (k + 3) A6 s7 := h6.pat hP.2.2.1 e7 (by omega) (by omega) (fun e a ha ho => by
      have := (hf (by rw [← s6]; exact e)).2.2.2.2.2.2.2.1 a (by omega) ho
      by_cases hx : a = x - 1
      · exact absurd (Or.inr (by omega)) ho
      · rw [ss 18 a (by omega), ss 19 a (by omega)]
        omega)
    have h8 : RP n tp s0 P (fun a => op a ∨ a = y) q0 c0 g0 h0 pd ph 0 (k + 3) (gPe x (gEx x A6)) s7 := (h7.g (r := 22) (Or.inl (by unfold ar; omega)) (by omega) (Or.inl (Or.inr hy.symm))).g (r := 19) (Or.inl ar19) (by omega) (Or.inl (Or.inr hy.symm))
    refine hq.1 rfl s7 ((h8.cl (fun e => ?_)).km (by omega))
    obtain ⟨b1, b2, b3⟩ := hAN.bd rfl e
    have b1 : BDa (gPe x (gEx x A6)) (x - 1) := b1
    have b2 : gPe x (gEx x A6) 18 (x - 1) = A 0 8 := b2
    have b3 : gPe x (gEx x A6) 5 (x - 1) = A 0 5 := b3
    have e : A6 0 6 = 0 := e
    rw [s6] at e
    obtain ⟨f1, f2, f3, f4, f5, f6, f7, f8, fT, f12, f9⟩ := hf e
    have v22 : gPe x (gEx x A6) 22 (x - 1) = A5 0 8 := by unfold gPe gEx gSet; rw [u2_a, if_neg (by omega), u2_a, if_pos ⟨rfl, rfl⟩, s8]
    have vs : ∀ r j, (r ≠ 22 ∨ j ≠ x - 1) → (r ≠ 19 ∨ j ≠ x - 1) → gPe x (gEx x A6) r j = A6 r j := fun r j w1 w2 => by unfold gPe gEx gSet; rw [u2_a, if_neg (by omega), u2_a, if_neg (by omega)]
    generalize gPe x (gEx x A6) = A7 at b1 b2 b3 v22 vs
    rw [hy] at f3 f6 f7 ⊢
    have k23 : A7 10 (A 0 5) = 23 := by rw [vs 10 _ (by omega) (by omega), s10, f9]; exact hk0
    have og : ∀ i, i ≠ 4 * q + 3 → gI s7 75 i = gI s5 75 i := fun i hi => by rw [e7, gI_uI, if_neg (by omega)]
    have cg : ∀ i, gI s7 76 i = gI s5 76 i := fun i => by rw [e7, gI_uI, if_neg (by omega)]
    refine ⟨b1, ?_⟩
    unfold GFa
    rw [b2, b3, k23, v22, vs 24 _ (by omega) (by omega), v24, vs 20 _ (by omega) (by omega), vs 21 _ (by omega) (by omega), ss 20 _ (by omega), ss 21 _ (by omega), f3, ← f1]
    refine ⟨?_, fun w => by omega, fun w => by omega, fun w => by omega, fun _ => ⟨?_, ?_⟩, fun w => by omega, fun _ => ⟨?_, fun w => by omega⟩⟩
    · rw [og _ (by omega)]; exact f4
    · rw [og _ (by omega)]; exact f5
    · exact rCmp_cg (T := A 0 5 + 1 + 4 * A5 21 (x - 1) + 3) (C := A 0 9 + A5 21 (x - 1) + 1) (fun i => by rw [vs 10 i (by omega) (by omega), s10]) (fun i _ => by rw [vs 11 i (by omega) (by omega), ss 11 i (by omega)]) (fun j _ => cg j) (by omega) (by omega) f7
    · rw [e7, gI_uI, if_pos ⟨rfl, rfl⟩]
  · rw [if_pos w] at hAN hq
    refine r_put (k := k + 2) ⟨hP.2.1, hP.2.2.1⟩ h6 (fun s7 h7 o0 o1 o2 ok oth j1 => hL _ _ _ ?_)
    have g9 := h7.2.2.2.1.2.2.2.2.1
    have i8 : gInc 8 A6 0 8 = A5 0 8 + 1 := by unfold gInc; rw [u2_a, if_pos ⟨rfl, rfl⟩, s8]
    rw [i8] at g9
    rw [g9, show (4 : Int32) * nI q = nI (4 * q) from pk_mul 4 _, show nI (4 * q) + 3 = nI (4 * q + 3) from nI_add _ 3, nI_clamp (by omega)]
    refine ⟨(vin_iff (by omega)).mpr (by omega), ?_⟩
    intro s8' e8
    refine ⟨fun _ => ?_, fun z => absurd z (fun y => (ne_m1 (by omega)).mp y)⟩
    have fin5 : A5 0 6 = 0 → ∀ a, a < A5 0 3 → ¬ (op a ∨ a = y) → A5 19 a ≤ A5 0 8 := fun e a ha ho => ((h5.2.2.2.2.2.2.2 e).2.2.2.2.2.2 a ha ho).1.2.2.1
    have gs : ∀ r j, (r ≠ 0 ∨ j ≠ 8) → gInc 8 A6 r j = A6 r j := fun r j w => by unfold gInc; rw [u2_a, if_neg (by omega)]
    have h8 : RP n tp s0 P (fun a => op a ∨ a = y) q0 c0 g0 h0 pd ph 0 (k + 2) (gInc 8 A6) s8' := h7.pat hP.2.2.1 e8 (by omega) (by omega) (fun e a ha ho => by
      have := (hf (by rw [← s6]; exact e)).2.2.2.2.2.2.2.1 a (by rw [← s3]; exact ha) ho
      by_cases hx : a = x - 1
      · exact absurd (Or.inr (by omega)) ho
      · rw [gs 18 a (by omega), gs 19 a (by omega), ss 18 a (by omega), ss 19 a (by omega)]
        omega)
    obtain ⟨A7, e7⟩ : ∃ A7, A7 = gEx x (gInc 8 A6) := ⟨_, rfl⟩
    have h9 : RP n tp s0 P (fun a => op a ∨ a = y) q0 c0 g0 h0 pd ph 0 (k + 2) A7 s8' := by rw [e7]; exact h8.g (r := 22) (Or.inl (by unfold ar; omega)) (by omega) (Or.inl (Or.inr hy.symm))
    have v22 : A7 22 (x - 1) = A5 0 8 + 1 := by rw [e7]; unfold gEx gSet; rw [u2_a, if_pos ⟨rfl, rfl⟩, i8]
    have v8 : A7 0 8 = A5 0 8 + 1 := by rw [e7]; unfold gEx gSet; rw [u2_a, if_neg (by omega), i8]
    have vs : ∀ r j, (r ≠ 0 ∨ j ≠ 8) → (r ≠ 22 ∨ j ≠ x - 1) → A7 r j = A6 r j := fun r j w1 w2 => by rw [e7]; unfold gEx gSet; rw [u2_a, if_neg (by omega), gs r j w1]
    rw [← e7] at hAN hq
    clear e7
    have k24 : A7 10 (A7 0 5) = 24 := by rw [vs 0 5 (by omega) (by omega), vs 10 _ (by omega) (by omega), s5', s10]; exact w
    have m7 : mTk 24 A7 = (true, u2 A7 0 5 (A7 0 5 + 1)) := by unfold mTk; rw [if_pos k24]
    rw [m7, bd_t rfl] at hAN hq
    have f78 := fxt_at (A := A7) (v := A7 0 5 + 1) (by omega)
    refine r_nx hP.1 h9 (by omega) (by omega) (fun s9' h10 hF => ?_)
    have a85 : u2 A7 0 5 (A7 0 5 + 1) 0 5 = A7 0 5 + 1 := by rw [u2_a, if_pos ⟨rfl, rfl⟩]
    have hAN : AN x A (bd (mBO blk 9 x (u2 A7 0 5 (A7 0 5 + 1))) fun A => (true, gPe x A)) := hAN
    have hq : RO n tp s0 P op q0 c0 g0 h0 pd ph (k + 2) Q (bd (mBO blk 9 x (u2 A7 0 5 (A7 0 5 + 1))) fun A => (true, gPe x A)) := hq
    generalize u2 A7 0 5 (A7 0 5 + 1) = A8 at h10 hAN hq f78 a85
    have an8 := h10.2.2.2.2.2.2.1
    have t88 : A8 0 8 = A5 0 8 + 1 := by rw [f78.2.2.2.1, v8]
    have t83 : A8 0 3 = A5 0 3 := by rw [f78.2.2.1, vs 0 3 (by omega) (by omega), s3]
    have t89 : A8 0 9 = A5 0 9 := by rw [f78.2.2.2.2.2, vs 0 9 (by omega) (by omega), s9]; rfl
    have t86 : A8 0 6 = 0 → A5 0 6 = 0 := fun e => by
      have := f78.1.e0 e
      rw [vs 0 6 (by omega) (by omega), s6] at this; exact this
    have dps : A5 0 6 = 0 → 1 ≤ x ∧ x ≤ A8 0 3 ∧ dp = A8 12 (x - 1) + 1 := fun e => by
      obtain ⟨f1, f2, f3, f4, f5, f6, f7, f8, fT, f12, f9⟩ := hf e
      obtain ⟨⟨u1, u2', u3, u4, u5, u6⟩, u7⟩ := hAH f2
      refine ⟨u4, by omega, ?_⟩
      rw [f78.2.1 12 _ (by unfold ar; omega), vs 12 _ (by omega) (by omega), ss 12 _ (by omega), ← hy, f12, hy]
      exact u7
    refine hS (fun a => op a ∨ a = y) (A8 0 8) (A8 0 9) (gI s9' 75) (gI s9' 76) (k + 3) x A8 s9' _ (fun a ha => ?_) (fun e => ?_) (by omega) h10.re ⟨fun t4 s4 h4 => ?_, fun t4 s4 h4 => ?_⟩
    · rcases ha with w | w
      · have := hol a w; omega
      · omega
    · obtain ⟨d1, d2, d3⟩ := dps (t86 e)
      exact ⟨fun w => by omega, fun _ => ⟨d2, d3⟩⟩
    · refine ⟨fun _ => ?_, fun w => absurd w (by decide)⟩
      have an4 := h4.2.2.2.2.2.2.1
      have tB : (mBO blk 9 x A8).1 = true := t4
      rw [bd_t tB] at hAN hq
      have f34 := hb x A8
      have m34 := hmo x A8
      have pb : (blk x A8).2 0 6 = 0 → BQ x dp A8 (blk x A8).2 := fun e => by
        obtain ⟨d1, d2, d3⟩ := dps (t86 (f34.e0 e))
        exact hPb (F := fun A' => BQ x dp A8 A') h10.2.1.nf h10.2.1.1 h10.2.1.tl (fun w => by omega) (fun _ => ⟨d2, d3⟩) (fun A' b _ _ => b) t4 e
      have z3 := bo_0 (A := A8) (blk := blk) (r := 9) (x := x) (by omega) 3
      have z6 := bo_0 (A := A8) (blk := blk) (r := 9) (x := x) (by omega) 6
      have z8 := bo_0 (A := A8) (blk := blk) (r := 9) (x := x) (by omega) 8
      have hB := (h4.ba (q0 := q0) (c0 := c0) (g0 := g0) (h0 := h0) an8.2.1 an8.2.2.2 (fun i hi => an8.1 i hi) (fun i hi => an8.2.2.1 i hi)).bo (r := 9) hy (Or.inr rfl)
      have lt9 : (blk x A8).2 0 8 ≤ 400 := by have := h4.2.2.1.2.2.2.2; have := h4.2.1.1; have := h4.2.1.2.1; omega
      have g9 := h4.2.2.2.1.2.2.2.2.1
      rw [s8, show (4 : Int32) * nI (A5 0 8) = nI (4 * A5 0 8) from pk_mul 4 _, nI_1, nI_clamp (by omega)]
      refine ⟨(vin_iff (by omega)).mpr (by omega), ?_⟩
      intro s13 e13
      rw [g9] at e13
      have vs9 : x ≠ 0 → ∀ r j, (r ≠ 9 ∨ j ≠ x - 1) → (mBO blk 9 x A8).2 r j = (blk x A8).2 r j := fun hx r j w => by
        rw [bo_x hx]
        show u2 (blk x A8).2 9 (x - 1) _ r j = _
        rw [u2_a, if_neg (by omega)]
      have hC : RP n tp s0 P (fun a => op a ∨ a = y) q0 c0 g0 h0 pd ph 0 (k + 4) (mBO blk 9 x A8).2 s13 := hB.pat hP.2.2.1 e13 (by omega) (by omega) (fun e a ha ho => by
        rw [z6] at e
        have e5 := t86 (f34.e0 e)
        obtain ⟨d1, d2, d3⟩ := dps e5
        have B := pb e
        rw [vs9 (by omega) 18 a (by omega), vs9 (by omega) 19 a (by omega)]
        by_cases hl : a < A8 0 3
        · by_cases hx : a = x - 1
          · exact absurd (Or.inr (by omega)) ho
          · have := fin5 e5 a (by omega) ho
            rw [B.1.2.1 19 a ar19 hl, f78.2.1 19 a ar19, vs 19 a (by omega) (by omega), ss 19 a (by omega)]
            omega
        · have := (B.2.2.2.2 a (by omega) (by omega)).2.1
          omega)
      have hD : RP n tp s0 P (fun a => op a ∨ a = y) q0 c0 g0 h0 pd ph 0 (k + 4) (gPe x (mBO blk 9 x A8).2) s13 := hC.g (r := 19) (Or.inl ar19) (by omega) (Or.inl (Or.inr hy.symm))
      refine hq.1 rfl s13 ((hD.cl (fun e => ?_)).km (by omega))
      obtain ⟨b1, b2, b3⟩ := hAN.bd rfl e
      have b1 : BDa (gPe x (mBO blk 9 x A8).2) (x - 1) := b1
      have b2 : gPe x (mBO blk 9 x A8).2 18 (x - 1) = A 0 8 := b2
      have b3 : gPe x (mBO blk 9 x A8).2 5 (x - 1) = A 0 5 := b3
      have e : (mBO blk 9 x A8).2 0 6 = 0 := e
      rw [z6] at e
      have e5 := t86 (f34.e0 e)
      obtain ⟨d1, d2, d3⟩ := dps e5
      have B := pb e
      obtain ⟨f1, f2, f3, f4, f5, f6, f7, f8, fT, f12, f9⟩ := hf e5
      have v19 : gPe x (mBO blk 9 x A8).2 19 (x - 1) = (blk x A8).2 0 8 := by unfold gPe gSet; rw [u2_a, if_pos ⟨rfl, rfl⟩, z8]
      have ws : ∀ r j, (r ≠ 9 ∨ j ≠ x - 1) → (r ≠ 19 ∨ j ≠ x - 1) → gPe x (mBO blk 9 x A8).2 r j = (blk x A8).2 r j := fun r j w1 w2 => by unfold gPe gSet; rw [u2_a, if_neg (by omega), vs9 (by omega) r j w1]
      generalize gPe x (mBO blk 9 x A8).2 = A11 at b1 b2 b3 v19 ws
      have row : ∀ r, ar r → r ≠ 9 → r ≠ 19 → A11 r (x - 1) = A7 r (x - 1) := fun r hr w1 w2 => by rw [ws r _ (by omega) (by omega), B.1.2.1 r _ hr (by omega), f78.2.1 r _ hr]
      have B9 := B.1.2.2.2.2.2
      have x10 : ∀ i, A11 10 i = A5 10 i := fun i => by rw [ws 10 i (by omega) (by omega), B.1.1.1 10 i (by unfold fxr; omega), f78.1.1 10 i (by unfold fxr; omega), vs 10 i (by omega) (by omega), s10]
      rw [hy] at f3 f6 f7 fT ⊢
      have k23 : A11 10 (A 0 5) = 23 := by rw [x10, f9]; exact hk0
      have og : ∀ i, i ≠ 4 * A5 0 8 + 1 → i < 4 * A8 0 8 → gI s13 75 i = gI s9' 75 i := fun i hi h2 => by rw [e13, gI_uI, if_neg (by omega)]; exact an4.1 i h2
      have og9 : ∀ i, gI s9' 75 i = gI s8' 75 i := fun i => hF.i (by omega)
      have og8 : ∀ i, i ≠ 4 * q + 3 → gI s8' 75 i = gI s7 75 i := fun i hi => by rw [e8, gI_uI, if_neg (by omega)]
      have cg : ∀ i, i < 4 * A8 0 9 → gI s13 76 i = gI s5 76 i := fun i hi => by
        rw [e13, gI_uI, if_neg (by omega), an4.2.2.1 i hi, hF.i (by omega), e8, gI_uI, if_neg (by omega)]
        exact congrFun (oth 76 (by omega) (by omega)) i
      refine ⟨b1, ?_⟩
      unfold GFa
      rw [b2, b3, k23, v19, row 22 (by unfold ar; omega) (by omega) (by omega), row 24 (by unfold ar; omega) (by omega) (by omega), row 20 (by unfold ar; omega) (by omega) (by omega), row 21 (by unfold ar; omega) (by omega) (by omega), v22, vs 24 _ (by omega) (by omega), v24, vs 20 _ (by omega) (by omega), vs 21 _ (by omega) (by omega), ss 20 _ (by omega), ss 21 _ (by omega), f3, ← f1]
      rw [s8] at o0 o1 o2 ok
      refine ⟨?_, fun w => by omega, fun w => by omega, fun w => by omega, fun _ => ⟨?_, ?_⟩, fun w => by omega, fun _ => ⟨?_, fun _ => ⟨?_, ?_⟩⟩⟩
      · rw [og _ (by omega) (by omega), og9, og8 _ (by omega), ok _ (by omega)]; exact f4
      · rw [og _ (by omega) (by omega), og9, og8 _ (by omega), ok _ (by omega)]; exact f5
      · refine rCmp_cg (T := A5 0 5) (C := A5 0 9) x10 (fun i hi => ?_) (fun j hj => cg j (by omega)) ?_ (by omega) f7
        · rw [ws 11 i (by omega) (by omega), B.1.2.2.2.2.1 i (by rw [a85, vs 0 5 (by omega) (by omega), s5']; omega), f78.2.2.2.2.1 i (by rw [vs 0 5 (by omega) (by omega), s5']; exact hi), vs 11 i (by omega) (by omega), ss 11 i (by omega)]
        · omega
      · rw [og _ (by omega) (by omega), og9, e8, gI_uI, if_pos ⟨rfl, rfl⟩]
      · rw [og _ (by omega) (by omega), og9, og8 _ (by omega)]; exact o0
      · rw [e13, gI_uI, if_pos ⟨rfl, rfl⟩]
    · refine ⟨fun w => absurd rfl w, fun _ => ?_⟩
      have bf : (mBO blk 9 x A8).1 = false := t4
      rw [bd_f bf] at hq
      refine hq.2 rfl s4 ⟨h4.1, ?_⟩
      show gI s4 68 13 = nI (tfr n tp ((mBO blk 9 x A8).2 0 5))
      rw [bo_0 (by omega)]
      exact h4.2
end MLP

/-! the reference's reader: plans, the book -/
section MBQ
variable {n : Nat} {tp : Nat → Nat} {s0 : St} {P P' : Nat → Prop} {op op' : Nat → Prop} {q0 c0 : Nat} {g0 h0 : Nat → Int32} {pd pd' : Nat} {ph ph' : Bool} {z k y : Nat} {A A' : Bk} {st st' s1 s2 : St} {Q : Int32 → St → Prop} {Qv : St → Prop}
/-- the plan is counted -/
theorem RP.ap {nm a0 b0 : Nat} (hP : P 68 ∧ P 70) (h : RP n tp s0 P op q0 c0 g0 h0 1 true z k A st) (hd : A 0 6 = 0 → A 0 2 < 6 ∧ gJ st 69 (A 0 0 + A 0 2) = lN (A 14 nm) ∧ A 14 nm < 2 ^ 40 ∧ gI st 74 (A 0 2) = nI b0 ∧ gI st 75 (4 * (A 0 8 - 1)) = nI 301 ∧ 1 ≤ A 0 8) (e1 : s1 = if A 0 2 < 6 then uI st 70 2 (nI (A 0 2 + 1)) else st) (e2 : s2 = uI s1 68 4 (gI s1 68 2)) : RP n tp s0 P op q0 c0 g0 h0 0 true z k (mAddPl nm a0 b0 A) s2 := by
  have gi : ∀ d' j', (d' ≠ 70 ∨ j' ≠ 2) → (d' ≠ 68 ∨ j' ≠ 4) → gI s2 d' j' = gI st d' j' := fun d' j' w1 w2 => by
    rw [e2, gI_uI, if_neg (by omega), e1]
    split
    · rw [gI_uI, if_neg (by omega)]
    · rfl
  have J : s2.2 = st.2 := by
    rw [e2, e1]
    split
    · rfl
    · rfl
  have Jj : ∀ i, gJ s2 69 i = gJ st 69 i := fun i => by show s2.2.1 69 i = _; rw [J]; rfl
  have F2 : FQ P st s2 := by
    rw [e2, e1]
    split
    · exact (FQ.uI hP.2).tr (FQ.uI hP.1)
    · exact FQ.uI hP.1
  have g4 : gI s2 68 4 = gI st 68 2 := by
    rw [e2, gI_uI, if_pos ⟨rfl, rfl⟩, e1]
    split
    · rw [gI_uI, if_neg (by omega)]
    · rfl
  have g702 : gI s2 70 2 = if A 0 2 < 6 then nI (A 0 2 + 1) else gI st 70 2 := by
    rw [e2, gI_uI, if_neg (by omega), e1]
    split
    · rw [gI_uI, if_pos ⟨rfl, rfl⟩]
    · rfl
  clear e1 e2
  obtain ⟨m, m3, m4, x1, x2, x3, x4, x5, x6, x7⟩ := h.2.2.2.2.2.1
  obtain ⟨a1, a2, a3, a4, a5, a6⟩ := h.2.2.2.1
  obtain ⟨k1, k2, k3, k4, k5⟩ := h.2.2.1
  by_cases q : A 0 2 < 6
  · rw [if_pos q] at g702
    have mA : mAddPl nm a0 b0 A = u2 (u2 (u2 (u2 (u2 A 17 (A 0 2) (A 14 nm)) 4 (A 0 2) (if a0 < A 0 3 then a0 + 1 else 0)) 23 (A 0 2) b0) 25 (A 0 2) (A 0 8 - 1)) 0 2 (A 0 2 + 1) := by unfold mAddPl; rw [if_pos q]
    have s : ∀ r j, (r ≠ 0 ∨ j ≠ 2) → ((r ≠ 17 ∧ r ≠ 4 ∧ r ≠ 23 ∧ r ≠ 25) ∨ j ≠ A 0 2) → mAddPl nm a0 b0 A r j = A r j := fun r j w1 w2 => by
      rw [mA, u2_a, if_neg (by omega), u2_a, if_neg (by omega), u2_a, if_neg (by omega), u2_a, if_neg (by omega), u2_a, if_neg (by omega)]
    have v0 : mAddPl nm a0 b0 A 0 2 = A 0 2 + 1 := by rw [mA, u2_a, if_pos ⟨rfl, rfl⟩]
    have v25 : mAddPl nm a0 b0 A 25 (A 0 2) = A 0 8 - 1 := by rw [mA, u2_a, if_neg (by omega), u2_a, if_pos ⟨rfl, rfl⟩]
    have v23 : mAddPl nm a0 b0 A 23 (A 0 2) = b0 := by rw [mA, u2_a, if_neg (by omega), u2_a, if_neg (by omega), u2_a, if_pos ⟨rfl, rfl⟩]
    have v17 : mAddPl nm a0 b0 A 17 (A 0 2) = A 14 nm := by rw [mA, u2_a, if_neg (by omega), u2_a, if_neg (by omega), u2_a, if_neg (by omega), u2_a, if_neg (by omega), u2_a, if_pos ⟨rfl, rfl⟩]
    clear mA
    have s0' : ∀ j, j ≠ 2 → mAddPl nm a0 b0 A 0 j = A 0 j := fun j w => s 0 j (by omega) (by omega)
    refine h.ch (fun r j w => s r j (by omega) (by omega)) (fun d' j' w => gi d' j' (by omega) (by omega)) (by show s2.2.1 68 9 = _; rw [J]; rfl) F2 ?_ ?_ ?_ (fun e0 hr => ?_)
    · exact ⟨by rw [s0' 0 (by omega)]; exact k1, by rw [s0' 1 (by omega)]; exact k2, by omega, by rw [s0' 3 (by omega)]; exact k4, by rw [s0' 8 (by omega), s0' 9 (by omega), s0' 5 (by omega)]; exact k5⟩
    · unfold CN
      rw [v0, s0' 0 (by omega), s0' 1 (by omega), s0' 3 (by omega), s0' 8 (by omega), s0' 9 (by omega)]
      exact ⟨(gi 70 0 (by omega) (by omega)).trans a1, (gi 70 1 (by omega) (by omega)).trans a2, g702, (gi 70 3 (by omega) (by omega)).trans a4, (gi 70 9 (by omega) (by omega)).trans a5, (gi 70 11 (by omega) (by omega)).trans a6⟩
    · refine ⟨m, m3, m, x1, x2, x1, (gi 68 2 (by omega) (by omega)).trans x4, (gi 68 3 (by omega) (by omega)).trans x5, g4.trans x4, fun e0 => ?_⟩
      rw [s0' 6 (by omega)] at e0
      obtain ⟨y1, y2, y3⟩ := x7 e0
      rw [v0, s0' 0 (by omega)]
      obtain ⟨z1, z2⟩ := y2 rfl
      exact ⟨by omega, fun _ => ⟨z1, by rw [if_pos (by omega)]; omega⟩, fun w => (by cases w)⟩
    · obtain ⟨b1, b2, b3, b4, b5, b6, b7⟩ := hr
      obtain ⟨d1, d2, d3, d4, d5, d6⟩ := hd e0
      unfold RD
      rw [v0, s0' 0 (by omega), s0' 1 (by omega), s0' 8 (by omega), s0' 3 (by omega)]
      refine ⟨fun k hk => by rw [Jj, s 16 k (by omega) (by omega)]; exact b1 k hk, fun k hk => ?_, fun k hk => by rw [gi 71 k (by omega) (by omega), gi 72 k (by omega) (by omega), s 1 k (by omega) (by omega), s 2 k (by omega) (by omega)]; exact b3 k hk, fun k hk => by rw [gi 73 k (by omega) (by omega), s 3 k (by omega) (by omega)]; exact b4 k hk, fun k w1 w2 => by rw [gi 73 k (by omega) (by omega)]; exact b5 k w1 w2, fun p hp => ?_, fun a ha ho => ?_⟩
      · rw [Jj]
        by_cases w : k = A 0 2
        · rw [w, v17]; exact ⟨d2, d3⟩
        · rw [s 17 k (by omega) (by omega)]; exact b2 k (by omega)
      · by_cases w : p = A 0 2
        · rw [w, v23, v25, gi 74 _ (by omega) (by omega), gi 75 _ (by omega) (by omega)]
          exact ⟨d4, d5, by omega⟩
        · rw [s 23 p (by omega) (by omega), s 25 p (by omega) (by omega), gi 74 p (by omega) (by omega), gi 75 _ (by omega) (by omega)]
          exact b6 p (by omega)
      · exact (b7 a ha ho).fx (fun i => s 10 i (by omega) (by omega)) (fun r hr _ => s r a (by unfold ar at hr; omega) (by unfold ar at hr; omega)) (fun i _ => s 11 i (by omega) (by omega)) (Nat.le_of_eq (s0' 5 (by omega)).symm) (Nat.le_of_eq (s0' 8 (by omega)).symm) (Nat.le_of_eq (s0' 9 (by omega)).symm) (fun i _ _ => gi 75 i (by omega) (by omega)) (fun i _ => gi 76 i (by omega) (by omega))
  · rw [if_neg q] at g702
    have mA : mAddPl nm a0 b0 A = A := by unfold mAddPl; rw [if_neg q]
    rw [mA]
    refine h.ch (fun _ _ _ => rfl) (fun d' j' w => gi d' j' (by omega) (by omega)) (by show s2.2.1 68 9 = _; rw [J]; rfl) F2 h.2.2.1 ?_ ?_ (fun e0 _ => absurd (hd e0).1 q)
    · exact ⟨(gi 70 0 (by omega) (by omega)).trans a1, (gi 70 1 (by omega) (by omega)).trans a2, g702.trans a3, (gi 70 3 (by omega) (by omega)).trans a4, (gi 70 9 (by omega) (by omega)).trans a5, (gi 70 11 (by omega) (by omega)).trans a6⟩
    · exact ⟨m, m3, m, x1, x2, x1, (gi 68 2 (by omega) (by omega)).trans x4, (gi 68 3 (by omega) (by omega)).trans x5, g4.trans x4, fun e0 => absurd (hd e0).1 q⟩
theorem rb_top (hP : P 68 ∧ P 70 ∧ P 75 ∧ P 76) : SBk n tp s0 P 1 true (fun st Q => wX11_block_4 68 1 st Q) (mBlk 3) 0 := by
  have h := rb_4 (n := n) (tp := tp) (s0 := s0) (P := P) (pd := 1) (ph := true) hP rfl (rb_3 hP rfl (rb_2 hP rfl (rb_1 hP.1)))
  have e1 : (nI 0 + 1 : Int32) = 1 := by decide
  rw [e1] at h
  exact h
def p1 (A : Bk) : Bool × Bk := bd (mNew (decide (6 ≤ A 0 2)) A) (mBlk 3 0)
def p0 (A : Bk) : Bool × Bk := bd (mTk 15 A) p1
def PlO (n : Nat) (tp : Nat → Nat) (s0 : St) (P : Nat → Prop) (op : Nat → Prop) (q0 c0 : Nat) (g0 h0 : Nat → Int32) (k : Nat) (Q : Int32 → St → Prop) (B : Bk) (r : Bool × Bk) : Prop := (r.1 = true → ∀ st', RP n tp s0 P op q0 c0 g0 h0 0 true 0 k (mAddPl (B 0 5 + 1) (B 0 3) (B 0 8) (gInc 8 r.2)) st' → Q 1 st') ∧ (r.1 = false → ∀ st', RF n tp s0 P r.2 st' → Q 0 st')
/-- a plan read -/
theorem r_plan (hP : P 68 ∧ P 69 ∧ P 70 ∧ P 74 ∧ P 75 ∧ P 76) (hk : A 10 (A 0 5) = 15) (hol : ∀ a, op a → a < A 0 3) (h : RP n tp s0 P op q0 c0 g0 h0 0 true 0 k A st) (hq : PlO n tp s0 P op q0 c0 g0 h0 k Q A (p0 A)) : wX11_plan 68 st Q := by
  unfold wX11_plan
  have pP : ∀ d, (d = 68 ∨ d = 70 ∨ d = 75 ∨ d = 76) → P d := fun d e => by
    rcases e with rfl | rfl | rfl | rfl
    · exact hP.1
    · exact hP.2.2.1
    · exact hP.2.2.2.2.1
    · exact hP.2.2.2.2.2
  unfold p0 at hq
  have m1 : mTk 15 A = (true, u2 A 0 5 (A 0 5 + 1)) := by unfold mTk; rw [if_pos hk]
  rw [m1, bd_t rfl] at hq
  have hq : PlO n tp s0 P op q0 c0 g0 h0 k Q A (p1 (u2 A 0 5 (A 0 5 + 1))) := hq
  refine r_nx hP.1 h (by omega) (by omega) (fun s1 h1 _ => ?_)
  have K1 : KS 1 A (u2 A 0 5 (A 0 5 + 1)) := KS.s (i := 0) ⟨fun _ _ _ => rfl, rfl⟩
  generalize u2 A 0 5 (A 0 5 + 1) = A1 at hq h1 K1
  have c6 := h1.2.2.1.2.2.1
  have g2' := h1.2.2.2.1.2.2.1
  have x12 : A 14 (A 0 5 + 1) < 2 ^ 40 := by
    have l := h1.2.1
    rw [← K1.1 14 _ (by omega), ← K1.2, (l.2.2.1 _ l.1).2.1]
    exact twd40
  rw [g2']
  have key : ∀ v : Int32, (v = 0 ↔ decide (6 ≤ A1 0 2) = false) → wX11_plan_L21 68 v s1 Q := by
    intro v hv
    unfold wX11_plan_L21
    unfold p1 at hq
    refine r_new (many := decide (6 ≤ A1 0 2)) ⟨hP.1, hP.2.1⟩ hv h1 (fun t s2 h2' pend => ⟨fun _ => ?_, fun q => absurd q (by decide)⟩) (fun t s2 h2 => ⟨fun q => absurd rfl q, fun _ => ?_⟩)
    · rw [bd_t t] at hq
      have K2 : KS 2 A (mNew (decide (6 ≤ A1 0 2)) A1).2 := K1.kn kn_new t
      have many := fun e => of_decide_eq_false (new_many (b := decide (6 ≤ A1 0 2)) (A := A1) e)
      generalize (mNew (decide (6 ≤ A1 0 2)) A1).2 = A2 at hq h2' pend K2 many
      have F2 : FQ P s0 s2 := h2'.1.2.2
      have h2' := h2'.rb (P' := fun d => d = 68 ∨ d = 70 ∨ d = 75 ∨ d = 76)
      have g9 := h2'.2.2.2.1.2.2.2.2.1
      rw [K2.1 0 8 (by omega)] at g9
      intro x4 ex4
      have ex4 : x4 = nI (A 0 8) := ex4.trans g9
      clear g9
      refine rb_top (P := fun d => d = 68 ∨ d = 70 ∨ d = 75 ∨ d = 76) ⟨Or.inl rfl, Or.inr (Or.inl rfl), Or.inr (Or.inr (Or.inl rfl)), Or.inr (Or.inr (Or.inr rfl))⟩ op q0 c0 g0 h0 (k + 2) 0 A2 s2 _ (fun a ha => by rw [K2.1 0 3 (by omega)]; exact hol a ha) (fun _ => ⟨fun _ => rfl, fun w => absurd rfl w⟩) (by have := K2.2; omega) h2' ⟨fun t s5 h5 => ⟨fun _ => ?_, fun q => absurd q (by decide)⟩, fun t s5 h5 => ⟨fun q => absurd rfl q, fun _ => ?_⟩⟩
      · have fx : FxR A2 (mBlk 3 0 A2).2 := fx_blk A2
        have z2 : (mBlk 3 0 A2).2 0 2 = A 0 2 := (fx.1 0 2 (by unfold fxr; omega)).trans (K2.1 0 2 (by omega))
        have z0 : (mBlk 3 0 A2).2 0 0 = A 0 0 := (fx.1 0 0 (by unfold fxr; omega)).trans (K2.1 0 0 (by omega))
        have z14 : ∀ i, (mBlk 3 0 A2).2 14 i = A 14 i := fun i => (fx.1 14 i (by unfold fxr; omega)).trans (K2.1 14 i (by omega))
        have hq1 := hq.1 t
        have e6 : (mBlk 3 0 A2).2 0 6 = 0 → A2 0 6 = 0 := fx.e0
        generalize (mBlk 3 0 A2).2 = A3 at h5 hq1 z2 z0 z14 e6
        refine r_put (k := k + 2) ⟨Or.inr (Or.inl rfl), Or.inr (Or.inr (Or.inl rfl))⟩ h5 (fun s7 h7 o0 _ _ _ _ _ => ?_)
        have i2 : gInc 8 A3 0 2 = A 0 2 := z2
        have i0 : gInc 8 A3 0 0 = A 0 0 := z0
        have i14 : ∀ i, gInc 8 A3 14 i = A 14 i := z14
        have i6 : gInc 8 A3 0 6 = 0 → A2 0 6 = 0 := e6
        have i8 : gInc 8 A3 0 8 = A3 0 8 + 1 := by unfold gInc; rw [u2_a, if_pos ⟨rfl, rfl⟩]
        generalize gInc 8 A3 = A4 at h7 hq1 i2 i0 i14 i6 i8
        have g2 := h7.2.2.2.1.2.2.1
        have c2 := h7.2.2.1.2.2.1
        rw [g2, nI_clamp (by omega), ex4]
        refine ⟨(vin_iff (by omega)).mpr (by omega), ?_⟩
        intro s9 e9
        have h9 := (h7.rb (P' := fun d => d = 74)).w7 (P := fun d => d = 74) (d := 74) (Or.inr (Or.inr rfl)) rfl ⟨fun w => absurd rfl w, fun _ => Nat.le_refl _⟩ e9
        have F9 : FQ P s0 s9 := (F2.tr (h7.1.2.2.mo pP)).tr (by rw [e9]; exact FQ.uI hP.2.2.2.1)
        have h9 : RP n tp s0 P op q0 c0 g0 h0 1 true 0 _ A4 s9 := (h9.rb (P' := P68)).un F9 (fun d e => by unfold P68 at e; rw [e]; exact hP.1)
        have z1 : A1 0 2 = A 0 2 := K1.1 0 2 (by omega)
        have hd : A4 0 6 = 0 → A4 0 2 < 6 ∧ gJ s9 69 (A4 0 0 + A4 0 2) = lN (A4 14 (A 0 5 + 1)) ∧ A4 14 (A 0 5 + 1) < 2 ^ 40 ∧ gI s9 74 (A4 0 2) = nI (A 0 8) ∧ gI s9 75 (4 * (A4 0 8 - 1)) = nI 301 ∧ 1 ≤ A4 0 8 := fun e0 => by
          have mm := many (i6 e0)
          have pe := pend (i6 e0)
          rw [K1.1 0 0 (by omega), z1, K1.1 14 _ (by omega), K1.2] at pe
          rw [i2, i0, i14]
          refine ⟨by omega, ?_, x12, ?_, ?_, by omega⟩
          · rw [e9, gJ_uI, h7.1.2.2.gJ (by omega)]; exact pe
          · rw [e9, gI_uI, if_pos ⟨rfl, i2.symm⟩]
          · rw [e9, gI_uI, if_neg (by omega), i8, Nat.add_sub_cancel]; exact o0
        refine ⟨fun q => ?_, fun q => ?_⟩
        · have nl : ¬ A4 0 2 < 6 := fun w => q (hv.mpr (decide_eq_false (by omega)))
          unfold wX11_plan_L96
          intro s11 e11
          exact hq1 s11 ((h9.ap ⟨hP.1, hP.2.2.1⟩ hd (s1 := s9) (by rw [if_neg nl]) e11).km (by omega))
        · have nl : A4 0 2 < 6 := by have := of_decide_eq_false (hv.mp q); omega
          have g92 := h9.2.2.2.1.2.2.1
          rw [g92, nI_1]
          intro s10 e10
          unfold wX11_plan_L96
          intro s11 e11
          exact hq1 s11 ((h9.ap ⟨hP.1, hP.2.2.1⟩ hd (s1 := s10) (by rw [if_pos nl]; exact e10) e11).km (by omega))
      · exact hq.2 t s5 (h5.un F2 pP)
    · rw [bd_f t] at hq
      exact hq.2 rfl s2 h2
  refine ⟨fun q => key 0 ⟨fun _ => decide_eq_false (fun w => q ?_), fun _ => rfl⟩, fun q => key 1 ⟨fun w => absurd w (by decide), fun w => ?_⟩⟩
  · rw [show A1 0 2 = 6 by omega]; rfl
  · have := (nI_eq (b := 6) (by omega) (by omega)).mp q
    exact absurd w (by rw [this]; decide)
/-- the walkers' names are behind -/
theorem RP.p3 (hP : P 68) (h2 : A 0 2 = 0) (h : RP n tp s0 P op q0 c0 g0 h0 0 false z k A st) (e1 : s1 = uI st 68 3 (gI st 68 2)) : RP n tp s0 P op q0 c0 g0 h0 0 true z k A s1 := by
  have gi : ∀ d' j', (d' ≠ 68 ∨ j' ≠ 3) → gI s1 d' j' = gI st d' j' := fun d' j' w => by rw [e1, gI_uI, if_neg (by omega)]
  have J : s1.2 = st.2 := by rw [e1]; rfl
  have g3 : gI s1 68 3 = gI st 68 2 := by rw [e1, gI_uI, if_pos ⟨rfl, rfl⟩]
  refine h.ch (fun _ _ _ => rfl) (fun d' j' w => gi d' j' (by omega)) (by show s1.2.1 68 9 = _; rw [J]; rfl) (by rw [e1]; exact FQ.uI hP) h.2.2.1 ?_ ?_ (fun _ hr => ?_)
  · obtain ⟨a1, a2, a3, a4, a5, a6⟩ := h.2.2.2.1
    exact ⟨(gi 70 0 (by omega)).trans a1, (gi 70 1 (by omega)).trans a2, (gi 70 2 (by omega)).trans a3, (gi 70 3 (by omega)).trans a4, (gi 70 9 (by omega)).trans a5, (gi 70 11 (by omega)).trans a6⟩
  · obtain ⟨m, m3, m4, x1, x2, x3, x4, x5, x6, x7⟩ := h.2.2.2.2.2.1
    refine ⟨m, m, m4, x1, x1, x3, (gi 68 2 (by omega)).trans x4, g3.trans x4, (gi 68 4 (by omega)).trans x6, fun e0 => ?_⟩
    obtain ⟨y1, y2, y3⟩ := x7 e0
    have y3 := y3 rfl
    exact ⟨y1, fun _ => ⟨by omega, by rw [if_neg (by omega)]; omega⟩, fun w => (by cases w)⟩
  · obtain ⟨b1, b2, b3, b4, b5, b6, b7⟩ := hr
    have Jj : ∀ i, gJ s1 69 i = gJ st 69 i := fun i => by show s1.2.1 69 i = _; rw [J]; rfl
    refine ⟨fun k hk => by rw [Jj]; exact b1 k hk, fun k hk => by rw [Jj]; exact b2 k hk, fun k hk => by rw [gi 71 k (by omega), gi 72 k (by omega)]; exact b3 k hk, fun k hk => by rw [gi 73 k (by omega)]; exact b4 k hk, fun k w1 w2 => by rw [gi 73 k (by omega)]; exact b5 k w1 w2, fun p hp => by rw [gi 74 p (by omega), gi 75 _ (by omega)]; exact b6 p hp, fun a ha ho => ?_⟩
    exact (b7 a ha ho).fx (fun _ => rfl) (fun _ _ _ => rfl) (fun _ _ => rfl) (Nat.le_refl _) (Nat.le_refl _) (Nat.le_refl _) (fun i _ _ => gi 75 i (by omega)) (fun i _ => gi 76 i (by omega))
def NO (a : Nat) : Prop := a < 0
def BO (n : Nat) (tp : Nat → Nat) (s0 : St) (P : Nat → Prop) (q0 c0 : Nat) (g0 h0 : Nat → Int32) (Q : Int32 → St → Prop) (r : Bool × Bk) : Prop := (okB r = true → ∀ st', RP n tp s0 P NO q0 c0 g0 h0 0 true 0 0 r.2 st' → Q 1 st') ∧ (okB r = false → ∀ st', RF n tp s0 P r.2 st' → Q 0 st')
theorem p0_adv (t : (p0 A).1 = true) : A 0 5 + 1 ≤ (p0 A).2 0 5 := bd_adv (fun A1 => bd_fx (fx_new A1) fx_blk) t
theorem addPl_5 {nm a0 b0 : Nat} : mAddPl nm a0 b0 A 0 5 = A 0 5 := by
  unfold mAddPl
  split
  · rfl
  · rfl
theorem last_kd (h : KT n tp A) (h4 : 400 ≤ A 0 5) : A 10 (A 0 5) < 2 := by
  apply Decidable.byContradiction
  intro q
  have := h.tl (A 0 5) h.1 (by omega)
  have := h.2.1
  omega
theorem r_p0 {RR : St → Prop} (hP : P 68) (w : A 10 (A 0 5) ≠ 15) (h : RP n tp s0 P NO q0 c0 g0 h0 0 true 0 0 A st) (hq : BO n tp s0 P q0 c0 g0 h0 Q (true, A)) : wX11_book_L40 68 RR st Q := by
  unfold wX11_book_L40
  obtain ⟨k1, k2⟩ := r_kd h
  have kk : gI st 68 6 = 204 ↔ A 10 (A 0 5) = 15 := by rw [k1]; exact rkd_iff (b := 15) k2 (by omega)
  have k0 : gI st 68 6 = 0 ↔ A 10 (A 0 5) = 0 := by rw [k1]; exact rkd_iff (b := 0) k2 (by omega)
  rw [kk, k0]
  refine ⟨fun _ => ?_, fun q => absurd q w⟩
  unfold wX11_book_L73
  refine ⟨fun q => hq.1 (decide_eq_true q) st h, fun q => r_wr hP h (fun s1 h1 => ⟨fun _ => hq.2 (decide_eq_false q) s1 h1, fun w => absurd rfl w⟩)⟩
theorem r_plans (hP : P 68 ∧ P 69 ∧ P 70 ∧ P 74 ∧ P 75 ∧ P 76) : ∀ (f : Nat) (A : Bk) (st : St), 400 ≤ f + A 0 5 → RP n tp s0 P NO q0 c0 g0 h0 0 true 0 0 A st → BO n tp s0 P q0 c0 g0 h0 Q (mPl f A) → lp (fun R s => wX11_book_L40 68 R s Q) (f + 1) st := by
  intro f
  induction f with
  | zero =>
    intro A st hf h hq
    have := last_kd h.2.1 (by omega)
    exact r_p0 (RR := lp (fun R s => wX11_book_L40 68 R s Q) 0) hP.1 (by omega) h hq
  | succ f ih =>
    intro A st hf h hq
    show wX11_book_L40 68 (lp (fun R s => wX11_book_L40 68 R s Q) (f + 1)) st Q
    generalize lp (fun R s => wX11_book_L40 68 R s Q) (f + 1) = RR at ih ⊢
    by_cases w : A 10 (A 0 5) = 15
    · unfold wX11_book_L40
      obtain ⟨k1, k2⟩ := r_kd h
      have kk : gI st 68 6 = 204 ↔ A 10 (A 0 5) = 15 := by rw [k1]; exact rkd_iff (b := 15) k2 (by omega)
      rw [kk]
      unfold mPl at hq
      refine ⟨fun q => absurd w q, fun w => ?_⟩
      rw [if_pos w] at hq
      have hq : BO n tp s0 P q0 c0 g0 h0 Q (bd (p0 A) fun A3 => mPl f (mAddPl (A 0 5 + 1) (A 0 3) (A 0 8) (gInc 8 A3))) := hq
      refine r_plan (op := NO) hP w (fun a ha => absurd ha (Nat.not_lt_zero a)) h ⟨fun t s1 h1 => ⟨fun _ => ?_, fun q => absurd q (by decide)⟩, fun t s1 h1 => ⟨fun q => absurd rfl q, fun _ => ?_⟩⟩
      · rw [bd_t t] at hq
        have adv := p0_adv t
        refine ih _ s1 ?_ h1 hq
        rw [addPl_5]
        show 400 ≤ f + (p0 A).2 0 5
        omega
      · rw [bd_f t] at hq
        exact hq.2 rfl s1 h1
    · unfold mPl at hq
      rw [if_neg w] at hq
      exact r_p0 hP.1 w h hq
theorem addW_0 {f j : Nat} (hj : j ≠ 0) : mAddW f A 0 j = A 0 j := by
  unfold mAddW
  split
  · rw [u2_a, if_neg (by omega), u2_a, if_neg (by omega), u2_a, if_neg (by omega), u2_a, if_neg (by omega)]
  · rfl
theorem r_w0 {RR : St → Prop} (hP : P 68 ∧ P 69 ∧ P 70 ∧ P 71 ∧ P 72 ∧ P 73 ∧ P 74 ∧ P 75 ∧ P 76) (w : A 10 (A 0 5) ≠ 11) (h2 : A 0 2 = 0) (h : RP n tp s0 P NO q0 c0 g0 h0 0 false 0 0 A st) (hq : BO n tp s0 P q0 c0 g0 h0 Q (bd (mPs A) (mPl 400))) : wX11_book_L4 68 RR st Q := by
  obtain ⟨p68, p69, p70, p71, p72, p73, p74, p75, p76⟩ := hP
  unfold wX11_book_L4
  obtain ⟨k1, k2⟩ := r_kd h
  have kk : gI st 68 6 = 200 ↔ A 10 (A 0 5) = 11 := by rw [k1]; exact rkd_iff (b := 11) k2 (by omega)
  rw [kk]
  refine ⟨fun _ => ?_, fun q => absurd q w⟩
  intro s2 e2
  refine r_bridge (k := 0) ⟨p68, p70, p73⟩ (h.p3 p68 h2 e2) ⟨fun t s3 h3 => ⟨fun _ => ⟨401, ?_⟩, fun q => absurd q (by decide)⟩, fun t s3 h3 => ⟨fun q => absurd rfl q, fun _ => ?_⟩⟩
  · rw [bd_t t] at hq
    exact r_plans ⟨p68, p69, p70, p74, p75, p76⟩ 400 _ s3 (Nat.le_add_right _ _) h3 hq
  · rw [bd_f t] at hq
    exact hq.2 rfl s3 h3
theorem r_walkers (hP : P 68 ∧ P 69 ∧ P 70 ∧ P 71 ∧ P 72 ∧ P 73 ∧ P 74 ∧ P 75 ∧ P 76) : ∀ (f : Nat) (A : Bk) (st : St), 400 ≤ f + A 0 5 → A 0 2 = 0 → RP n tp s0 P NO q0 c0 g0 h0 0 false 0 0 A st → BO n tp s0 P q0 c0 g0 h0 Q (bd (bd (mWk f A) mPs) (mPl 400)) → lp (fun R s => wX11_book_L4 68 R s Q) (f + 1) st := by
  intro f
  induction f with
  | zero =>
    intro A st hf h2 h hq
    have := last_kd h.2.1 (by omega)
    exact r_w0 (RR := lp (fun R s => wX11_book_L4 68 R s Q) 0) hP (by omega) h2 h hq
  | succ f ih =>
    intro A st hf h2 h hq
    show wX11_book_L4 68 (lp (fun R s => wX11_book_L4 68 R s Q) (f + 1)) st Q
    generalize lp (fun R s => wX11_book_L4 68 R s Q) (f + 1) = RR at ih ⊢
    unfold mWk at hq
    by_cases w : A 10 (A 0 5) = 11
    · rw [if_pos w] at hq
      unfold wX11_book_L4
      obtain ⟨k1, k2⟩ := r_kd h
      have kk : gI st 68 6 = 200 ↔ A 10 (A 0 5) = 11 := by rw [k1]; exact rkd_iff (b := 11) k2 (by omega)
      rw [kk]
      refine ⟨fun q => absurd w q, fun w => ?_⟩
      refine r_wk ⟨hP.1, hP.2.1, hP.2.2.1, hP.2.2.2.1, hP.2.2.2.2.1⟩ h2 w h ⟨fun t s1 h1 => ⟨fun _ => ?_, fun q => absurd q (by decide)⟩, fun t s1 h1 => ⟨fun q => absurd rfl q, fun _ => ?_⟩⟩
      · rw [bd_t (r := mWk1 A) t] at hq
        have k7 := kn_wk1 A
        refine ih _ s1 ?_ ?_ h1 hq
        · rw [addW_0 (by omega), k7.2 t]; omega
        · rw [addW_0 (by omega), k7.1 0 2 (by omega)]; exact h2
      · rw [bd_f (r := mWk1 A) t, bd_f rfl, bd_f rfl] at hq
        exact hq.2 rfl s1 h1
    · rw [if_neg w, bd_t (r := (true, A)) rfl] at hq
      exact r_w0 hP w h2 h hq
/-- a book read -/
theorem r_book (hP : P 68 ∧ P 69 ∧ P 70 ∧ P 71 ∧ P 72 ∧ P 73 ∧ P 74 ∧ P 75 ∧ P 76) (hT : TpR st n tp) (h5 : gI st 68 5 = nI (tps n tp 0)) (h10 : gI st 68 10 = nI 0) (hF : FQ P s0 st) (hK : KT n tp A) (a5 : A 0 5 = 0) (a2 : A 0 2 = 0) (hR : RR n tp NO q0 c0 g0 h0 0 false 0 0 A st) (hq : BO n tp s0 P q0 c0 g0 h0 Q (mBook A)) : wX11_book 68 st Q := by
  unfold wX11_book
  refine r_next (t := 0) hT (by omega) (fun j hj => by omega) h5 h10 (fun s1 hN hS => ⟨401, ?_⟩)
  exact r_walkers hP 400 A s1 (Nat.le_add_right _ _) a2 ⟨⟨hT.fn hN, by rw [a5]; exact hS, hF.tr (hN.1.mo (fun d e => by unfold P68 at e; rw [e]; exact hP.1))⟩, hK, hR.fn hN⟩ hq
end MBQ

/-! the reference's reader: rows of compares -/
section MRW
variable {n : Nat} {tp : Nat → Nat} {s0 : St} {P : Nat → Prop} {op : Nat → Prop} {q0 c0 : Nat} {g0 h0 : Nat → Int32} {pd : Nat} {ph : Bool} {z k : Nat} {A : Bk} {st st' : St} {Q : Int32 → St → Prop} {Qv : St → Prop}
theorem KT.nf (h : KT n tp A) : NF A := fun i h1 h2 => by
  have := h.2.2.2 i h1 h2
  have := tnum_lt (n := n) (tp := tp) (t := i)
  omega
theorem KT.tl (h : KT n tp A) : TkL A := fun i hi hk => by
  obtain ⟨d1, d2, d3⟩ := h.2.2.1 i hi
  rw [d1] at hk
  have := d3.mp hk
  omega
/-- a compare is put -/
theorem r_cput {p1 p2 p3 p4 : Int32} {s5 : St} (hP : P 70 ∧ P 76) (h : RP n tp s0 P op q0 c0 g0 h0 pd ph z (k + 1) A st) (e5 : s5 = uI (uI (uI (uI (uI st 76 (4 * A 0 9) p1) 76 (4 * A 0 9 + 1) p2) 76 (4 * A 0 9 + 2) p3) 76 (4 * A 0 9 + 3) p4) 70 11 (nI (A 0 9 + 1))) : RP n tp s0 P op q0 c0 g0 h0 pd ph z k (gInc 9 A) s5 ∧ (gI s5 76 (4 * A 0 9) = p1 ∧ gI s5 76 (4 * A 0 9 + 1) = p2 ∧ gI s5 76 (4 * A 0 9 + 2) = p3 ∧ gI s5 76 (4 * A 0 9 + 3) = p4) ∧ ∀ i, i < 4 * A 0 9 → gI s5 76 i = gI st 76 i := by
  obtain ⟨⟨t1, t2, t3⟩, ⟨l1, l2, l3, l4⟩, ⟨c11, c12, c13, c14, c15⟩, ⟨a1, a2, a3, a4, a5, a6⟩, c3, ⟨m, m3, m4, x1, x2, x3, x4, x5, x6, x7⟩, ⟨y1, y2, y3, y4⟩, c6⟩ := h
  have og : ∀ i, gI s5 76 i = if i = 4 * A 0 9 + 3 then p4 else if i = 4 * A 0 9 + 2 then p3 else if i = 4 * A 0 9 + 1 then p2 else if i = 4 * A 0 9 then p1 else gI st 76 i := by
    intro i
    rw [e5, gI_uI, if_neg (by omega), gI_uI]
    by_cases q3 : i = 4 * A 0 9 + 3
    · rw [if_pos ⟨rfl, q3⟩, if_pos q3]
    · rw [if_neg (fun w => q3 w.2), if_neg q3, gI_uI]
      by_cases q2 : i = 4 * A 0 9 + 2
      · rw [if_pos ⟨rfl, q2⟩, if_pos q2]
      · rw [if_neg (fun w => q2 w.2), if_neg q2, gI_uI]
        by_cases q1 : i = 4 * A 0 9 + 1
        · rw [if_pos ⟨rfl, q1⟩, if_pos q1]
        · rw [if_neg (fun w => q1 w.2), if_neg q1, gI_uI]
          by_cases q0 : i = 4 * A 0 9
          · rw [if_pos ⟨rfl, q0⟩, if_pos q0]
          · rw [if_neg (fun w => q0 w.2), if_neg q0]
  have oth : ∀ d j, d ≠ 76 → (d ≠ 70 ∨ j ≠ 11) → gI s5 d j = gI st d j := fun d j w1 w2 => by
    rw [e5, gI_uI, if_neg (by omega), gI_uI, if_neg (by omega), gI_uI, if_neg (by omega), gI_uI, if_neg (by omega), gI_uI, if_neg (by omega)]
  have g5 : gI s5 70 11 = nI (A 0 9 + 1) := by rw [e5, gI_uI, if_pos ⟨rfl, rfl⟩]
  have F5 : FQ (fun d => d = 70 ∨ d = 76) st s5 := by
    rw [e5]
    have p7 : ∀ {s : St} {j : Nat} {v : Int32}, FQ (fun d => d = 70 ∨ d = 76) s (uI s 76 j v) := FQ.uI (P := fun d => d = 70 ∨ d = 76) (Or.inr rfl)
    exact ((((p7.tr p7).tr p7).tr p7)).tr (FQ.uI (P := fun d => d = 70 ∨ d = 76) (Or.inl rfl))
  have J5 : s5.2 = st.2 := by rw [e5]; rfl
  clear e5
  have ogk : ∀ i, i < 4 * A 0 9 → gI s5 76 i = gI st 76 i := fun i hi => by rw [og, if_neg (by omega), if_neg (by omega), if_neg (by omega), if_neg (by omega)]
  have i8 : gInc 9 A 0 9 = A 0 9 + 1 := by unfold gInc; rw [u2_a, if_pos ⟨rfl, rfl⟩]
  refine ⟨⟨⟨?_, ?_, t3.tr (F5.mo (fun d hd => by rcases hd with rfl | rfl; exact hP.1; exact hP.2))⟩, ⟨l1, l2, l3, l4⟩, ⟨c11, c12, c13, c14, ?_⟩, ?_, ?_, ⟨m, m3, m4, x1, x2, x3, ?_, ?_, ?_, x7⟩, ⟨fun i hi => ?_, y2, fun i hi => ?_, ?_⟩, fun e => ?_⟩, ⟨?_, ?_, ?_, ?_⟩, ogk⟩
  · exact ⟨(oth 54 2 (by omega) (by omega)).trans t1.1, t1.2.1, fun i hi => (oth 55 i (by omega) (by omega)).trans (t1.2.2.1 i hi), t1.2.2.2⟩
  · obtain ⟨r1, r2, r3, r4, r5, r6⟩ := t2
    refine ⟨(oth 68 6 (by omega) (by omega)).trans r1, (oth 68 7 (by omega) (by omega)).trans r2, fun w => (oth 68 8 (by omega) (by omega)).trans (r3 w), fun w => ?_, (oth 68 10 (by omega) (by omega)).trans r5, fun w => (oth 68 5 (by omega) (by omega)).trans (r6 w)⟩
    show s5.2.1 68 9 = _
    rw [J5]; exact r4 w
  · rw [i8]
    show A 0 8 + (A 0 9 + 1) + k ≤ A 0 5
    omega
  · refine ⟨(oth 70 0 (by omega) (by omega)).trans a1, (oth 70 1 (by omega) (by omega)).trans a2, (oth 70 2 (by omega) (by omega)).trans a3, (oth 70 3 (by omega) (by omega)).trans a4, (oth 70 9 (by omega) (by omega)).trans a5, ?_⟩
    rw [g5, i8]
  · obtain ⟨f1, f2, f3, f4, f5⟩ := c3
    exact ⟨f1, (oth 68 11 (by omega) (by omega)).trans f2, fun w => ⟨(f3 w).1, (oth 68 12 (by omega) (by omega)).trans (f3 w).2⟩, fun w => ⟨(f4 w).1, (oth 68 12 (by omega) (by omega)).trans (f4 w).2⟩, f5⟩
  · exact (oth 68 2 (by omega) (by omega)).trans x4
  · exact (oth 68 3 (by omega) (by omega)).trans x5
  · exact (oth 68 4 (by omega) (by omega)).trans x6
  · rw [oth 75 i (by omega) (by omega)]; exact y1 i hi
  · rw [ogk i (by omega)]; exact y3 i hi
  · rw [i8]; omega
  · obtain ⟨b1, b2, b3, b4, b5, b6, b7⟩ := c6 e
    have J : ∀ j, gJ s5 69 j = gJ st 69 j := fun j => by show s5.2.1 69 j = _; rw [J5]; rfl
    refine ⟨fun k hk => by rw [J]; exact b1 k hk, fun k hk => by rw [J]; exact b2 k hk, fun k hk => by rw [oth 71 k (by omega) (by omega), oth 72 k (by omega) (by omega)]; exact b3 k hk, fun k hk => by rw [oth 73 k (by omega) (by omega)]; exact b4 k hk, fun k w1 w2 => by rw [oth 73 k (by omega) (by omega)]; exact b5 k w1 w2, fun p hp => ?_, fun a ha ho => ?_⟩
    · obtain ⟨d1, d2, d3⟩ := b6 p hp
      exact ⟨(oth 74 p (by omega) (by omega)).trans d1, (oth 75 _ (by omega) (by omega)).trans d2, d3⟩
    · exact (b7 a ha ho).fx (A' := gInc 9 A) (fun _ => rfl) (fun r hr _ => by unfold gInc; rw [u2_a, if_neg (by unfold ar at hr; omega)]) (fun _ _ => rfl) (Nat.le_refl _) (Nat.le_refl _) (by rw [i8]; omega) (fun i _ _ => oth 75 i (by omega) (by omega)) (fun i hi => ogk i hi)
  · rw [og, if_neg (by omega), if_neg (by omega), if_neg (by omega), if_pos rfl]
  · rw [og, if_neg (by omega), if_neg (by omega), if_pos rfl]
  · rw [og, if_neg (by omega), if_pos rfl]
  · rw [og, if_pos rfl]
theorem cmp_code : ∀ a, a < 37 → (8 ≤ a ∧ a ≤ 10 → nI (rkd a) = nI (sgn a) ∧ (nI (rkd a) = 60 ∨ nI (rkd a) = 62 ∨ nI (rkd a) = 61)) ∧ (¬ (8 ≤ a ∧ a ≤ 10) → nI (rkd a) ≠ 60 ∧ nI (rkd a) ≠ 62 ∧ nI (rkd a) ≠ 61) := by decide +kernel
theorem val_m {A1 A' : Bk} {u : Nat} (h : FxT 0 A1 A') (hu : u < A1 0 5) : fVc A' u = fVc A1 u := fVc_cg (fun i => h.1.1 10 i (by unfold fxr; omega)) (h.2.2.2.2.1 u hu)
/-- new anchors, and back -/
theorem RP.re (h : RP n tp s0 P op q0 c0 g0 h0 pd ph z k A st) : RP n tp s0 P op (A 0 8) (A 0 9) (gI st 75) (gI st 76) pd ph z k A st := by
  obtain ⟨t, l, c1, c2, c3, c4, c5, c6⟩ := h
  exact ⟨t, l, c1, c2, c3, c4, ⟨fun _ _ => rfl, Nat.le_refl _, fun _ _ => rfl, Nat.le_refl _⟩, c6⟩
theorem RP.ba {q1 c1' : Nat} {g1 h1 : Nat → Int32} (h : RP n tp s0 P op q1 c1' g1 h1 pd ph z k A st) (hq : q0 ≤ q1) (hc : c0 ≤ c1') (hg : ∀ i, i < 4 * q0 → g1 i = g0 i) (hh : ∀ i, i < 4 * c0 → h1 i = h0 i) : RP n tp s0 P op q0 c0 g0 h0 pd ph z k A st := by
  obtain ⟨t, l, c1, c2, c3, c4, ⟨d1, d2, d3, d4⟩, c6⟩ := h
  exact ⟨t, l, c1, c2, c3, c4, ⟨fun i hi => (d1 i (by omega)).trans (hg i hi), by omega, fun i hi => (d3 i (by omega)).trans (hh i hi), by omega⟩, c6⟩
theorem RP.km {k2 : Nat} (h : RP n tp s0 P op q0 c0 g0 h0 pd ph z k A st) (hk : k2 ≤ k) : RP n tp s0 P op q0 c0 g0 h0 pd ph z k2 A st := by
  obtain ⟨t, l, ⟨c1, c2, c3, c4, c5⟩, c6⟩ := h
  exact ⟨t, l, ⟨c1, c2, c3, c4, by omega⟩, c6⟩
theorem r_rowL (hP : P 68 ∧ P 70 ∧ P 76) {x1 : Int32} : ∀ (f k c0 : Nat) (h0 : Nat → Int32) (A : Bk) (st : St), 401 ≤ f + A 0 5 → RP n tp s0 P op q0 c0 g0 h0 pd ph 0 k A st → ((mCmp f A).1 = true → ∀ st', RP n tp s0 P op q0 c0 g0 h0 pd ph 0 (k + 2) (mCmp f A).2 st' → ((mCmp f A).2 0 6 = 0 → ∃ c, (mCmp f A).2 0 9 = A 0 9 + (c + 1) ∧ rCmp (mCmp f A).2 (gI st' 76) c (A 0 5) (A 0 9)) → Q x1 st') → ((mCmp f A).1 = false → ∀ st', RF n tp s0 P (mCmp f A).2 st' → Q (-100) st') → lp (fun R s => wX11_row_L10 68 R s.1 s.2.1 s.2.2 Q) (f + 1) (x1, 1, st) := by
  intro f
  induction f with
  | zero =>
    intro k c0 h0 A st hf h
    have := h.2.1.1
    have := h.2.1.2.1
    omega
  | succ f ih =>
    intro k c0 h0 A st hf h hq1 hq0
    have ih := ih (k + 3)
    show wX11_row_L10 68 (lp (fun R s => wX11_row_L10 68 R s.1 s.2.1 s.2.2 Q) (f + 1)) x1 1 st Q
    have done : ∀ s', Q x1 s' → lp (fun R s => wX11_row_L10 68 R s.1 s.2.1 s.2.2 Q) (f + 1) (x1, 0, s') := fun s' q => ⟨fun _ => q, fun w => absurd rfl w⟩
    generalize lp (fun R s => wX11_row_L10 68 R s.1 s.2.1 s.2.2 Q) (f + 1) = RR at ih done ⊢
    unfold wX11_row_L10
    unfold mCmp mCmp1 at hq1 hq0
    rw [bd_as] at hq1 hq0
    refine ⟨fun w => absurd w (by decide), fun _ => r_val hP.1 h (fun t1 s1 v1 h1 ne1 hv1 => ?_) (fun t1 s1 h1 => ⟨fun w => absurd rfl w, fun _ => hq0 (by rw [bd_f t1]) s1 (by rw [bd_f t1]; exact h1)⟩)⟩
    rw [bd_t t1, bd_as] at hq1 hq0
    have pv1 : (mVal A).2 0 6 = 0 → FxT 0 A (mVal A).2 ∧ (mVal A).2 0 5 = A 0 5 + 1 := fun e => p_val (F := fun A' => FxT 0 A A' ∧ A' 0 5 = A 0 5 + 1) h.2.1.nf h.2.1.1 (fun A' a _ b _ => ⟨a, b⟩) t1 e
    have fxv1 := fx_val A
    generalize (mVal A).2 = A1 at h1 hv1 hq1 hq0 pv1 fxv1
    refine ⟨fun _ => ?_, fun w => absurd w ne1⟩
    obtain ⟨k1, k2⟩ := r_kd h1
    rw [k1]
    intro x4 e4
    rw [e4]
    obtain ⟨w1, w2⟩ := cmp_code _ (show A1 10 (A1 0 5) < 37 by omega)
    have go : 8 ≤ A1 10 (A1 0 5) ∧ A1 10 (A1 0 5) ≤ 10 → wX11_row_L63 68 RR x1 v1 (nI (rkd (A1 10 (A1 0 5)))) s1 Q := by
      intro hc
      unfold wX11_row_L63
      rw [if_pos hc] at hq1 hq0
      have m2 : mTk (A1 10 (A1 0 5)) A1 = (true, u2 A1 0 5 (A1 0 5 + 1)) := by unfold mTk; rw [if_pos rfl]
      rw [m2, bd_t rfl, bd_as] at hq1 hq0
      refine r_nx hP.1 h1 (by omega) (by omega) (fun s2 h2 _ => ?_)
      have f12 := fxt_at (A := A1) (v := A1 0 5 + 1) (by omega)
      have a25 : u2 A1 0 5 (A1 0 5 + 1) 0 5 = A1 0 5 + 1 := by rw [u2_a, if_pos ⟨rfl, rfl⟩]
      have hq1 : (bd (mVal (u2 A1 0 5 (A1 0 5 + 1))) fun A3 => bd (true, gInc 9 A3) fun A1 => if A1 10 (A1 0 5) = 25 then mCmp f (mTk 25 A1).2 else (true, A1)).1 = true → _ := hq1
      have hq0 : (bd (mVal (u2 A1 0 5 (A1 0 5 + 1))) fun A3 => bd (true, gInc 9 A3) fun A1 => if A1 10 (A1 0 5) = 25 then mCmp f (mTk 25 A1).2 else (true, A1)).1 = false → _ := hq0
      generalize u2 A1 0 5 (A1 0 5 + 1) = A2 at h2 hq1 hq0 f12 a25
      refine r_val hP.1 h2 (fun t3 s3 v3 h3 ne3 hv3 => ?_) (fun t3 s3 h3 => ⟨fun w => absurd rfl w, fun _ => hq0 (by rw [bd_f t3]) s3 (by rw [bd_f t3]; exact h3)⟩)
      rw [bd_t t3, bd_t rfl] at hq1 hq0
      have pv3 : (mVal A2).2 0 6 = 0 → FxT 0 A2 (mVal A2).2 ∧ (mVal A2).2 0 5 = A2 0 5 + 1 := fun e => p_val (F := fun A' => FxT 0 A2 A' ∧ A' 0 5 = A2 0 5 + 1) h2.2.1.nf h2.2.1.1 (fun A' a _ b _ => ⟨a, b⟩) t3 e
      have fxv3 := fx_val A2
      generalize (mVal A2).2 = A3 at h3 hv3 hq1 hq0 pv3 fxv3
      refine ⟨fun _ => ?_, fun w => absurd w ne3⟩
      have cn := h3.2.2.2.1.2.2.2.2.2
      have c9 : A3 0 9 ≤ 397 := by
        have := h3.2.2.1.2.2.2.2
        have := h3.2.1.1
        have := h3.2.1.2.1
        omega
      rw [cn]
      intro x10 e10
      have e10 : x10 = nI (4 * A3 0 9) := e10.trans (pk_mul 4 _)
      rw [e10, nI_1, show nI (4 * A3 0 9) + 2 = nI (4 * A3 0 9 + 2) from nI_add _ 2, nI_clamp (by omega), nI_clamp (by omega), nI_clamp (by omega)]
      refine ⟨(vin_iff (by omega)).mpr (by omega), ?_⟩
      intro u1 eu1
      refine ⟨(vin_iff (by omega)).mpr (by omega), ?_⟩
      intro u2' eu2
      refine ⟨(vin_iff (by omega)).mpr (by omega), ?_⟩
      intro u3 eu3
      have fin : ∀ (fl : Int32) (v2 : Int32), ((v2 = 0 → ∀ s', RP n tp s0 P op q0 c0 g0 h0 pd ph 0 (k + 2) (gInc 9 A3) s' → gI s' 76 (4 * A3 0 9) = v1 ∧ gI s' 76 (4 * A3 0 9 + 1) = nI (rkd (A1 10 (A1 0 5))) ∧ gI s' 76 (4 * A3 0 9 + 2) = v3 ∧ gI s' 76 (4 * A3 0 9 + 3) = fl → (∀ i, i < 4 * A3 0 9 → gI s' 76 i = gI s3 76 i) → RR (x1, v2, s'))) → (¬ v2 = 0 → ∀ s', RP n tp s0 P op q0 c0 g0 h0 pd ph 0 (k + 2) (gInc 9 A3) s' → gI s' 76 (4 * A3 0 9) = v1 ∧ gI s' 76 (4 * A3 0 9 + 1) = nI (rkd (A1 10 (A1 0 5))) ∧ gI s' 76 (4 * A3 0 9 + 2) = v3 ∧ gI s' 76 (4 * A3 0 9 + 3) = fl → (∀ i, i < 4 * A3 0 9 → gI s' 76 i = gI s3 76 i) → wX11_next 68 s' (fun st16 => RR (x1, v2, st16))) → wX11_row_L169 68 RR x1 v2 fl (nI (4 * A3 0 9) + 3) u3 Q := by
        intro fl v2 y1 y2
        unfold wX11_row_L169 wX11_row_L191
        rw [show nI (4 * A3 0 9) + 3 = nI (4 * A3 0 9 + 3) from nI_add _ 3, nI_clamp (by omega)]
        refine ⟨(vin_iff (by omega)).mpr (by omega), ?_⟩
        intro u4 eu4 u5 eu5
        have g11 : gI u4 70 11 = nI (A3 0 9) := by rw [eu4, gI_uI, if_neg (by omega), eu3, gI_uI, if_neg (by omega), eu2, gI_uI, if_neg (by omega), eu1, gI_uI, if_neg (by omega)]; exact cn
        rw [g11, nI_1] at eu5
        obtain ⟨r1, r2, r3⟩ := r_cput (k := k + 2) hP.2 h3 (s5 := u5) (by rw [eu5, eu4, eu3, eu2, eu1])
        exact ⟨fun w => y1 w u5 r1 r2 r3, fun w => y2 w u5 r1 r2 r3⟩
      have g6 : gI u3 68 6 = nI (rkd (A3 10 (A3 0 5))) := by
        rw [eu3, gI_uI, if_neg (by omega), eu2, gI_uI, if_neg (by omega), eu1, gI_uI, if_neg (by omega)]
        exact (r_kd h3).1
      have k36 := (r_kd h3).2
      have i10 : gInc 9 A3 10 (gInc 9 A3 0 5) = A3 10 (A3 0 5) := rfl
      -- what the whole says of this compare
      have facts : A3 0 6 = 0 → (A 0 6 = 0) ∧ A3 0 9 = A 0 9 ∧ A3 0 5 = A 0 5 + 3 ∧ v1 = vI (fVc A3 (A 0 5)) ∧ v3 = vI (fVc A3 (A 0 5 + 2)) ∧ A3 10 (A 0 5 + 1) = A1 10 (A1 0 5) := by
        intro e3
        have e2 := fxv3.e0 e3
        have e1 := f12.1.e0 e2
        have e0 := fxv1.e0 e1
        obtain ⟨p1, p1'⟩ := pv1 e1
        obtain ⟨p3, p3'⟩ := pv3 e3
        have f13 := f12.tr p3
        refine ⟨e0, ?_, by omega, ?_, ?_, ?_⟩
        · rw [f13.2.2.2.2.2, p1.2.2.2.2.2]; rfl
        · rw [hv1 e0 e1, val_m f13 (by omega)]
        · rw [hv3 e2 e3]
          rw [show A2 0 5 = A 0 5 + 2 by omega]
        · rw [f13.1.1 10 _ (by unfold fxr; omega), p1']
      have op : nI (rkd (A1 10 (A1 0 5))) = nI (sgn (A1 10 (A1 0 5))) := (w1 hc).1
      refine ⟨fun w => ?_, fun w => ?_⟩
      · rw [g6, show (214 : Int32) = nI (rkd 25) from rfl, rkd_iff k36 (by omega)] at w
        have hn : ¬ (gInc 9 A3 10 (gInc 9 A3 0 5) = 25) := by rw [i10]; exact w
        rw [if_neg hn] at hq1
        unfold wX11_row_L148
        refine ⟨fun _ => fin 1 0 (fun _ s' hR hg hk => done s' ?_) (fun w' => absurd rfl w'), fun w' => absurd rfl w'⟩
        refine hq1 rfl s' hR (fun e => ?_)
        obtain ⟨e0, e9, e5, b1, b2, b3⟩ := facts e
        refine ⟨0, ?_, ?_⟩
        · show A3 0 9 + 1 = _
          omega
        · rw [← e9]
          refine ⟨by omega, ?_, ?_, ?_, ?_⟩
          · rw [hg.1, b1]; rfl
          · rw [hg.2.1, op, ← b3]; rfl
          · rw [hg.2.2.1, b2]; rfl
          · rw [hg.2.2.2]; rfl
      · rw [g6, show (214 : Int32) = nI (rkd 25) from rfl, rkd_iff k36 (by omega)] at w
        have hn : gInc 9 A3 10 (gInc 9 A3 0 5) = 25 := by rw [i10]; exact w
        rw [if_pos hn] at hq1 hq0
        have m5 : (mTk 25 (gInc 9 A3)).2 = u2 (gInc 9 A3) 0 5 (A3 0 5 + 1) := by unfold mTk; rw [if_pos hn]; rfl
        rw [m5] at hq1 hq0
        unfold wX11_row_L148
        refine ⟨fun w' => absurd w' (by decide), fun _ => fin 0 1 (fun w' => absurd w' (by decide)) (fun _ s' hR hg hk => ?_)⟩
        refine r_nx hP.1 hR (by omega) (by rw [hn]; omega) (fun s6 h6 hF6 => ?_)
        have e55 : gInc 9 A3 0 5 = A3 0 5 := rfl
        rw [e55] at h6
        have a5 : u2 (gInc 9 A3) 0 5 (A3 0 5 + 1) 0 5 = A3 0 5 + 1 := by rw [u2_a, if_pos ⟨rfl, rfl⟩]
        have a9 : u2 (gInc 9 A3) 0 5 (A3 0 5 + 1) 0 9 = A3 0 9 + 1 := by rw [u2_a, if_neg (by omega)]; unfold gInc; rw [u2_a, if_pos ⟨rfl, rfl⟩]
        have f35 : FxT 1 A3 (u2 (gInc 9 A3) 0 5 (A3 0 5 + 1)) := fxt_inc9.tr (fxt_at (by show A3 0 5 ≤ A3 0 5 + 1; omega))
        have at1 := fxv1.2.1
        have at3 := fxv3.2.1
        have c60 := h6.2.2.2.2.2.2.1
        generalize u2 (gInc 9 A3) 0 5 (A3 0 5 + 1) = A5 at h6 hq1 hq0 a5 a9 f35 c60
        refine ih (A5 0 9) (gI s6 76) A5 s6 (by omega) (h6.re.ba c60.2.1 (Nat.le_refl _) (fun i hi => c60.1 i hi) (fun _ _ => rfl)) (fun t6 s7 h7 hr7 => ?_) (fun t6 s7 h7 => hq0 t6 s7 h7)
        have an7 := h7.2.2.2.2.2.2.1.2.2
        have fx6 := fx_cmp (f := f) A5
        refine hq1 t6 s7 ((h7.ba (Nat.le_refl _) c60.2.2.2 (fun _ _ => rfl) (fun i hi => c60.2.2.1 i hi)).km (by omega)) (fun e => ?_)
        obtain ⟨c, hc1, hc2⟩ := hr7 e
        have e5' := fx6.e0 e
        have e3 := f35.1.e0 e5'
        obtain ⟨e0, e9, e5, b1, b2, b3⟩ := facts e3
        have pc := p_cmp (f := f) (F := fun A' => ∃ m, FxT m A5 A') h6.2.1.nf h6.2.1.1 h6.2.1.tl (fun A' c f _ _ _ _ => ⟨_, f⟩) t6 e
        obtain ⟨mm, fm⟩ := pc
        have f36 := f35.tr fm
        refine ⟨c + 1, by omega, ?_⟩
        rw [← e9]
        have rd : ∀ i, i < 4 * A3 0 9 + 4 → gI s7 76 i = gI s' 76 i := fun i hi => by
          rw [an7.1 i (by omega)]; exact hF6.i (by omega)
        have v3f : ∀ u, u < A3 0 5 → fVc (mCmp f A5).2 u = fVc A3 u := fun u hu => fVc_cg (fun i => f36.1.1 10 i (by unfold fxr; omega)) (f36.2.2.2.2.1 u hu)
        refine ⟨by omega, ?_, ?_, ?_, ?_, ?_⟩
        · rw [rd _ (by omega), hg.1, b1, v3f _ (by omega)]
        · rw [rd _ (by omega), hg.2.1, op, ← b3, f36.1.1 10 _ (by unfold fxr; omega)]
        · rw [rd _ (by omega), hg.2.2.1, b2, v3f _ (by omega)]
        · rw [rd _ (by omega), hg.2.2.2]; rfl
        · rw [show A 0 5 + 4 = A5 0 5 by omega, show A3 0 9 + 1 = A5 0 9 by omega]; exact hc2
    by_cases hc : 8 ≤ A1 10 (A1 0 5) ∧ A1 10 (A1 0 5) ≤ 10
    · have g := go hc
      exact ⟨fun _ => g, fun _ => ⟨fun _ => g, fun _ => ⟨fun _ => g, fun w => by
        rcases (w1 hc).2 with y | y | y
        · exact absurd y (by assumption)
        · exact absurd y (by assumption)
        · exact absurd y w⟩⟩⟩
    · obtain ⟨n1, n2, n3⟩ := w2 hc
      rw [if_neg hc] at hq0
      refine ⟨fun y => absurd y n1, fun _ => ⟨fun y => absurd y n2, fun _ => ⟨fun y => absurd y n3, fun _ => r_wr (Q := fun r6 st5 => Q (-100) st5) hP.1 h1 (fun s2 h2 => hq0 rfl s2 h2)⟩⟩⟩
theorem r_row (hP : P 68 ∧ P 70 ∧ P 76) (hA : 1 ≤ A 0 5) (h : RP n tp s0 P op q0 c0 g0 h0 pd ph 0 k A st) (hq1 : (mCmp 400 A).1 = true → ∀ st', RP n tp s0 P op q0 c0 g0 h0 pd ph 0 (k + 2) (mCmp 400 A).2 st' → ((mCmp 400 A).2 0 6 = 0 → ∃ c, (mCmp 400 A).2 0 9 = A 0 9 + (c + 1) ∧ rCmp (mCmp 400 A).2 (gI st' 76) c (A 0 5) (A 0 9)) → Q (nI (A 0 9)) st') (hq0 : (mCmp 400 A).1 = false → ∀ st', RF n tp s0 P (mCmp 400 A).2 st' → Q (-100) st') : wX11_row 68 st Q := by
  unfold wX11_row
  intro x1 e1
  have e1 : x1 = nI (A 0 9) := e1.trans h.2.2.2.1.2.2.2.2.2
  rw [e1]
  exact ⟨401, r_rowL hP 400 k c0 h0 A st (by omega) h hq1 hq0⟩
end MRW

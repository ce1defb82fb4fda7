/-! the reference's reader: acts -/
section MAC
variable {n : Nat} {tp : Nat → Nat} {s0 : St} {P : Nat → Prop} {op : Nat → Prop} {q0 c0 : Nat} {g0 h0 : Nat → Int32} {pd : Nat} {ph : Bool} {z k y : Nat} {A : Bk} {st st' : St} {Q : Int32 → St → Prop} {Qv : St → Prop}
theorem RP.cl (h : RP n tp s0 P (fun a => op a ∨ a = y) q0 c0 g0 h0 pd ph z k A st) (ho : A 0 6 = 0 → OG A st y) : RP n tp s0 P op q0 c0 g0 h0 pd ph z k A st := by
  obtain ⟨t, l, c1, c2, c3, c4, c5, c6⟩ := h
  refine ⟨t, l, c1, c2, c3, c4, c5, fun e => ?_⟩
  obtain ⟨b1, b2, b3, b4, b5, b6, b7⟩ := c6 e
  refine ⟨b1, b2, b3, b4, b5, b6, fun a ha hn => ?_⟩
  by_cases w : a = y
  · rw [w]; exact ho e
  · exact b7 a ha (fun q => q.elim hn w)
theorem RP.opn (h : RP n tp s0 P op q0 c0 g0 h0 pd ph z k A st) : RP n tp s0 P (fun a => op a ∨ a = y) q0 c0 g0 h0 pd ph z k A st := by
  obtain ⟨t, l, c1, c2, c3, c4, c5, c6⟩ := h
  refine ⟨t, l, c1, c2, c3, c4, c5, fun e => ?_⟩
  obtain ⟨b1, b2, b3, b4, b5, b6, b7⟩ := c6 e
  exact ⟨b1, b2, b3, b4, b5, b6, fun a ha hn => b7 a ha (fun q => hn (Or.inl q))⟩
/-- what an act's orders say, kept behind it -/
theorem og_keep {A A' : Bk} {a : Nat} (hb : BDa A' a) (hg : GFa A' (gI st 75) (gI st 76) a) (h1 : ∀ i, i < 4 * A' 19 a → gI st' 75 i = gI st 75 i) (h2 : ∀ i, i < 4 * A' 0 9 → gI st' 76 i = gI st 76 i) : OG A' st' a :=
  OG.fx (A := A') (st := st) ⟨hb, hg⟩ (fun _ => rfl) (fun _ _ _ => rfl) (fun _ _ => rfl) (Nat.le_refl _) (Nat.le_refl _) (Nat.le_refl _) (fun i _ hi => h1 i hi) h2
/-- the semicolon behind an act with one order -/
theorem r_semi {x : Nat} {A3 : Bk} (hP : P 68) (hy : y = x - 1) (h : RP n tp s0 P (fun a => op a ∨ a = y) q0 c0 g0 h0 pd ph 0 k A3 st) (hog : (mTk 6 A3).1 = true → (mTk 6 A3).2 0 6 = 0 → BDa (mTk 6 A3).2 y ∧ GFa (mTk 6 A3).2 (gI st 75) (gI st 76) y) (hq : RO n tp s0 P op q0 c0 g0 h0 pd ph (k + 1) Q (mTk 6 A3)) : wX11_take 68 59 st Q := by
  have ha := h.2.2.2.2.2.2.1
  refine r_take (kk := 6) (k := k) (z := 0) (A := A3) hP h.re (by omega) (by omega) (by omega) ⟨fun t s1 h1 => ?_, fun t s1 h1 => hq.2 t s1 h1⟩
  have an := h1.2.2.2.2.2.2.1
  have hb := h1.ba (q0 := q0) (c0 := c0) (g0 := g0) (h0 := h0) ha.2.1 ha.2.2.2 (fun i hi => ha.1 i hi) (fun i hi => ha.2.2.1 i hi)
  refine hq.1 t s1 (hb.cl (fun e => ?_))
  obtain ⟨b1, b2⟩ := hog t e
  have m8 : (mTk 6 A3).2 0 8 = A3 0 8 := by unfold mTk; split <;> rfl
  have m9 : (mTk 6 A3).2 0 9 = A3 0 9 := by unfold mTk; split <;> rfl
  have l19 := b1.2.2.1
  exact og_keep (A := A3) b1 b2 (fun i hi => an.1 i (by omega)) (fun i hi => an.2.2.1 i (by omega))
theorem AQ.lc {x : Nat} {A' : Bk} (h : AQ x A A') (hx : 1 ≤ x) (h5 : A 5 (x - 1) = A 0 5) (h7 : A 7 (x - 1) = 0) (h12 : A 12 (x - 1) ≤ 2) (h18 : A 18 (x - 1) = A 0 8) : LC A' (x - 1) := by
  obtain ⟨q1, q2, q3, q4, q5, q6, q7, q8, q9, q10, q11⟩ := h
  have r5 := q6 5 (by omega)
  have r7 := q6 7 (by omega)
  have r12 := q6 12 (by omega)
  have r18 := q6 18 (by omega)
  exact ⟨by omega, by omega, by omega, by omega, fun w => absurd (r7.trans h7) w, q10⟩
theorem RO.km {k2 : Nat} {r : Bool × Bk} (h : RO n tp s0 P op q0 c0 g0 h0 pd ph k2 Q r) (hk : k2 ≤ k) : RO n tp s0 P op q0 c0 g0 h0 pd ph k Q r := ⟨fun t s1 h1 => h.1 t s1 (h1.km hk), h.2⟩
/-- an act without a fault: where it stands -/
def AN (x : Nat) (A : Bk) (r : Bool × Bk) : Prop := r.1 = true → r.2 0 6 = 0 → AQ x A r.2 ∧ 1 ≤ x ∧ A 5 (x - 1) = A 0 5 ∧ A 7 (x - 1) = 0 ∧ A 12 (x - 1) ≤ 2 ∧ A 18 (x - 1) = A 0 8 ∧ A 0 5 < A 0 4 ∧ NF A ∧ TkL A
theorem AN.bd {x : Nat} {r : Bool × Bk} (h : AN x A r) (t : r.1 = true) (e : r.2 0 6 = 0) : BDa r.2 (x - 1) ∧ r.2 18 (x - 1) = A 0 8 ∧ r.2 5 (x - 1) = A 0 5 := by
  obtain ⟨a1, a2, a3, a4, a5, a6, a7⟩ := h t e
  exact ⟨(a1.lc a2 a3 a4 a5 a6).bd, by rw [a1.2.2.2.2.2.1 18 (by omega)]; exact a6, by rw [a1.2.2.2.2.2.1 5 (by omega)]; exact a3⟩
/-- an act of one order that is put whole: then its semicolon -/
theorem r_one {x kk : Nat} {p2 p3 : Int32} {A2 : Bk} (hP : P 68 ∧ P 70 ∧ P 75) (hy : y = x - 1) (hkk : kk = 16 ∨ kk = 18 ∨ kk = 19 ∨ kk = 20 ∨ kk = 21) (hk0 : A 10 (A 0 5) = kk) (h : RP n tp s0 P (fun a => op a ∨ a = y) q0 c0 g0 h0 pd ph 0 (k + 1) A2 st) (hAN : AN x A (mEnd x A2)) (h28 : (mEnd x A2).2 0 6 = 0 → A2 0 8 = A 0 8 ∧ A2 10 (A 0 5) = A 10 (A 0 5))
    (h16 : (mEnd x A2).2 0 6 = 0 → kk = 16 → p2 = wI (fWc A2 (A 0 5 + 1)) ∧ p3 = wO (fWith A2 (A 0 5 + 2))) (h18 : (mEnd x A2).2 0 6 = 0 → kk = 18 ∨ kk = 19 ∨ kk = 20 → p2 = vI (fVc A2 (A 0 5 + 1))) (h21 : (mEnd x A2).2 0 6 = 0 → kk = 21 → p2 = nI (A2 11 (A 0 5 + 1) - 1)) (hq : RO n tp s0 P op q0 c0 g0 h0 pd ph (k + 1) Q (mEnd x A2)) : wX10_put 70 (nI (189 + kk)) p2 p3 st (fun r7 st6 => (wX11_take 68 59 st6 (fun r9 st8 => Q r9 st8))) := by
  refine r_put (k := k) hP.2 h (fun s1 h1 o0 o1 o2 ok oth j1 => ?_)
  have h2 : RP n tp s0 P (fun a => op a ∨ a = y) q0 c0 g0 h0 pd ph 0 k (gPe x (gInc 8 A2)) s1 := h1.g (r := 19) (Or.inl ar19) (by omega) (Or.inl (Or.inr hy.symm))
  refine r_semi hP.1 hy h2 (fun t e => ?_) hq
  obtain ⟨b1, b2, b3⟩ := hAN.bd t e
  obtain ⟨e8, e10⟩ := h28 e
  have ev : ∀ r j, r = 10 ∨ r = 11 → (mTk 6 (gPe x (gInc 8 A2))).2 r j = A2 r j := fun r j hr => by
    have e1 : gPe x (gInc 8 A2) r j = A2 r j := by
      unfold gPe gSet gInc
      rw [u2_a, if_neg (by omega), u2_a, if_neg (by omega)]
    rw [← e1, (kn_tk _).1 r j (by omega)]
  have b1 : BDa (mTk 6 (gPe x (gInc 8 A2))).2 (x - 1) := b1
  have b2 : (mTk 6 (gPe x (gInc 8 A2))).2 18 (x - 1) = A 0 8 := b2
  have b3 : (mTk 6 (gPe x (gInc 8 A2))).2 5 (x - 1) = A 0 5 := b3
  generalize (mTk 6 (gPe x (gInc 8 A2))).2 = A' at b1 b2 b3 ev
  rw [hy]
  refine ⟨b1, ?_⟩
  have k10 : A' 10 (A 0 5) = kk := by rw [ev 10 _ (by omega), e10]; exact hk0
  rw [e8] at o0 o1 o2
  unfold GFa
  rw [b2, b3, k10]
  refine ⟨o0, fun w => ?_, fun w => ?_, fun w => ?_, fun w => by omega, fun w => by omega, fun w => by omega⟩
  · obtain ⟨w1, w2⟩ := h16 e w
    rw [o1, o2, w1, w2]
    refine ⟨?_, ?_⟩
    · unfold fWc; rw [ev 10 _ (by omega), ev 11 _ (by omega)]
    · unfold fWith fWc; rw [ev 10 _ (by omega), ev 10 _ (by omega), ev 11 _ (by omega)]
  · rw [o1, h18 e w]
    unfold fVc; rw [ev 10 _ (by omega), ev 11 _ (by omega)]
  · rw [o1, h21 e w, ev 11 _ (by omega)]
theorem ra_send {x : Nat} (hP : P 68 ∧ P 70 ∧ P 75) (hph : ph = true) (hy : y = x - 1) (hk0 : A 10 (A 0 5) = 16) (h : RP n tp s0 P (fun a => op a ∨ a = y) q0 c0 g0 h0 pd ph 0 (k + 1) (u2 A 0 5 (A 0 5 + 1)) st) (hAN : AN x A (mSend x A)) (hq : RO n tp s0 P op q0 c0 g0 h0 pd ph (k + 2) Q (mSend x A)) : wX11_send 68 st Q := by
  unfold wX11_send
  have hw0 := h.2.1.nf
  unfold mSend at hAN hq
  have m1 : mTk 16 A = (true, u2 A 0 5 (A 0 5 + 1)) := by unfold mTk; rw [if_pos hk0]
  rw [m1, bd_t rfl] at hAN hq
  have f1 := fxt_at (A := A) (v := A 0 5 + 1) (by omega)
  have a15 : u2 A 0 5 (A 0 5 + 1) 0 5 = A 0 5 + 1 := by rw [u2_a, if_pos ⟨rfl, rfl⟩]
  have hAN : AN x A (bd (mWho (u2 A 0 5 (A 0 5 + 1))) fun A => bd (if A 10 (A 0 5) = 17 then bd (mTk 17 A) mWho else (true, A)) (mEnd x)) := hAN
  have hq : RO n tp s0 P op q0 c0 g0 h0 pd ph (k + 2) Q (bd (mWho (u2 A 0 5 (A 0 5 + 1))) fun A => bd (if A 10 (A 0 5) = 17 then bd (mTk 17 A) mWho else (true, A)) (mEnd x)) := hq
  generalize u2 A 0 5 (A 0 5 + 1) = A1 at h hAN hq f1 a15 hw0
  refine r_who hP.1 hph h (fun t2 s2 v2 h2 ne2 hv2 => ?_) (fun t2 s2 h2 => ⟨fun w => absurd rfl w, fun _ => ?_⟩)
  · rw [bd_t t2] at hAN hq
    have pw : (mWho A1).2 0 6 = 0 → FxT 0 A1 (mWho A1).2 ∧ (mWho A1).2 0 5 = A1 0 5 + 1 := fun e => p_who (F := fun A' => FxT 0 A1 A' ∧ A' 0 5 = A1 0 5 + 1) hw0 (fun A' a _ b _ => ⟨a, b⟩) t2 e
    have fw := fx_who A1
    generalize (mWho A1).2 = A2 at h2 hv2 hAN hq pw fw
    refine ⟨fun _ => ?_, fun w => absurd w ne2⟩
    obtain ⟨k1, k2⟩ := r_kd h2
    rw [k1, show (206 : Int32) = nI (rkd 17) from rfl, rkd_iff k2 (by omega)]
    refine ⟨fun w => ?_, fun w => ?_⟩
    · have hAN : AN x A (bd (if A2 10 (A2 0 5) = 17 then bd (mTk 17 A2) mWho else (true, A2)) (mEnd x)) := hAN
      have hq : RO n tp s0 P op q0 c0 g0 h0 pd ph (k + 2) Q (bd (if A2 10 (A2 0 5) = 17 then bd (mTk 17 A2) mWho else (true, A2)) (mEnd x)) := hq
      rw [if_neg w, bd_t rfl] at hAN hq
      unfold wX11_send_L42
      have hAN : AN x A (mEnd x A2) := hAN
      have hq : RO n tp s0 P op q0 c0 g0 h0 pd ph (k + 2) Q (mEnd x A2) := hq
      have fc : (mEnd x A2).2 0 6 = 0 → A2 0 6 = 0 := fun e => (fx_end A2).e0 e
      refine r_one (kk := 16) (k := k + 1) hP hy (by omega) hk0 h2 hAN (fun e => ?_) (fun e _ => ?_) (fun _ w => by omega) (fun _ w => by omega) hq
      · obtain ⟨g1, g2⟩ := pw (fc e)
        have f := f1.tr g1
        exact ⟨f.2.2.2.1, f.1.1 10 _ (by unfold fxr; omega)⟩
      · obtain ⟨g1, g2⟩ := pw (fc e)
        have e1 := g1.1.e0 (fc e)
        refine ⟨by rw [← a15]; exact hv2 e1 (fc e), ?_⟩
        unfold fWith
        rw [if_neg (by rw [show A 0 5 + 2 = A2 0 5 by omega]; exact w)]
        rfl
    · have hAN : AN x A (bd (if A2 10 (A2 0 5) = 17 then bd (mTk 17 A2) mWho else (true, A2)) (mEnd x)) := hAN
      have hq : RO n tp s0 P op q0 c0 g0 h0 pd ph (k + 2) Q (bd (if A2 10 (A2 0 5) = 17 then bd (mTk 17 A2) mWho else (true, A2)) (mEnd x)) := hq
      rw [if_pos w] at hAN hq
      have m3 : mTk 17 A2 = (true, u2 A2 0 5 (A2 0 5 + 1)) := by unfold mTk; rw [if_pos w]
      rw [m3, show bd (true, u2 A2 0 5 (A2 0 5 + 1)) mWho = mWho (u2 A2 0 5 (A2 0 5 + 1)) from bd_t rfl] at hAN hq
      refine r_nx hP.1 h2 (by omega) (by omega) (fun s3 h3 _ => ?_)
      have f3 := fxt_at (A := A2) (v := A2 0 5 + 1) (by omega)
      have a35 : u2 A2 0 5 (A2 0 5 + 1) 0 5 = A2 0 5 + 1 := by rw [u2_a, if_pos ⟨rfl, rfl⟩]
      have hw3 := h3.2.1.nf
      have hAN : AN x A (bd (mWho (u2 A2 0 5 (A2 0 5 + 1))) (mEnd x)) := hAN
      have hq : RO n tp s0 P op q0 c0 g0 h0 pd ph (k + 2) Q (bd (mWho (u2 A2 0 5 (A2 0 5 + 1))) (mEnd x)) := hq
      generalize u2 A2 0 5 (A2 0 5 + 1) = A3 at h3 hAN hq f3 a35 hw3
      refine r_who hP.1 hph h3 (fun t4 s4 v4 h4 ne4 hv4 => ?_) (fun t4 s4 h4 => ⟨fun w => absurd rfl w, fun _ => ?_⟩)
      · rw [bd_t t4] at hAN hq
        have pw4 : (mWho A3).2 0 6 = 0 → FxT 0 A3 (mWho A3).2 ∧ (mWho A3).2 0 5 = A3 0 5 + 1 := fun e => p_who (F := fun A' => FxT 0 A3 A' ∧ A' 0 5 = A3 0 5 + 1) hw3 (fun A' a _ b _ => ⟨a, b⟩) t4 e
        generalize (mWho A3).2 = A4 at h4 hv4 hAN hq pw4
        refine ⟨fun _ => ?_, fun w => absurd w ne4⟩
        unfold wX11_send_L42
        have fc : (mEnd x A4).2 0 6 = 0 → A4 0 6 = 0 := fun e => (fx_end A4).e0 e
        refine r_one (kk := 16) (k := k + 3) hP hy (by omega) hk0 h4 hAN (fun e => ?_) (fun e _ => ?_) (fun _ w => by omega) (fun _ w => by omega) (hq.km (by omega))
        · have g4 := pw4 (fc e)
          have e3 := g4.1.1.e0 (fc e)
          have e2 := f3.1.e0 e3
          obtain ⟨g1, g2⟩ := pw e2
          have f := ((f1.tr g1).tr f3).tr g4.1
          exact ⟨f.2.2.2.1, f.1.1 10 _ (by unfold fxr; omega)⟩
        · have g4 := pw4 (fc e)
          have e3 := g4.1.1.e0 (fc e)
          have e2 := f3.1.e0 e3
          obtain ⟨g1, g2⟩ := pw e2
          have e1 := g1.1.e0 e2
          have f34 := f3.tr g4.1
          refine ⟨?_, ?_⟩
          · rw [hv2 e1 e2, a15, fWc_cg (A' := A4) (A := A2) (fun i => f34.1.1 10 i (by unfold fxr; omega)) (f34.2.2.2.2.1 _ (by omega))]
          · rw [hv4 e3 (fc e)]
            unfold fWith
            rw [if_pos (by rw [f34.1.1 10 _ (by unfold fxr; omega), show A 0 5 + 2 = A2 0 5 by omega]; exact w)]
            rw [show A 0 5 + 2 + 1 = A3 0 5 by omega]
            rfl
      · rw [bd_f t4] at hq
        exact hq.2 rfl s4 h4
  · rw [bd_f t2] at hq
    exact hq.2 rfl s2 h2
theorem ra_sim {x kk : Nat} (hP : P 68 ∧ P 70 ∧ P 75) (hy : y = x - 1) (hkk : kk = 18 ∨ kk = 19 ∨ kk = 20) (hk0 : A 10 (A 0 5) = kk) (h : RP n tp s0 P (fun a => op a ∨ a = y) q0 c0 g0 h0 pd ph 0 (k + 1) (u2 A 0 5 (A 0 5 + 1)) st) (hAN : AN x A (mSim x A)) (hq : RO n tp s0 P op q0 c0 g0 h0 pd ph (k + 2) Q (mSim x A)) : wX11_value 68 st (fun r16 st15 => ((¬ r16 = (-100) → (wX10_put 70 (nI (189 + kk)) r16 0 st15 (fun r18 st17 => (wX11_take 68 59 st17 (fun r20 st19 => Q r20 st19))))) ∧ (r16 = (-100) → Q 0 st15))) := by
  have hw0 := h.2.1.nf
  have hl0 := h.2.1.1
  unfold mSim at hAN hq
  have m1 : mTk (A 10 (A 0 5)) A = (true, u2 A 0 5 (A 0 5 + 1)) := by unfold mTk; rw [if_pos rfl]
  rw [m1, bd_t rfl] at hAN hq
  have f1 := fxt_at (A := A) (v := A 0 5 + 1) (by omega)
  have a15 : u2 A 0 5 (A 0 5 + 1) 0 5 = A 0 5 + 1 := by rw [u2_a, if_pos ⟨rfl, rfl⟩]
  have hAN : AN x A (bd (mVal (u2 A 0 5 (A 0 5 + 1))) (mEnd x)) := hAN
  have hq : RO n tp s0 P op q0 c0 g0 h0 pd ph (k + 2) Q (bd (mVal (u2 A 0 5 (A 0 5 + 1))) (mEnd x)) := hq
  generalize u2 A 0 5 (A 0 5 + 1) = A1 at h hAN hq f1 a15 hw0 hl0
  refine r_val hP.1 h (fun t2 s2 v2 h2 ne2 hv2 => ?_) (fun t2 s2 h2 => ⟨fun w => absurd rfl w, fun _ => ?_⟩)
  · rw [bd_t t2] at hAN hq
    have pw : (mVal A1).2 0 6 = 0 → FxT 0 A1 (mVal A1).2 ∧ (mVal A1).2 0 5 = A1 0 5 + 1 := fun e => p_val (F := fun A' => FxT 0 A1 A' ∧ A' 0 5 = A1 0 5 + 1) hw0 hl0 (fun A' a _ b _ => ⟨a, b⟩) t2 e
    generalize (mVal A1).2 = A2 at h2 hv2 hAN hq pw
    refine ⟨fun _ => ?_, fun w => absurd w ne2⟩
    have fc : (mEnd x A2).2 0 6 = 0 → A2 0 6 = 0 := fun e => (fx_end A2).e0 e
    refine r_one (kk := kk) (k := k + 1) hP hy (by omega) hk0 h2 hAN (fun e => ?_) (fun _ w => by omega) (fun e _ => ?_) (fun _ w => by omega) hq
    · obtain ⟨g1, g2⟩ := pw (fc e)
      have f := f1.tr g1
      exact ⟨f.2.2.2.1, f.1.1 10 _ (by unfold fxr; omega)⟩
    · obtain ⟨g1, g2⟩ := pw (fc e)
      have e1 := g1.1.e0 (fc e)
      rw [← a15]; exact hv2 e1 (fc e)
  · rw [bd_f t2] at hq
    exact hq.2 rfl s2 h2
theorem ra_do {x : Nat} (hP : P 68 ∧ P 70 ∧ P 75) (hph : ph = true) (hy : y = x - 1) (hk0 : A 10 (A 0 5) = 21) (h : RP n tp s0 P (fun a => op a ∨ a = y) q0 c0 g0 h0 pd ph 0 (k + 1) (u2 A 0 5 (A 0 5 + 1)) st) (hAN : AN x A (mDo x A)) (hq : RO n tp s0 P op q0 c0 g0 h0 pd ph (k + 2) Q (mDo x A)) : wX11_does 68 st Q := by
  unfold wX11_does
  have hw0 := h.2.1.nf
  unfold mDo at hAN hq
  have m1 : mTk 21 A = (true, u2 A 0 5 (A 0 5 + 1)) := by unfold mTk; rw [if_pos hk0]
  rw [m1, bd_t rfl] at hAN hq
  have f1 := fxt_at (A := A) (v := A 0 5 + 1) (by omega)
  have a15 : u2 A 0 5 (A 0 5 + 1) 0 5 = A 0 5 + 1 := by rw [u2_a, if_pos ⟨rfl, rfl⟩]
  have hAN : AN x A (bd (mPna (u2 A 0 5 (A 0 5 + 1))) (mEnd x)) := hAN
  have hq : RO n tp s0 P op q0 c0 g0 h0 pd ph (k + 2) Q (bd (mPna (u2 A 0 5 (A 0 5 + 1))) (mEnd x)) := hq
  generalize u2 A 0 5 (A 0 5 + 1) = A1 at h hAN hq f1 a15 hw0
  have hh := h
  obtain ⟨k1, k2⟩ := r_kd h
  rw [k1, show (2 : Int32) = nI (rkd 2) from rfl, rkd_iff k2 (by omega)]
  refine ⟨fun w => ?_, fun w => ?_⟩
  · obtain ⟨⟨t1, t2, t3⟩, ⟨l1, l2, l3, l4⟩, c1, c2, c3, ⟨m, m3, m4, x1, x2, x3, x4, x5, x6, x7⟩, c5, c6⟩ := h
    rw [x5, x6]
    have mx : (if nI m3 < nI m4 then nI m4 else nI m3) = nI (if m3 < m4 then m4 else m3) := by
      by_cases q : m3 < m4
      · rw [if_pos q, if_pos (nI_lt q (by omega))]
      · rw [if_neg q, if_neg (fun z => q ((nI_ltI (by omega) (by omega)).mp z))]
    rw [mx]
    have mP : mPna A1 = mTk 2 (mRes (fPn A1 (A1 14 (A1 0 5))) (mMk3 (fPn A1 (A1 14 (A1 0 5))) A1)) := rfl
    refine r_sk (a := m3) (f := fPn A1 (A1 14 (A1 0 5))) hP.1 hh (by split <;> omega) x2 w (fun e0 => ?_) (fun r st' => wX11_does_L47 68 r st' Q) (fun s1 r h1 hr hl => ?_)
    · obtain ⟨y1, y2⟩ := x7 e0
      obtain ⟨z1, z2⟩ := y2.1 hph
      rw [z2, z1]
      unfold fPn
      rw [show A1 0 0 + A1 0 2 - A1 0 0 = A1 0 2 by omega]
      refine fFind_cg (fun j hj => ?_)
      obtain ⟨u1, u2'⟩ := (c6 e0).2.1 j hj
      rw [u1, (l3 _ l1).2.1]
      exact decide_eq_decide.mpr (lN_inj u2' twd40)
    · unfold wX11_does_L47
      have fin : ∀ (v : Nat) (p2 : Int32), p2 = nI v → (A1 0 6 = 0 → (mMk3 (fPn A1 (A1 14 (A1 0 5))) A1) 0 6 = 0 → fPn A1 (A1 14 (A1 0 5)) = some v) → (wX10_put 70 210 p2 0 s1 (fun r7 st6 => (wX11_next 68 st6 (fun st8 => (wX11_take 68 59 st8 (fun r10 st9 => Q r10 st9)))))) := by
        intro v p2 hp2 hv
        refine r_put (k := k) hP.2 h1 (fun s2 h2 o0 o1 o2 ok oth j1 => ?_)
        have ha := h2.2.2.2.2.2.2.1
        have k3 : gInc 8 (mMk3 (fPn A1 (A1 14 (A1 0 5))) A1) 10 (gInc 8 (mMk3 (fPn A1 (A1 14 (A1 0 5))) A1) 0 5) = 2 := by
          show mMk3 (fPn A1 (A1 14 (A1 0 5))) A1 10 (mMk3 (fPn A1 (A1 14 (A1 0 5))) A1 0 5) = 2
          rw [mMk3_s (by omega), mMk3_s (by omega)]; exact w
        refine h2.re.res (r := fPn A1 (A1 14 (A1 0 5))) (by omega) k3 hP.1 (fun s3 h3 => ?_)
        have an := h3.2.2.2.2.2.2.1
        have h3 := h3.ba (q0 := q0) (c0 := c0) (g0 := g0) (h0 := h0) ha.2.1 ha.2.2.2 (fun i hi => ha.1 i hi) (fun i hi => ha.2.2.1 i hi)
        have tP : (mPna A1).1 = true := by rw [mP]; unfold mTk; rw [mk3_s5.1, mk3_s5.2, if_pos w]
        rw [bd_t tP] at hAN hq
        have eA : (mTk 2 (mRes (fPn A1 (A1 14 (A1 0 5))) (gInc 8 (mMk3 (fPn A1 (A1 14 (A1 0 5))) A1)))).2 = gInc 8 (mPna A1).2 := by
          rw [mP]
          have e5 : mMk3 (fPn A1 (A1 14 (A1 0 5))) A1 0 5 = A1 0 5 := mMk3_s (by omega)
          have e10 : mMk3 (fPn A1 (A1 14 (A1 0 5))) A1 10 (A1 0 5) = 2 := by rw [mMk3_s (by omega)]; exact w
          generalize mMk3 (fPn A1 (A1 14 (A1 0 5))) A1 = Am at e5 e10
          generalize fPn A1 (A1 14 (A1 0 5)) = f
          have q1 : mTk 2 (mRes f Am) = (true, u2 (u2 Am 11 (Am 0 5) (oS f)) 0 5 (Am 0 5 + 1)) := by
            unfold mTk mRes
            rw [show u2 Am 11 (Am 0 5) (oS f) 0 5 = Am 0 5 from rfl, show u2 Am 11 (Am 0 5) (oS f) 10 (Am 0 5) = Am 10 (Am 0 5) from rfl, e5, if_pos e10]
          have q2 : mTk 2 (mRes f (gInc 8 Am)) = (true, u2 (u2 (gInc 8 Am) 11 (Am 0 5) (oS f)) 0 5 (Am 0 5 + 1)) := by
            unfold mTk mRes
            rw [show u2 (gInc 8 Am) 11 (gInc 8 Am 0 5) (oS f) 0 5 = Am 0 5 from rfl, show u2 (gInc 8 Am) 11 (gInc 8 Am 0 5) (oS f) 10 (Am 0 5) = Am 10 (Am 0 5) from rfl, e5, if_pos e10, show gInc 8 Am 0 5 = A1 0 5 from e5]
          rw [q1, q2]
          show u2 (u2 (u2 Am 0 8 (Am 0 8 + 1)) 11 (Am 0 5) (oS f)) 0 5 (Am 0 5 + 1) = u2 (u2 (u2 Am 11 (Am 0 5) (oS f)) 0 5 (Am 0 5 + 1)) 0 8 (Am 0 8 + 1)
          rw [u2_cm (r1 := 0) (k1 := 8) (r2 := 11) (by omega), u2_cm (r1 := 0) (k1 := 8) (r2 := 0) (k2 := 5) (by omega)]
        rw [eA] at h3
        have h4 : RP n tp s0 P (fun a => op a ∨ a = y) q0 c0 g0 h0 pd ph 0 (k + 1) (gPe x (gInc 8 (mPna A1).2)) s3 := h3.g (r := 19) (Or.inl ar19) (by omega) (Or.inl (Or.inr hy.symm))
        refine r_semi hP.1 hy h4 (fun t e => ?_) hq
        obtain ⟨b1, b2, b3⟩ := hAN.bd t e
        have b1 : BDa (mTk 6 (gPe x (gInc 8 (mPna A1).2))).2 (x - 1) := b1
        have b2 : (mTk 6 (gPe x (gInc 8 (mPna A1).2))).2 18 (x - 1) = A 0 8 := b2
        have b3 : (mTk 6 (gPe x (gInc 8 (mPna A1).2))).2 5 (x - 1) = A 0 5 := b3
        have e2 : (mPna A1).2 0 6 = 0 := (fx_end (x := x) (mPna A1).2).e0 e
        have e6 := fx_res.e0 ((fx_tk (k := 2) _).e0 e2)
        obtain ⟨mm, _⟩ := mMk3_0 e6
        have e1 : A1 0 6 = 0 := by rw [mm] at e6; exact e6
        have hf := hv e1 e6
        have rv : (mPna A1).2 = u2 (u2 A1 11 (A1 0 5) (oS (fPn A1 (A1 14 (A1 0 5))))) 0 5 (A1 0 5 + 1) := res_v mm w
        have ev : ∀ r j, r = 10 ∨ r = 11 → (mTk 6 (gPe x (gInc 8 (mPna A1).2))).2 r j = (mPna A1).2 r j := fun r j hr => by
          have e1 : gPe x (gInc 8 (mPna A1).2) r j = (mPna A1).2 r j := by
            unfold gPe gSet gInc
            rw [u2_a, if_neg (by omega), u2_a, if_neg (by omega)]
          rw [← e1, (kn_tk _).1 r j (by omega)]
        generalize (mTk 6 (gPe x (gInc 8 (mPna A1).2))).2 = A' at b1 b2 b3 ev
        have a8 : mMk3 (fPn A1 (A1 14 (A1 0 5))) A1 0 8 = A 0 8 := by rw [mMk3_s (by omega), f1.2.2.2.1]
        have k21 : A' 10 (A 0 5) = 21 := by
          rw [ev 10 _ (by omega), rv]
          show A1 10 (A 0 5) = 21
          rw [f1.1.1 10 _ (by unfold fxr; omega)]; exact hk0
        rw [a8] at o0 o1 o2
        have g8 : gInc 8 (mMk3 (fPn A1 (A1 14 (A1 0 5))) A1) 0 8 = A 0 8 + 1 := by unfold gInc; rw [u2_a, if_pos ⟨rfl, rfl⟩, a8]
        rw [hy]
        refine ⟨b1, ?_⟩
        unfold GFa
        rw [b2, b3, k21]
        refine ⟨by rw [an.1 _ (by omega)]; exact o0, fun w => by omega, fun w => by omega, fun _ => ?_, fun w => by omega, fun w => by omega, fun w => by omega⟩
        rw [an.1 _ (by omega), o1, hp2, ev 11 _ (by omega), rv, ← a15]
        rw [u2_a, if_neg (by omega), u2_a, if_pos ⟨rfl, rfl⟩, hf]
        show nI v = nI (v + 1 - 1)
        rw [Nat.add_sub_cancel]
      cases r with
      | none =>
        refine fin 0 _ rfl (fun e0 e6 => ?_)
        have := (mMk3_0 e6).2
        rw [← hr e0] at this
        exact absurd rfl this
      | some v =>
        have hv := hl v rfl
        exact fin v _ (if0 (by omega)) (fun e0 _ => (hr e0).symm)
  · have mf : mPna A1 = (false, mRes (fPn A1 (A1 14 (A1 0 5))) (mMk3 (fPn A1 (A1 14 (A1 0 5))) A1)) := by
      unfold mPna mTk
      rw [mk3_s5.1, mk3_s5.2, if_neg w]
    rw [mf, bd_f rfl] at hq
    refine r_wr hP.1 hh (fun s1 h1 => hq.2 rfl s1 ⟨h1.1, ?_⟩)
    rw [h1.2, show (false, mRes (fPn A1 (A1 14 (A1 0 5))) (mMk3 (fPn A1 (A1 14 (A1 0 5))) A1)).2 0 5 = A1 0 5 from mk3_s5.1]
end MAC

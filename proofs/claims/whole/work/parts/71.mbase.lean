/-! the reference's reader, by the model: its small steps -/
def BDa (A : Bk) (a : Nat) : Prop := A 5 a + 3 ≤ A 0 5 ∧ A 18 a < A 19 a ∧ A 19 a ≤ A 0 8 ∧ (A 10 (A 5 a) = 16 → A 10 (A 5 a + 2) = 17 → A 5 a + 4 ≤ A 0 5) ∧ ((A 10 (A 5 a) = 22 ∨ A 10 (A 5 a) = 23) → A 5 a + 4 * A 21 a + 4 ≤ A 0 5 ∧ A 20 a + A 21 a + 1 ≤ A 0 9) ∧ (A 10 (A 5 a) = 23 → A 22 a = A 24 a + 1 → A 22 a ≤ A 19 a ∧ A 18 a + 1 ≤ A 24 a)
theorem LC.bd {A : Bk} {a : Nat} (h : LC A a) : BDa A a := by
  obtain ⟨y1, y2, y3, y4, y5, y6⟩ := h
  refine ⟨y1, y3, y4, ?_, ?_, ?_⟩ <;> rcases y6 with ⟨a1, a2, a3, a4⟩ | ⟨a1, a2, a3⟩ | ⟨a1, a2, a3, a4⟩ | ⟨a1, a2, a3, a4, a5, a6, a7⟩ <;> intro q
  · exact fun z => (a3 z).2
  · omega
  · omega
  · omega
  · omega
  · omega
  · omega
  · exact ⟨a3, a4⟩
  · omega
  · omega
  · omega
  · intro z
    obtain ⟨b1, b2, b3⟩ := a7 q
    rcases b3 with c | c
    · omega
    · exact ⟨c.2.1, b2⟩
/-- the orders of a read act -/
def OG (A : Bk) (st : St) (a : Nat) : Prop := BDa A a ∧ GFa A (gI st 75) (gI st 76) a
theorem OG.fx {A A' : Bk} {st st' : St} {a : Nat} (h : OG A st a) (h10 : ∀ i, A' 10 i = A 10 i) (hr : ∀ r, ar r → r ≠ 7 → A' r a = A r a) (h11 : ∀ i, i < A 0 5 → A' 11 i = A 11 i) (h5 : A 0 5 ≤ A' 0 5) (h8 : A 0 8 ≤ A' 0 8) (h9 : A 0 9 ≤ A' 0 9) (hog : ∀ i, 4 * A 18 a ≤ i → i < 4 * A 19 a → gI st' 75 i = gI st 75 i) (hcg : ∀ i, i < 4 * A 0 9 → gI st' 76 i = gI st 76 i) : OG A' st' a := by
  obtain ⟨⟨b1, b2, b3, b4, b5, b6⟩, c1, c2, c3, c4, c5, c6, c7⟩ := h
  have r5 := hr 5 (by unfold ar; omega) (by omega)
  have r18 := hr 18 (by unfold ar; omega) (by omega)
  have r19 := hr 19 (by unfold ar; omega) (by omega)
  have r20 := hr 20 (by unfold ar; omega) (by omega)
  have r21 := hr 21 (by unfold ar; omega) (by omega)
  have r22 := hr 22 (by unfold ar; omega) (by omega)
  have r24 := hr 24 (by unfold ar; omega) (by omega)
  unfold OG BDa GFa
  rw [r5, r18, r19, r20, r21, r22, r24, h10, h10]
  refine ⟨⟨by omega, b2, by omega, fun x y => by have := b4 x y; omega, fun x => by have := b5 x; omega, b6⟩, by rw [hog _ (by omega) (by omega)]; exact c1, fun x => ?_, fun x => ?_, fun x => ?_, fun x => ?_, fun x => ?_, fun x => ?_⟩
  · obtain ⟨d1, d2⟩ := c2 x
    rw [hog _ (by omega) (by omega), hog _ (by omega) (by omega), fWc_cg h10 (h11 _ (by omega))]
    refine ⟨d1, ?_⟩
    rw [d2]
    unfold fWith
    rw [h10]
    by_cases z : A 10 (A 5 a + 2) = 17
    · rw [if_pos z, if_pos z, fWc_cg h10 (h11 _ (by have := b4 x z; omega))]
    · rw [if_neg z, if_neg z]
  · rw [hog _ (by omega) (by omega), fVc_cg h10 (h11 _ (by omega))]; exact c3 x
  · rw [hog _ (by omega) (by omega), h11 _ (by omega)]; exact c4 x
  · obtain ⟨d1, d2⟩ := c5 x
    have := b5 x
    rw [hog _ (by omega) (by omega)]
    exact ⟨d1, rCmp_cg (T := A 0 5) (C := A 0 9) h10 h11 hcg (by omega) (by omega) d2⟩
  · obtain ⟨d1, d2, d3⟩ := c6 x
    rw [hog _ (by omega) (by omega), hog _ (by omega) (by omega), hog _ (by omega) (by omega)]
    exact ⟨d1, d2, d3⟩
  · obtain ⟨d1, d2⟩ := c7 x
    rw [hog _ (by omega) (by omega)]
    refine ⟨d1, fun y => ?_⟩
    have := b6 x y
    rw [hog _ (by omega) (by omega), hog _ (by omega) (by omega)]
    exact d2 y
/-- the data read, while no fault is -/
def RD (op : Nat → Prop) (A : Bk) (st : St) : Prop := (∀ k, k < A 0 0 → gJ st 69 k = lN (A 16 k) ∧ A 16 k < 2 ^ 40) ∧ (∀ k, k < A 0 2 → gJ st 69 (A 0 0 + k) = lN (A 17 k) ∧ A 17 k < 2 ^ 40) ∧ (∀ k, k < A 0 0 → gI st 71 k = nI (A 1 k) ∧ gI st 72 k = nI (A 2 k)) ∧ (∀ k, k < A 0 1 → gI st 73 k = nI (A 3 k)) ∧ (∀ k, A 0 1 ≤ k → k < 12 → gI st 73 k = nI 0) ∧ (∀ p, p < A 0 2 → gI st 74 p = nI (A 23 p) ∧ gI st 75 (4 * A 25 p) = nI 301 ∧ A 25 p < A 0 8) ∧ ∀ a, a < A 0 3 → ¬ op a → OG A st a
def KT (n : Nat) (tp : Nat → Nat) (A : Bk) : Prop := A 0 5 < A 0 4 ∧ A 0 4 ≤ 401 ∧ (∀ i, i < A 0 4 → A 10 i = tkd n tp i ∧ A 14 i = twd n tp i ∧ (2 ≤ tkd n tp i ↔ i + 1 ≠ A 0 4)) ∧ ∀ i, A 0 5 ≤ i → i < A 0 4 → A 11 i = tnum n tp i + 1
def KC (k : Nat) (A : Bk) : Prop := A 0 0 ≤ 8 ∧ A 0 1 ≤ 12 ∧ A 0 2 ≤ 6 ∧ A 0 3 ≤ 60 ∧ A 0 8 + A 0 9 + k ≤ A 0 5
def CN (A : Bk) (st : St) : Prop := gI st 70 0 = nI (A 0 0) ∧ gI st 70 1 = nI (A 0 1) ∧ gI st 70 2 = nI (A 0 2) ∧ gI st 70 3 = nI (A 0 3) ∧ gI st 70 9 = nI (A 0 8) ∧ gI st 70 11 = nI (A 0 9)
def FLt (n : Nat) (tp : Nat → Nat) (z : Nat) (A : Bk) (st : St) : Prop := A 0 6 ≤ 5 ∧ gI st 68 11 = nI (A 0 6) ∧ (A 0 6 = 0 → A 0 7 = 0 ∧ gI st 68 12 = -nI 1) ∧ (A 0 6 ≠ 0 → 1 ≤ A 0 7 ∧ gI st 68 12 = nI (tfr n tp (A 0 7 - 1))) ∧ A 0 7 ≤ A 0 5 + z
def NMs (pd : Nat) (ph : Bool) (A : Bk) (st : St) : Prop := ∃ m m3 m4, m ≤ 16 ∧ m3 ≤ 16 ∧ m4 ≤ 16 ∧ gI st 68 2 = nI m ∧ gI st 68 3 = nI m3 ∧ gI st 68 4 = nI m4 ∧ (A 0 6 = 0 → m = A 0 0 + A 0 2 + pd ∧ (ph = true → m3 = A 0 0 ∧ (if m3 < m4 then m4 else m3) = A 0 0 + A 0 2) ∧ (ph = false → m4 = 0))
def ANc (q0 c0 : Nat) (g0 h0 : Nat → Int32) (A : Bk) (st : St) : Prop := (∀ i, i < 4 * q0 → gI st 75 i = g0 i) ∧ q0 ≤ A 0 8 ∧ (∀ i, i < 4 * c0 → gI st 76 i = h0 i) ∧ c0 ≤ A 0 9
def RR (n : Nat) (tp : Nat → Nat) (op : Nat → Prop) (q0 c0 : Nat) (g0 h0 : Nat → Int32) (pd : Nat) (ph : Bool) (z k : Nat) (A : Bk) (st : St) : Prop := KC k A ∧ CN A st ∧ FLt n tp z A st ∧ NMs pd ph A st ∧ ANc q0 c0 g0 h0 A st ∧ (A 0 6 = 0 → RD op A st)
def RP (n : Nat) (tp : Nat → Nat) (s0 : St) (P : Nat → Prop) (op : Nat → Prop) (q0 c0 : Nat) (g0 h0 : Nat → Int32) (pd : Nat) (ph : Bool) (z k : Nat) (A : Bk) (st : St) : Prop := (TpR st n tp ∧ RS n tp (A 0 5) st ∧ FQ P s0 st) ∧ KT n tp A ∧ RR n tp op q0 c0 g0 h0 pd ph z k A st
def RF (n : Nat) (tp : Nat → Nat) (s0 : St) (P : Nat → Prop) (A : Bk) (st : St) : Prop := FQ P s0 st ∧ gI st 68 13 = nI (tfr n tp (A 0 5))
def RO (n : Nat) (tp : Nat → Nat) (s0 : St) (P : Nat → Prop) (op : Nat → Prop) (q0 c0 : Nat) (g0 h0 : Nat → Int32) (pd : Nat) (ph : Bool) (k : Nat) (Q : Int32 → St → Prop) (r : Bool × Bk) : Prop := (r.1 = true → ∀ st', RP n tp s0 P op q0 c0 g0 h0 pd ph 0 k r.2 st' → Q 1 st') ∧ (r.1 = false → ∀ st', RF n tp s0 P r.2 st' → Q 0 st')
section MRB
variable {n : Nat} {tp : Nat → Nat} {s0 : St} {P : Nat → Prop} {op : Nat → Prop} {q0 c0 : Nat} {g0 h0 : Nat → Int32} {pd : Nat} {ph : Bool} {z k : Nat} {A : Bk} {st st' : St} {Q : Int32 → St → Prop} {Qv : St → Prop}
theorem FN.i {d j : Nat} (h : FN st st') (hd : d ≠ 68 ∨ j < 5 ∨ 11 ≤ j) : gI st' d j = gI st d j := by
  by_cases e : d = 68
  · rw [e]; exact h.2 j (by omega)
  · exact h.1.gI (by unfold P68; exact e)
theorem RR.fn (h : RR n tp op q0 c0 g0 h0 pd ph z k A st) (hF : FN st st') : RR n tp op q0 c0 g0 h0 pd ph z k A st' := by
  obtain ⟨h1, h2, h3, ⟨m, m3, m4, h4⟩, h5, h6⟩ := h
  obtain ⟨a1, a2, a3, a4, a5, a6⟩ := h2
  refine ⟨h1, ?_, ?_, ⟨m, m3, m4, ?_⟩, ?_, fun e => ?_⟩
  · unfold CN
    rw [hF.i (by omega), hF.i (by omega), hF.i (by omega), hF.i (by omega), hF.i (by omega), hF.i (by omega)]
    exact ⟨a1, a2, a3, a4, a5, a6⟩
  · unfold FLt
    rw [hF.i (by omega), hF.i (by omega)]; exact h3
  · rw [hF.i (by omega), hF.i (by omega), hF.i (by omega)]; exact h4
  · exact ⟨fun i hi => by rw [hF.i (by omega)]; exact h5.1 i hi, h5.2.1, fun i hi => by rw [hF.i (by omega)]; exact h5.2.2.1 i hi, h5.2.2.2⟩
  · obtain ⟨b1, b2, b3, b4, b5, b6, b7⟩ := h6 e
    have J : ∀ j, gJ st' 69 j = gJ st 69 j := fun j => hF.1.gJ (by unfold P68; omega)
    refine ⟨fun k hk => by rw [J]; exact b1 k hk, fun k hk => by rw [J]; exact b2 k hk, fun k hk => by rw [hF.i (by omega), hF.i (by omega)]; exact b3 k hk, fun k hk => by rw [hF.i (by omega)]; exact b4 k hk, fun k x y => by rw [hF.i (by omega)]; exact b5 k x y, fun p hp => by rw [hF.i (by omega), hF.i (by omega)]; exact b6 p hp, fun a ha ho => ?_⟩
    exact (b7 a ha ho).fx (fun _ => rfl) (fun _ _ _ => rfl) (fun _ _ => rfl) (Nat.le_refl _) (Nat.le_refl _) (Nat.le_refl _) (fun i _ _ => hF.i (by omega)) (fun i _ => hF.i (by omega))
theorem OG.a5 {a v : Nat} (h : OG A st a) (hv : A 0 5 ≤ v) : OG (u2 A 0 5 v) st a := h.fx (fun _ => rfl) (fun r hr _ => by rw [u2_a, if_neg (by unfold ar at hr; omega)]) (fun _ _ => rfl) hv (Nat.le_refl _) (Nat.le_refl _) (fun _ _ _ => rfl) (fun _ _ => rfl)
/-- the next token -/
theorem r_nx (hP : P 68) (h : RP n tp s0 P op q0 c0 g0 h0 pd ph z k A st) (hz : z ≤ 1) (hk : 2 ≤ A 10 (A 0 5)) (hq : ∀ st', RP n tp s0 P op q0 c0 g0 h0 pd ph 0 (k + 1) (u2 A 0 5 (A 0 5 + 1)) st' → FN st st' → Qv st') : wX11_next 68 st Qv := by
  obtain ⟨⟨t1, t2, t3⟩, ⟨k1, k2, k3, k4⟩, h5⟩ := h
  obtain ⟨d1, d2, d3⟩ := k3 _ k1
  rw [d1] at hk
  have i1 := d3.mp hk
  obtain ⟨r1, r2, r3, r4, r5, r6⟩ := t2
  refine r_next (t := A 0 5 + 1) t1 (by omega) (fun j hj => ?_) (r6 hk) r5 (fun s1 hF hS => ?_)
  · exact (k3 j (by omega)).2.2.mpr (by omega)
  refine hq s1 ⟨⟨t1.fn hF, hS, t3.tr (hF.1.mo (fun d hd => by unfold P68 at hd; rw [hd]; exact hP))⟩, ⟨?_, k2, k3, fun i h1 h2 => ?_⟩, ?_⟩ hF
  · show A 0 5 + 1 < A 0 4
    omega
  · have h1 : A 0 5 + 1 ≤ i := h1
    exact k4 i (by omega) h2
  · obtain ⟨h1, h2, h3, h4, h5', h6⟩ := h5.fn hF
    obtain ⟨c1, c2, c3, c4, c5⟩ := h1
    obtain ⟨f1, f2, f3, f4, f5⟩ := h3
    refine ⟨⟨c1, c2, c3, c4, ?_⟩, h2, ⟨f1, f2, f3, f4, ?_⟩, h4, h5', fun e => ?_⟩
    · show A 0 8 + A 0 9 + (k + 1) ≤ A 0 5 + 1
      omega
    · show A 0 7 ≤ A 0 5 + 1 + 0
      omega
    · obtain ⟨b1, b2, b3, b4, b5, b6, b7⟩ := h6 e
      exact ⟨b1, b2, b3, b4, b5, b6, fun a ha ho => (b7 a ha ho).a5 (by omega)⟩
theorem r_wr (hP : P 68) (h : RP n tp s0 P op q0 c0 g0 h0 pd ph z k A st) (hq : ∀ st', RF n tp s0 P A st' → Q 0 st') : wX11_wrong 68 st Q := by
  unfold wX11_wrong
  intro s1 e1
  obtain ⟨⟨t1, t2, t3⟩, _⟩ := h
  rw [t2.2.1] at e1
  refine hq s1 ⟨?_, ?_⟩
  · rw [e1]; exact t3.tr (FQ.uI hP)
  · rw [e1, gI_uI, if_pos ⟨rfl, rfl⟩]
theorem r_kd (h : RP n tp s0 P op q0 c0 g0 h0 pd ph z k A st) : gI st 68 6 = nI (rkd (A 10 (A 0 5))) ∧ A 10 (A 0 5) ≤ 36 := by
  obtain ⟨⟨t1, t2, t3⟩, ⟨k1, k2, k3, k4⟩, h5⟩ := h
  rw [(k3 _ k1).1]
  exact ⟨t2.1, tkd_rg⟩
theorem rkd_iff {a b : Nat} (ha : a ≤ 36) (hb : b ≤ 36) : nI (rkd a) = nI (rkd b) ↔ a = b := by
  have := rkd_lt ha
  have := rkd_lt hb
  rw [nI_eq (by omega) (by omega)]
  exact ⟨fun e => rkd_inj a (by omega) b (by omega) e, fun e => by rw [e]⟩
theorem r_take {kk : Nat} (hP : P 68) (h : RP n tp s0 P op q0 c0 g0 h0 pd ph z k A st) (hz : z ≤ 1) (h2 : 2 ≤ kk) (h36 : kk ≤ 36) (hq : RO n tp s0 P op q0 c0 g0 h0 pd ph (k + 1) Q (mTk kk A)) : wX11_take 68 (nI (rkd kk)) st Q := by
  unfold wX11_take
  obtain ⟨k1, k2⟩ := r_kd h
  rw [k1, rkd_iff k2 h36]
  unfold RO mTk at hq
  refine ⟨fun e => r_nx hP h hz (by omega) (fun s1 h1 _ => ?_), fun e => r_wr hP h (fun s1 h1 => ?_)⟩
  · rw [if_pos e] at hq
    exact hq.1 rfl s1 h1
  · rw [if_neg e] at hq
    exact hq.2 rfl s1 h1
theorem tfr_step {t : Nat} (h : 2 ≤ tkd n tp t) : tfr n tp t < tfr n tp (t + 1) := by
  obtain ⟨h1, h2, h3⟩ := tkd_in h
  have : tfr n tp t < fEd n tp (tfr n tp t) := by
    by_cases l : isL (tp (tfr n tp t)) = true
    · exact (fEd_word h1 l).1
    · have l := (Bool.not_eq_true _).mp l
      by_cases d : isD (tp (tfr n tp t)) = true
      · exact (fEd_num h1 l d).1
      · rw [fEd_sign l ((Bool.not_eq_true _).mp d)]; omega
  have e : tps n tp (t + 1) = fEd n tp (tfr n tp t) := rfl
  have := sk_ge (P := isB) (n := n) (tp := tp) (d := n) (i := tps n tp (t + 1)) (by omega)
  unfold tfr at *
  omega
theorem tfr_mono {t t2 : Nat} (hlt : t < t2) (h : ∀ j, j < t2 → 2 ≤ tkd n tp j) : tfr n tp t < tfr n tp t2 := by
  induction t2 with
  | zero => omega
  | succ t2 ih =>
    have s := tfr_step (h t2 (by omega))
    by_cases e : t = t2
    · rw [e]; exact s
    · exact Nat.lt_trans (ih (by omega) (fun j hj => h j (by omega))) s
theorem KT.le (h : KT n tp A) : ∀ j, j < A 0 5 → 2 ≤ tkd n tp j := fun j hj => (h.2.2.1 j (by have := h.1; omega)).2.2.mpr (by have := h.1; omega)
/-- a fault is noted -/
theorem r_note {e : Nat} (hP : P 68) (h : RP n tp s0 P op q0 c0 g0 h0 pd ph z k A st) (hz : z ≤ 1) (he : 1 ≤ e) (he5 : e ≤ 5) (hs : A 0 6 ≠ 0 → A 0 7 = A 0 5 + 1 → A 0 6 < e) (hq : ∀ st', RP n tp s0 P op q0 c0 g0 h0 pd ph 1 k (mMk e A) st' → (∀ d, d ≠ 68 → st'.1 d = st.1 d) → st'.2 = st.2 → (∀ j, j ≠ 11 → j ≠ 12 → gI st' 68 j = gI st 68 j) → Qv st') : wX11_note 68 (nI e) st Qv := by
  unfold wX11_note
  have hh := h
  obtain ⟨⟨t1, t2, t3⟩, hK, c1, c2, ⟨f1, f2, f3, f4, f5⟩, c4, c5, c6⟩ := h
  have p2 := tfr_le hK.le
  have tn := t1.2.1
  have keep : RP n tp s0 P op q0 c0 g0 h0 pd ph 1 k A st := ⟨⟨t1, t2, t3⟩, hK, c1, c2, ⟨f1, f2, f3, f4, by omega⟩, c4, c5, c6⟩
  have m : A 0 6 ≠ 0 → mMk e A = A := fun q => by unfold mMk; rw [if_neg q]
  rw [f2, t2.2.1]
  refine ⟨fun q => ?_, fun q => ?_⟩
  · have q0 : A 0 6 = 0 := (nI_eq (b := 0) (by omega) (by omega)).mp q
    unfold wX11_note_L27
    intro s1 e1 s2 e2
    have g7 : gI s1 68 7 = nI (tfr n tp (A 0 5)) := by rw [e1, gI_uI, if_neg (by omega)]; exact t2.2.1
    rw [g7] at e2
    have mm : mMk e A = u2 (u2 A 0 6 e) 0 7 (A 0 5 + 1) := by unfold mMk; rw [if_pos q0]
    have gI2 : ∀ d j, gI s2 d j = if d = 68 ∧ j = 12 then nI (tfr n tp (A 0 5)) else if d = 68 ∧ j = 11 then nI e else gI st d j := fun d j => by rw [e2, gI_uI, e1, gI_uI]
    have F2 : FQ P68 st s2 := by rw [e2, e1]; exact (FQ.uI (P := P68) rfl).tr (FQ.uI (P := P68) rfl)
    have g3 : ∀ d j, (d ≠ 68 ∨ (j ≠ 11 ∧ j ≠ 12)) → gI s2 d j = gI st d j := fun d j y => by rw [gI2, if_neg (by omega), if_neg (by omega)]
    have J2 : s2.2 = st.2 := by rw [e2, e1]; rfl
    refine hq s2 ?_ (fun d hd => (F2.1.1 d hd).1) J2 (fun j h1 h2 => by rw [gI2, if_neg (by omega), if_neg (by omega)])
    rw [mm]
    refine ⟨⟨?_, ?_, t3.tr (F2.mo (fun d hd => by unfold P68 at hd; rw [hd]; exact hP))⟩, hK, c1, ?_, ⟨he5, ?_, fun z => absurd z (by show e ≠ 0; omega), fun _ => ⟨?_, ?_⟩, Nat.le_refl _⟩, ?_, ?_, fun z => absurd z (by show e ≠ 0; omega)⟩
    · exact ⟨(F2.gI (by unfold P68; omega)).trans t1.1, t1.2.1, fun i hi => (F2.gI (by unfold P68; omega)).trans (t1.2.2.1 i hi), t1.2.2.2⟩
    · obtain ⟨r1, r2, r3, r4, r5, r6⟩ := t2
      refine ⟨?_, ?_, fun z => ?_, fun z => ?_, ?_, fun z => ?_⟩
      · rw [gI2, if_neg (by omega), if_neg (by omega)]; exact r1
      · rw [gI2, if_neg (by omega), if_neg (by omega)]; exact r2
      · rw [gI2, if_neg (by omega), if_neg (by omega)]; exact r3 z
      · show s2.2.1 68 9 = _
        rw [J2]; exact r4 z
      · rw [gI2, if_neg (by omega), if_neg (by omega)]; exact r5
      · rw [gI2, if_neg (by omega), if_neg (by omega)]; exact r6 z
    · obtain ⟨a1, a2, a3, a4, a5, a6⟩ := c2
      exact ⟨(g3 70 0 (by omega)).trans a1, (g3 70 1 (by omega)).trans a2, (g3 70 2 (by omega)).trans a3, (g3 70 3 (by omega)).trans a4, (g3 70 9 (by omega)).trans a5, (g3 70 11 (by omega)).trans a6⟩
    · rw [gI2, if_neg (by omega), if_pos ⟨rfl, rfl⟩]; rfl
    · show 1 ≤ A 0 5 + 1; omega
    · rw [gI2, if_pos ⟨rfl, rfl⟩]; rfl
    · obtain ⟨m, m3, m4, x1, x2, x3, x4, x5, x6, x7⟩ := c4
      exact ⟨m, m3, m4, x1, x2, x3, (g3 68 2 (by omega)).trans x4, (g3 68 3 (by omega)).trans x5, (g3 68 4 (by omega)).trans x6, fun z => absurd z (by show e ≠ 0; omega)⟩
    · exact ⟨fun i hi => by rw [gI2, if_neg (by omega), if_neg (by omega)]; exact c5.1 i hi, c5.2.1, fun i hi => by rw [gI2, if_neg (by omega), if_neg (by omega)]; exact c5.2.2.1 i hi, c5.2.2.2⟩
  · have q0 : A 0 6 ≠ 0 := fun z => q (by rw [z]; rfl)
    obtain ⟨g1, g2⟩ := f4 q0
    have same : Qv st := hq st (by rw [m q0]; exact keep) (fun _ _ => rfl) rfl (fun _ _ _ => rfl)
    rw [g2]
    by_cases e7 : A 0 7 = A 0 5 + 1
    · have := hs q0 e7
      rw [e7, show A 0 5 + 1 - 1 = A 0 5 by omega]
      refine ⟨fun _ => same, fun _ => ⟨fun y => ?_, fun _ => same⟩⟩
      have := (nI_leI (by omega) (by omega)).mp y
      omega
    · have lt : tfr n tp (A 0 7 - 1) < tfr n tp (A 0 5) := tfr_mono (by omega) hK.le
      exact ⟨fun _ => same, fun y => absurd (nI_lt lt (by omega)) y⟩
end MRB

/-! the reference's reader: numbers, values, names -/
section MVL
variable {n : Nat} {tp : Nat → Nat} {s0 : St} {P : Nat → Prop} {op : Nat → Prop} {q0 c0 : Nat} {g0 h0 : Nat → Int32} {pd : Nat} {ph : Bool} {z k : Nat} {A : Bk} {st st' : St} {Q : Int32 → St → Prop} {Qv : St → Prop}
theorem RP.z1 (h : RP n tp s0 P op q0 c0 g0 h0 pd ph z k A st) (hz : z ≤ 1) : RP n tp s0 P op q0 c0 g0 h0 pd ph 1 k A st := by
  obtain ⟨t, hK, c1, c2, ⟨f1, f2, f3, f4, f5⟩, c4, c5, c6⟩ := h
  exact ⟨t, hK, c1, c2, ⟨f1, f2, f3, f4, by omega⟩, c4, c5, c6⟩
theorem rkd_lo {a : Nat} (ha : a ≤ 29) : rkd a < 219 := by unfold rkd; (repeat' split) <;> omega
theorem r_num {lo hi : Nat} (hP : P 68) (h : RP n tp s0 P op q0 c0 g0 h0 pd ph z k A st) (hz : z ≤ 1) (hs : A 0 6 ≠ 0 → A 0 7 = A 0 5 + 1 → A 0 6 < 5) (hl : lo < 2 ^ 30) (hh : hi < 2 ^ 30)
    (hq1 : A 10 (A 0 5) = 3 → ∀ st', RP n tp s0 P op q0 c0 g0 h0 pd ph 1 k (mOut lo hi A) st' → gI st' 68 8 = nI (A 11 (A 0 5) - 1) → Q 1 st') (hq0 : A 10 (A 0 5) ≠ 3 → ∀ st', RF n tp s0 P A st' → Q 0 st') : wX11_number 68 (nI lo) (nI hi) st Q := by
  unfold wX11_number
  have hh2 := h
  obtain ⟨k1, k2⟩ := r_kd h
  rw [k1, show (3 : Int32) = nI (rkd 3) from rfl, rkd_iff k2 (by omega)]
  refine ⟨fun e => ?_, fun e => r_wr hP h (hq0 e)⟩
  obtain ⟨⟨t1, t2, t3⟩, ⟨l1, l2, l3, l4⟩, h5⟩ := h
  have a11 := l4 _ (Nat.le_refl _) l1
  have kd := (l3 _ l1).1
  have g8 := t2.2.2.1 (by rw [← kd]; exact e)
  have tl := tnum_lt (n := n) (tp := tp) (t := A 0 5)
  unfold wX12_isIn
  rw [g8, nI_ltI (by omega) (by omega), nI_ltI (by omega) (by omega)]
  have v : tnum n tp (A 0 5) = A 11 (A 0 5) - 1 := by omega
  have bad : (tnum n tp (A 0 5) < lo ∨ hi < tnum n tp (A 0 5)) → wX11_note 68 5 st (fun st3 => Q 1 st3) := by
    intro y
    have m : mOut lo hi A = mMk 5 A := by unfold mOut; rw [if_pos (by rw [← v]; exact y)]
    refine r_note (e := 5) hP hh2 hz (by omega) (by omega) hs (fun s1 h1 _ _ hg => hq1 e s1 (by rw [m]; exact h1) ?_)
    rw [hg 8 (by omega) (by omega), g8, v]
  refine ⟨fun y => ⟨fun w => absurd rfl w, fun _ => bad (Or.inl y)⟩, fun y => ⟨fun y2 => ⟨fun w => absurd rfl w, fun _ => bad (Or.inr y2)⟩, fun y2 => ⟨fun _ => ?_, fun w => absurd w (by decide)⟩⟩⟩
  have m : mOut lo hi A = A := by unfold mOut; rw [if_neg (by rw [← v]; omega)]
  exact hq1 e st (by rw [m]; exact hh2.z1 hz) (by rw [g8, v])
theorem nI_100 {v : Nat} (h : v < 2 ^ 30) : nI v ≠ -nI 100 := by
  intro e
  have : nI v + nI 100 = nI 0 := by rw [e]; rfl
  rw [nI_add] at this
  have := (nI_eq (by omega) (by omega)).mp this
  omega
theorem vI_100 : ∀ c, c < 107 → vI c ≠ -nI 100 := by decide +kernel
theorem val_code : ∀ a, a < 37 → 30 ≤ a → ¬ nI (rkd a) < 219 ∧ ¬ (225 : Int32) < nI (rkd a) ∧ ((-1 : Int32) - (nI (rkd a) - 219)) = vI (a + 70) := by decide +kernel
theorem val_no : ∀ a, a < 30 → nI (rkd a) < 219 := by decide +kernel
theorem r_val (hP : P 68) (h : RP n tp s0 P op q0 c0 g0 h0 pd ph 0 k A st) (hq1 : (mVal A).1 = true → ∀ st' v, RP n tp s0 P op q0 c0 g0 h0 pd ph 0 (k + 1) (mVal A).2 st' → v ≠ -nI 100 → (A 0 6 = 0 → (mVal A).2 0 6 = 0 → v = vI (fVc (mVal A).2 (A 0 5))) → Q v st') (hq0 : (mVal A).1 = false → ∀ st', RF n tp s0 P (mVal A).2 st' → Q (-nI 100) st') : wX11_value 68 st Q := by
  unfold wX11_value
  have hh2 := h
  obtain ⟨k1, k2⟩ := r_kd h
  rw [k1, show (3 : Int32) = nI (rkd 3) from rfl, rkd_iff k2 (by omega)]
  have fail : ¬ (30 ≤ A 10 (A 0 5) ∧ A 10 (A 0 5) ≤ 36) → A 10 (A 0 5) ≠ 3 → wX11_value_L64 68 (-100) st Q := by
    intro y1 y2
    unfold wX11_value_L64
    refine ⟨fun w => absurd rfl w, fun _ => r_wr (Q := fun r5 st4 => Q (-100) st4) hP hh2 (fun s1 h1 => ?_)⟩
    have m : mVal A = (false, mOut 0 99 A) := by unfold mVal mTk; rw [if_neg y1, mOut_s (by omega), mOut_s (by omega), if_neg y2]
    refine hq0 (by rw [m]) s1 ?_
    rw [m]
    exact ⟨h1.1, by rw [show (false, mOut 0 99 A).2 0 5 = A 0 5 from mOut_s (by omega)]; exact h1.2⟩
  refine ⟨fun e3 => ?_, fun e3 => ?_⟩
  · by_cases hk : 30 ≤ A 10 (A 0 5)
    · obtain ⟨w1, w2, w3⟩ := val_code _ (by omega) hk
      refine ⟨fun y => absurd y w1, fun _ => ⟨fun y => absurd y w2, fun _ => ?_⟩⟩
      rintro _ rfl
      rw [w3]
      unfold wX11_value_L64
      have ne := vI_100 (A 10 (A 0 5) + 70) (by omega)
      refine ⟨fun _ => r_nx hP hh2 (by omega) (by omega) (fun s1 h1 _ => ?_), fun y => absurd y ne⟩
      have m : mVal A = (true, u2 A 0 5 (A 0 5 + 1)) := by unfold mVal mTk; rw [if_pos ⟨hk, k2⟩, if_pos rfl]
      refine hq1 (by rw [m]) s1 _ (by rw [m]; exact h1) ne (fun _ _ => ?_)
      rw [m]
      show _ = vI (fVc (u2 A 0 5 (A 0 5 + 1)) (A 0 5))
      show _ = vI (if A 10 (A 0 5) = 3 then A 11 (A 0 5) - 1 else A 10 (A 0 5) + 70)
      rw [if_neg e3]
    · exact ⟨fun _ => fail (by omega) e3, fun y => absurd (val_no _ (by omega)) y⟩
  · obtain ⟨⟨t1, t2, t3⟩, ⟨l1, l2, l3, l4⟩, c1, c2, ⟨f1, f2, f3, f4, f5⟩, c4, c5, c6⟩ := h
    have a11 := l4 _ (Nat.le_refl _) l1
    have kd := (l3 _ l1).1
    have g8 := t2.2.2.1 (by rw [← kd]; exact e3)
    have tl := tnum_lt (n := n) (tp := tp) (t := A 0 5)
    have v : tnum n tp (A 0 5) = A 11 (A 0 5) - 1 := by omega
    have L25 : ∀ s1, RP n tp s0 P op q0 c0 g0 h0 pd ph 1 k (mOut 0 99 A) s1 → gI s1 68 8 = nI (tnum n tp (A 0 5)) → wX11_value_L25 68 s1 Q := by
      intro s1 h1 g1
      unfold wX11_value_L25
      rintro _ rfl
      rw [g1]
      unfold wX11_value_L64
      have ne := nI_100 (v := tnum n tp (A 0 5)) (by omega)
      have m5 : mOut 0 99 A 0 5 = A 0 5 := mOut_s (by omega)
      have m10 : mOut 0 99 A 10 (A 0 5) = A 10 (A 0 5) := mOut_s (by omega)
      refine ⟨fun _ => r_nx hP h1 (by omega) (by rw [m5, m10]; omega) (fun s2 h2 _ => ?_), fun y => absurd y ne⟩
      have m : mVal A = (true, u2 (mOut 0 99 A) 0 5 (mOut 0 99 A 0 5 + 1)) := by unfold mVal mTk; rw [if_neg (by omega), m5, m10, if_pos e3]
      refine hq1 (by rw [m]) s2 _ (by rw [m]; exact h2) ne (fun y0 y1 => ?_)
      rw [m] at y1 ⊢
      show _ = vI (fVc (u2 (mOut 0 99 A) 0 5 (mOut 0 99 A 0 5 + 1)) (A 0 5))
      have y1 : mOut 0 99 A 0 6 = 0 := y1
      obtain ⟨o1, o2⟩ := mOut_0 y1
      show _ = vI (fVc (mOut 0 99 A) (A 0 5))
      rw [o1]
      unfold fVc
      rw [if_pos e3, v]
      unfold vI
      rw [if_pos (by omega)]
    rw [g8]
    refine ⟨fun y => L25 st ?_ g8, fun y => ?_⟩
    · have y := (nI_leI (b := 99) (by omega) (by omega)).mp y
      have m : mOut 0 99 A = A := by unfold mOut; rw [if_neg (by rw [← v]; omega)]
      rw [m]; exact hh2.z1 (by omega)
    · have y := Nat.lt_of_not_le (fun z => y (nI_le (b := 99) z (by omega)))
      have m : mOut 0 99 A = mMk 5 A := by unfold mOut; rw [if_pos (by rw [← v]; omega)]
      refine r_note (e := 5) hP hh2 (by omega) (by omega) (by omega) (fun _ y => by omega) (fun s1 h1 _ _ hg => L25 s1 (by rw [m]; exact h1) ?_)
      rw [hg 8 (by omega) (by omega), g8]
theorem r_find {a b : Nat} {w : Int64} (hb : b ≤ 16) (ha : a ≤ 16) (hq : Q (oI (fFind (fun j => decide (gJ st 69 (a + j) = w)) (b - a))) st) : wX11_find 68 w (nI a) (nI b) st Q := by
  unfold wX11_find
  refine lp_inv (n := b - a) (I := fun k s => s = (w, nI a, nI b, nI (a + k), st) ∧ ∀ j, j < k → decide (gJ st 69 (a + j) = w) = false) ?_ ?_ ⟨rfl, fun j hj => absurd hj (by omega)⟩
  · rintro k s hk ⟨rfl, hno⟩ R hR2
    show wX11_find_L3 68 w (nI a) (nI b) R w (nI a) (nI b) (nI (a + k)) st Q
    unfold wX11_find_L3
    refine ⟨fun q => absurd ((nI_leI (by omega) (by omega)).mp q) (by omega), fun _ => ⟨(vin_iff (by omega)).mpr (by omega), ?_⟩⟩
    rw [nI_clamp (by omega), lg_cmp_eq]
    refine ⟨fun q => ?_, fun q => ?_⟩
    · rintro _ rfl
      rw [nI_1]
      refine hR2 _ ⟨by rw [show a + (k + 1) = a + k + 1 by omega], fun j hj => ?_⟩
      by_cases e : j = k
      · subst e; exact decide_eq_false q
      · exact hno j (by omega)
    · rw [fFind_at hno (decide_eq_true q) hk] at hq
      rw [show nI (a + k) - nI a = nI k from by rw [pk_sub (by omega)]; congr 1; omega]
      exact hq
  · rintro s ⟨rfl, hno⟩ R
    show wX11_find_L3 68 w (nI a) (nI b) R w (nI a) (nI b) (nI (a + (b - a))) st Q
    unfold wX11_find_L3
    rw [fFind_no hno] at hq
    exact ⟨fun _ => hq, fun q => absurd (nI_le (by omega) (by omega)) q⟩
theorem who_code : ∀ a, a < 37 → 26 ≤ a → a ≤ 29 → ¬ nI (rkd a) = 2 ∧ ¬ nI (rkd a) < 215 ∧ ¬ (219 : Int32) ≤ nI (rkd a) ∧ ((-2 : Int32) - (nI (rkd a) - 215)) = wI (a - 18) := by decide +kernel
theorem who_no : ∀ a, a < 37 → ¬ (26 ≤ a ∧ a ≤ 29) → a ≠ 2 → nI (rkd a) < 215 ∨ (219 : Int32) ≤ nI (rkd a) := by decide +kernel
theorem wI_100 : ∀ c, c < 12 → wI c ≠ -nI 100 := by decide +kernel
theorem mk3_s5 {r : Option Nat} : mRes r (mMk3 r A) 0 5 = A 0 5 ∧ (mRes r (mMk3 r A)) 10 (A 0 5) = A 10 (A 0 5) := by
  unfold mRes
  refine ⟨?_, ?_⟩ <;> rw [u2_a, if_neg (by omega)] <;> exact mMk3_s (by omega)
/-- a name resolved: a number of the token where the reader stands -/
theorem RP.res {r : Option Nat} {s1 : St} (h : RP n tp s0 P op q0 c0 g0 h0 pd ph z k A s1) (hz : z ≤ 1) (hk : A 10 (A 0 5) = 2) (hP : P 68) (hq : ∀ st', RP n tp s0 P op q0 c0 g0 h0 pd ph 0 (k + 1) (mTk 2 (mRes r A)).2 st' → Qv st') : wX11_next 68 s1 Qv := by
  have h2 : A 10 (A 0 5) = 2 := hk
  refine r_nx hP h hz (by omega) (fun s2 hR hF => hq s2 ?_)
  have at1 : mRes r A 0 5 = A 0 5 := by unfold mRes; rw [u2_a, if_neg (by omega)]
  have k1 : mRes r A 10 (A 0 5) = 2 := by unfold mRes; rw [u2_a, if_neg (by omega)]; exact hk
  have m : (mTk 2 (mRes r A)).2 = u2 (u2 A 11 (A 0 5) (oS r)) 0 5 (A 0 5 + 1) := by
    unfold mTk
    rw [at1, k1, if_pos rfl]
    rfl
  rw [m]
  obtain ⟨t, ⟨l1, l2, l3, l4⟩, c1, c2, c3, c4, c5, c6⟩ := hR
  refine ⟨t, ⟨l1, l2, l3, fun i h1 h2 => ?_⟩, c1, c2, c3, c4, c5, fun e => ?_⟩
  · have h1 : A 0 5 + 1 ≤ i := h1
    have : u2 (u2 A 11 (A 0 5) (oS r)) 0 5 (A 0 5 + 1) 11 i = A 11 i := by rw [u2_a, if_neg (by omega), u2_a, if_neg (by omega)]
    rw [this]
    exact l4 i h1 h2
  · have c6 := c6 e
    obtain ⟨b1, b2, b3, b4, b5, b6, b7⟩ := c6
    have c7 := h.2.2.2.2.2.2.2 e
    obtain ⟨d1, d2, d3, d4, d5, d6, d7⟩ := c7
    refine ⟨b1, b2, b3, b4, b5, b6, fun a ha ho => ?_⟩
    refine (d7 a ha ho).fx (A' := u2 (u2 A 11 (A 0 5) (oS r)) 0 5 (A 0 5 + 1)) (fun _ => rfl) (fun r' hr' _ => ?_) (fun i hi => ?_) ?_ (Nat.le_refl _) (Nat.le_refl _) (fun i _ _ => hF.i (by omega)) (fun i _ => hF.i (by omega))
    · rw [u2_a, if_neg (by unfold ar at hr'; omega), u2_a, if_neg (by unfold ar at hr'; omega)]
    · rw [u2_a, if_neg (by omega), u2_a, if_neg (by omega)]
    · show A 0 5 ≤ A 0 5 + 1; omega
theorem u2_cm {r1 k1 v1 r2 k2 v2 : Nat} (h : r1 ≠ r2 ∨ k1 ≠ k2) : u2 (u2 A r1 k1 v1) r2 k2 v2 = u2 (u2 A r2 k2 v2) r1 k1 v1 := by
  funext r k
  rw [u2_a, u2_a, u2_a, u2_a]
  by_cases a : r = r2 ∧ k = k2
  · rw [if_pos a, if_neg (by omega), if_pos a]
  · rw [if_neg a]
    by_cases b : r = r1 ∧ k = k1
    · rw [if_pos b, if_pos b]
    · rw [if_neg b, if_neg b, if_neg a]
theorem lN_inj {a b : Nat} (ha : a < 2 ^ 40) (hb : b < 2 ^ 40) : lN a = lN b ↔ a = b := pk_lEQ (by omega) (by omega)
theorem oS_m {r : Option Nat} (he : A 0 6 ≠ 0) : mMk3 r A = A := by
  unfold mMk3 mMk
  rw [if_neg he]
  split <;> rfl
theorem twd40 {t : Nat} : twd n tp t < 2 ^ 40 := by
  have := twd_vw (n := n) (tp := tp) (t := t)
  unfold vw at this
  omega
theorem if0 {j : Nat} (h : j < 2 ^ 30) : (if 0 < nI j then nI j else 0) = nI j := by
  by_cases e : j = 0
  · rw [e]; rfl
  · rw [if_pos (show (0 : Int32) < nI j from nI_lt (a := 0) (by omega) (by omega))]
theorem res_v {f : Option Nat} (e : mMk3 f A = A) (h : A 10 (A 0 5) = 2) : (mTk 2 (mRes f (mMk3 f A))).2 = u2 (u2 A 11 (A 0 5) (oS f)) 0 5 (A 0 5 + 1) := by
  have e1 := (mk3_s5 (r := f) (A := A)).1
  have e2 := (mk3_s5 (r := f) (A := A)).2
  unfold mTk
  rw [e1, e2, if_pos h, e]
  rfl
/-- a name sought among those of the reference -/
theorem r_sk {a b : Nat} {f : Option Nat} (hP : P 68) (h : RP n tp s0 P op q0 c0 g0 h0 pd ph 0 k A st) (hb : b ≤ 16) (ha : a ≤ 16) (hk : A 10 (A 0 5) = 2) (hf : A 0 6 = 0 → fFind (fun j => decide (gJ st 69 (a + j) = lN (twd n tp (A 0 5)))) (b - a) = f)
    (L : Int32 → St → Prop) (hL : ∀ st' r, RP n tp s0 P op q0 c0 g0 h0 pd ph 1 k (mMk3 f A) st' → (A 0 6 = 0 → r = f) → (∀ v, r = some v → v < 16) → L (oI r) st') :
    wX11_find 68 (gJ st 68 9) (nI a) (nI b) st (fun r2 st1 => ((¬ r2 = (-1) → L r2 st1) ∧ (r2 = (-1) → (wX11_note 68 3 st1 (fun st3 => L r2 st3))))) := by
  have hh := h
  obtain ⟨⟨t1, t2, t3⟩, ⟨l1, l2, l3, l4⟩, h5⟩ := h
  have j9 : gJ st 68 9 = lN (twd n tp (A 0 5)) := t2.2.2.2.1 (by rw [← (l3 _ l1).1]; exact hk)
  rw [j9]
  refine r_find hb ha ?_
  have lt : ∀ v, fFind (fun j => decide (gJ st 69 (a + j) = lN (twd n tp (A 0 5)))) (b - a) = some v → v < 16 := fun v e => by have := (fFind_some e).1; omega
  generalize fFind (fun j => decide (gJ st 69 (a + j) = lN (twd n tp (A 0 5)))) (b - a) = r at hf lt ⊢
  rw [show (-1 : Int32) = -nI 1 from rfl, oI_m1 (fun j e => by have := lt j e; omega)]
  have k1 := hh.z1 (by omega)
  refine ⟨fun q => hL st r ?_ hf lt, fun q => ?_⟩
  · by_cases e : A 0 6 = 0
    · have : mMk3 f A = A := by
        unfold mMk3
        rw [if_neg]
        rw [← hf e]
        cases r with
        | none => exact absurd rfl q
        | some j => show j + 1 ≠ 0; omega
      rw [this]; exact k1
    · rw [oS_m e]; exact k1
  · refine r_note (e := 3) hP hh (by omega) (by omega) (by omega) (fun _ y => by have := hh.2.2.2.2.1.2.2.2.2; omega) (fun s1 h1 _ _ _ => hL s1 r ?_ hf lt)
    by_cases e : A 0 6 = 0
    · have : mMk3 f A = mMk 3 A := by
        unfold mMk3
        rw [if_pos (by rw [← hf e, q]; rfl)]
      rw [this]; exact h1
    · rw [oS_m e]
      have : mMk 3 A = A := by unfold mMk; rw [if_neg e]
      rw [this] at h1; exact h1
theorem r_who (hP : P 68) (hph : ph = true) (h : RP n tp s0 P op q0 c0 g0 h0 pd ph 0 k A st) (hq1 : (mWho A).1 = true → ∀ st' v, RP n tp s0 P op q0 c0 g0 h0 pd ph 0 (k + 1) (mWho A).2 st' → v ≠ -nI 100 → (A 0 6 = 0 → (mWho A).2 0 6 = 0 → v = wI (fWc (mWho A).2 (A 0 5))) → Q v st') (hq0 : (mWho A).1 = false → ∀ st', RF n tp s0 P (mWho A).2 st' → Q (-nI 100) st') : wX11_who 68 st Q := by
  unfold wX11_who
  have hh2 := h
  obtain ⟨k1, k2⟩ := r_kd h
  rw [k1, show (2 : Int32) = nI (rkd 2) from rfl, rkd_iff k2 (by omega)]
  refine ⟨fun e2 => ?_, fun e2 => ?_⟩
  · have fail : ¬ (26 ≤ A 10 (A 0 5) ∧ A 10 (A 0 5) ≤ 29) → wX11_who_L76 68 (-100) st Q := by
      intro y1
      unfold wX11_who_L76
      refine ⟨fun w => absurd rfl w, fun _ => r_wr (Q := fun r7 st6 => Q (-100) st6) hP hh2 (fun s1 h1 => ?_)⟩
      have m : mWho A = (false, mRes (fW A (A 14 (A 0 5))) (mMk3 (fW A (A 14 (A 0 5))) A)) := by
        unfold mWho mTk
        rw [if_neg y1, mk3_s5.1, mk3_s5.2, if_neg e2]
      refine hq0 (by rw [m]) s1 ?_
      rw [m]
      exact ⟨h1.1, by rw [show (false, mRes (fW A (A 14 (A 0 5))) (mMk3 (fW A (A 14 (A 0 5))) A)).2 0 5 = A 0 5 from mk3_s5.1]; exact h1.2⟩
    by_cases hk : 26 ≤ A 10 (A 0 5) ∧ A 10 (A 0 5) ≤ 29
    · obtain ⟨w0, w1, w2, w3⟩ := who_code _ (by omega) hk.1 hk.2
      refine ⟨fun y => absurd y w1, fun _ => ⟨fun y => absurd y w2, fun _ => ?_⟩⟩
      intro x1 ex
      have ex : x1 = wI (A 10 (A 0 5) - 18) := ex.trans w3
      rw [ex]
      unfold wX11_who_L76
      have ne := wI_100 (A 10 (A 0 5) - 18) (by omega)
      refine ⟨fun _ => r_nx hP hh2 (by omega) (by omega) (fun s1 h1 _ => ?_), fun y => absurd y ne⟩
      have m : mWho A = (true, u2 A 0 5 (A 0 5 + 1)) := by unfold mWho mTk; rw [if_pos hk, if_pos rfl]
      refine hq1 (by rw [m]) s1 _ (by rw [m]; exact h1) ne (fun _ _ => ?_)
      rw [m]
      show _ = wI (if A 10 (A 0 5) = 2 then A 11 (A 0 5) - 1 else A 10 (A 0 5) - 18)
      rw [if_neg e2]
    · rcases who_no _ (by omega) hk e2 with w | w
      · exact ⟨fun _ => fail hk, fun y => absurd w y⟩
      · refine ⟨fun _ => fail hk, fun _ => ⟨fun _ => fail hk, fun y => absurd w y⟩⟩
  · have nk : ¬ (26 ≤ A 10 (A 0 5) ∧ A 10 (A 0 5) ≤ 29) := by omega
    obtain ⟨⟨t1, t2, t3⟩, ⟨l1, l2, l3, l4⟩, c1, c2, c3, ⟨m, m3, m4, x1, x2, x3, x4, x5, x6, x7⟩, c5, c6⟩ := h
    rw [x5]
    have m' : mWho A = mTk 2 (mRes (fW A (A 14 (A 0 5))) (mMk3 (fW A (A 14 (A 0 5))) A)) := by unfold mWho; rw [if_neg nk]
    refine r_sk (a := 0) (f := fW A (A 14 (A 0 5))) hP hh2 x2 (by omega) e2 (fun e0 => ?_) (fun r st' => wX11_who_L35 68 r st' Q) (fun s1 r h1 hr hl => ?_)
    · obtain ⟨y1, y2⟩ := x7 e0
      rw [(y2.1 hph).1]
      unfold fW
      rw [Nat.sub_zero]
      refine fFind_cg (fun j hj => ?_)
      obtain ⟨z1, z2⟩ := (c6 e0).1 j hj
      rw [Nat.zero_add, z1, (l3 _ l1).2.1]
      exact decide_eq_decide.mpr (lN_inj z2 twd40)
    · have fin : ∀ v, v < 16 → (A 0 6 = 0 → (mMk3 (fW A (A 14 (A 0 5))) A) 0 6 = 0 → fW A (A 14 (A 0 5)) = some v) → wX11_who_L76 68 (nI v) s1 Q := by
        intro v hv he
        unfold wX11_who_L76
        have ne := nI_100 (v := v) (by omega)
        have mt : (mWho A).1 = true := by rw [m']; unfold mTk; rw [mk3_s5.1, mk3_s5.2, if_pos e2]
        have k3 : mMk3 (fW A (A 14 (A 0 5))) A 10 (mMk3 (fW A (A 14 (A 0 5))) A 0 5) = 2 := by rw [mMk3_s (by omega), mMk3_s (by omega)]; exact e2
        refine ⟨fun _ => h1.res (r := fW A (A 14 (A 0 5))) (by omega) k3 hP (fun s2 h2 => hq1 mt s2 _ (by rw [m']; exact h2) ne (fun e0 e1 => ?_)), fun y => absurd y ne⟩
        rw [m'] at e1 ⊢
        have e6 := fx_res.e0 ((fx_tk (k := 2) _).e0 e1)
        have hf := he e0 e6
        rw [res_v (mMk3_0 e6).1 e2, hf]
        have lt := fW_lt hf
        have c8 := c1.1
        show nI v = wI (if A 10 (A 0 5) = 2 then u2 (u2 A 11 (A 0 5) (v + 1)) 0 5 (A 0 5 + 1) 11 (A 0 5) - 1 else A 10 (A 0 5) - 18)
        rw [if_pos e2, u2_a, if_neg (by omega), u2_a, if_pos ⟨rfl, rfl⟩, Nat.add_sub_cancel]
        unfold wI
        rw [if_pos (by omega)]
      unfold wX11_who_L35
      cases r with
      | none =>
        intro x8 e8
        have e8 : x8 = nI 0 := e8
        rw [e8]
        refine fin 0 (by omega) (fun e0 e6 => ?_)
        have := (mMk3_0 e6).2
        rw [← hr e0] at this
        exact absurd rfl this
      | some v =>
        intro x8 e8
        have e8 : x8 = (if 0 < nI v then nI v else 0) := e8
        have hv := hl v rfl
        rw [if0 (by omega)] at e8
        rw [e8]
        exact fin v hv (fun e0 _ => (hr e0).symm)
/-- an order is put -/
theorem r_put {p1 p2 p3 : Int32} (hP : P 70 ∧ P 75) (h : RP n tp s0 P op q0 c0 g0 h0 pd ph z (k + 1) A st) (hq : ∀ st', RP n tp s0 P op q0 c0 g0 h0 pd ph z k (gInc 8 A) st' → gI st' 75 (4 * A 0 8) = p1 → gI st' 75 (4 * A 0 8 + 1) = p2 → gI st' 75 (4 * A 0 8 + 2) = p3 → (∀ i, ¬ (4 * A 0 8 ≤ i ∧ i < 4 * A 0 8 + 3) → gI st' 75 i = gI st 75 i) → (∀ d, d ≠ 70 → d ≠ 75 → st'.1 d = st.1 d) → st'.2 = st.2 → Q (nI (A 0 8)) st') : wX10_put 70 p1 p2 p3 st Q := by
  unfold wX10_put
  obtain ⟨⟨t1, t2, t3⟩, ⟨l1, l2, l3, l4⟩, ⟨c11, c12, c13, c14, c15⟩, ⟨a1, a2, a3, a4, a5, a6⟩, c3, ⟨m, m3, m4, x1, x2, x3, x4, x5, x6, x7⟩, ⟨y1, y2, y3, y4⟩, c6⟩ := h
  rw [a5]
  intro x1' ex
  have ex : x1' = nI (4 * A 0 8) := ex.trans (pk_mul 4 _)
  rw [ex, show nI (4 * A 0 8) + 0 = nI (4 * A 0 8 + 0) from nI_add _ 0, nI_1, show nI (4 * A 0 8) + 2 = nI (4 * A 0 8 + 2) from nI_add _ 2, nI_clamp (by omega), nI_clamp (by omega), nI_clamp (by omega)]
  refine ⟨(vin_iff (by omega)).mpr (by omega), ?_⟩
  intro s2 e2
  refine ⟨(vin_iff (by omega)).mpr (by omega), ?_⟩
  intro s3 e3
  refine ⟨(vin_iff (by omega)).mpr (by omega), ?_⟩
  intro s4 e4 s5 e5
  have n9 : gI s4 70 9 = nI (A 0 8) := by rw [e4, gI_uI, if_neg (by omega), e3, gI_uI, if_neg (by omega), e2, gI_uI, if_neg (by omega)]; exact a5
  rw [n9, nI_1] at e5
  have g5 : gI s5 70 9 = nI (A 0 8 + 1) := by rw [e5, gI_uI, if_pos ⟨rfl, rfl⟩]
  have og : ∀ i, gI s5 75 i = if i = 4 * A 0 8 + 2 then p3 else if i = 4 * A 0 8 + 1 then p2 else if i = 4 * A 0 8 then p1 else gI st 75 i := by
    intro i
    rw [e5, gI_uI, if_neg (by omega), e4, gI_uI]
    by_cases q2 : i = 4 * A 0 8 + 2
    · rw [if_pos ⟨rfl, q2⟩, if_pos q2]
    · rw [if_neg (fun w => q2 w.2), if_neg q2, e3, gI_uI]
      by_cases q1 : i = 4 * A 0 8 + 1
      · rw [if_pos ⟨rfl, q1⟩, if_pos q1]
      · rw [if_neg (fun w => q1 w.2), if_neg q1, e2, gI_uI]
        by_cases q0 : i = 4 * A 0 8
        · rw [if_pos ⟨rfl, q0⟩, if_pos q0]
        · rw [if_neg (fun w => q0 w.2), if_neg q0]
  have oth : ∀ d j, d ≠ 75 → (d ≠ 70 ∨ j ≠ 9) → gI s5 d j = gI st d j := fun d j w1 w2 => by
    rw [e5, gI_uI, if_neg (by omega), e4, gI_uI, if_neg (by omega), e3, gI_uI, if_neg (by omega), e2, gI_uI, if_neg (by omega)]
  have F5 : FQ (fun d => d = 70 ∨ d = 75) st s5 := by
    rw [e5, e4, e3, e2]
    exact (((FQ.uI (P := fun d => d = 70 ∨ d = 75) (Or.inr rfl)).tr (FQ.uI (P := fun d => d = 70 ∨ d = 75) (Or.inr rfl))).tr (FQ.uI (P := fun d => d = 70 ∨ d = 75) (Or.inr rfl))).tr (FQ.uI (P := fun d => d = 70 ∨ d = 75) (Or.inl rfl))
  have J5 : s5.2 = st.2 := by rw [e5, e4, e3, e2]; rfl
  have ogk : ∀ i, ¬ (4 * A 0 8 ≤ i ∧ i < 4 * A 0 8 + 3) → gI s5 75 i = gI st 75 i := fun i hi => by rw [og, if_neg (by omega), if_neg (by omega), if_neg (by omega)]
  have i8 : gInc 8 A 0 8 = A 0 8 + 1 := by unfold gInc; rw [u2_a, if_pos ⟨rfl, rfl⟩]
  rw [g5, show nI (A 0 8 + 1) - 1 = nI (A 0 8) from nI_pred _]
  refine hq s5 ⟨⟨?_, ?_, t3.tr (F5.mo (fun d hd => by rcases hd with rfl | rfl; exact hP.1; exact hP.2))⟩, ⟨l1, l2, l3, l4⟩, ⟨c11, c12, c13, c14, ?_⟩, ?_, ?_, ⟨m, m3, m4, x1, x2, x3, ?_, ?_, ?_, x7⟩, ⟨fun i hi => ?_, ?_, fun i hi => ?_, y4⟩, fun e => ?_⟩ ?_ ?_ ?_ ogk (fun d d1 d2 => (F5.1.1 d (fun w => by rcases w with w | w; exact d1 w; exact d2 w)).1) J5
  · exact ⟨(oth 54 2 (by omega) (by omega)).trans t1.1, t1.2.1, fun i hi => (oth 55 i (by omega) (by omega)).trans (t1.2.2.1 i hi), t1.2.2.2⟩
  · obtain ⟨r1, r2, r3, r4, r5, r6⟩ := t2
    refine ⟨(oth 68 6 (by omega) (by omega)).trans r1, (oth 68 7 (by omega) (by omega)).trans r2, fun w => (oth 68 8 (by omega) (by omega)).trans (r3 w), fun w => ?_, (oth 68 10 (by omega) (by omega)).trans r5, fun w => (oth 68 5 (by omega) (by omega)).trans (r6 w)⟩
    show s5.2.1 68 9 = _
    rw [J5]; exact r4 w
  · rw [i8]
    show A 0 8 + 1 + A 0 9 + k ≤ A 0 5
    omega
  · refine ⟨(oth 70 0 (by omega) (by omega)).trans a1, (oth 70 1 (by omega) (by omega)).trans a2, (oth 70 2 (by omega) (by omega)).trans a3, (oth 70 3 (by omega) (by omega)).trans a4, ?_, (oth 70 11 (by omega) (by omega)).trans a6⟩
    rw [g5, i8]
  · obtain ⟨f1, f2, f3, f4, f5⟩ := c3
    exact ⟨f1, (oth 68 11 (by omega) (by omega)).trans f2, fun w => ⟨(f3 w).1, (oth 68 12 (by omega) (by omega)).trans (f3 w).2⟩, fun w => ⟨(f4 w).1, (oth 68 12 (by omega) (by omega)).trans (f4 w).2⟩, f5⟩
  · exact (oth 68 2 (by omega) (by omega)).trans x4
  · exact (oth 68 3 (by omega) (by omega)).trans x5
  · exact (oth 68 4 (by omega) (by omega)).trans x6
  · rw [ogk i (by omega)]; exact y1 i hi
  · rw [i8]; omega
  · rw [oth 76 i (by omega) (by omega)]; exact y3 i hi
  · obtain ⟨b1, b2, b3, b4, b5, b6, b7⟩ := c6 e
    have J : ∀ j, gJ s5 69 j = gJ st 69 j := fun j => by show s5.2.1 69 j = _; rw [J5]; rfl
    refine ⟨fun k hk => by rw [J]; exact b1 k hk, fun k hk => by rw [J]; exact b2 k hk, fun k hk => by rw [oth 71 k (by omega) (by omega), oth 72 k (by omega) (by omega)]; exact b3 k hk, fun k hk => by rw [oth 73 k (by omega) (by omega)]; exact b4 k hk, fun k w1 w2 => by rw [oth 73 k (by omega) (by omega)]; exact b5 k w1 w2, fun p hp => ?_, fun a ha ho => ?_⟩
    · obtain ⟨d1, d2, d3⟩ := b6 p hp
      have d3 : A 25 p < A 0 8 := d3
      refine ⟨(oth 74 p (by omega) (by omega)).trans d1, ?_, ?_⟩
      · show gI s5 75 (4 * A 25 p) = _
        rw [ogk _ (by omega)]; exact d2
      · rw [i8]; show A 25 p < A 0 8 + 1; omega
    · have g := b7 a ha ho
      have g19 := g.1.2.2.1
      refine g.fx (A' := gInc 8 A) (fun _ => rfl) (fun r hr _ => by unfold gInc; rw [u2_a, if_neg (by unfold ar at hr; omega)]) (fun _ _ => rfl) (Nat.le_refl _) (by rw [i8]; omega) (Nat.le_refl _) (fun i _ hi => ogk i (by omega)) (fun i _ => oth 76 i (by omega) (by omega))
  · rw [og, if_neg (by omega), if_neg (by omega), if_pos rfl]
  · rw [og, if_neg (by omega), if_pos rfl]
  · rw [og, if_pos rfl]
/-- an open act's number changes -/
theorem RP.g {r j v : Nat} (h : RP n tp s0 P op q0 c0 g0 h0 pd ph z k A st) (hr : ar r ∨ 18 ≤ r) (hr3 : r ≠ 23 ∧ r ≠ 25) (hj : op j ∨ A 0 3 ≤ j) : RP n tp s0 P op q0 c0 g0 h0 pd ph z k (u2 A r j v) st := by
  obtain ⟨t, l, c1, c2, c3, c4, c5, c6⟩ := h
  have hr2 : r ≠ 0 ∧ r ≠ 10 ∧ r ≠ 11 ∧ r ≠ 14 ∧ r ≠ 16 ∧ r ≠ 17 ∧ r ≠ 1 ∧ r ≠ 2 ∧ r ≠ 3 := by unfold ar at hr; omega
  have es : ∀ r' k', r' = 0 ∨ r' = 10 ∨ r' = 11 ∨ r' = 14 ∨ r' = 16 ∨ r' = 17 ∨ r' = 23 ∨ r' = 25 ∨ r' = 1 ∨ r' = 2 ∨ r' = 3 → u2 A r j v r' k' = A r' k' := fun r' k' q => by rw [u2_a, if_neg (by omega)]
  have e0 : ∀ k', u2 A r j v 0 k' = A 0 k' := fun k' => es 0 k' (by omega)
  refine ⟨by rw [e0]; exact t, ?_, ?_, ?_, ?_, ?_, ?_, fun e => ?_⟩
  · unfold KT
    rw [e0, e0]
    exact ⟨l.1, l.2.1, fun i hi => by rw [es 10 i (by omega), es 14 i (by omega)]; exact l.2.2.1 i hi, fun i h1 h2 => by rw [es 11 i (by omega)]; exact l.2.2.2 i h1 h2⟩
  · unfold KC
    rw [e0, e0, e0, e0, e0, e0, e0]; exact c1
  · unfold CN
    rw [e0, e0, e0, e0, e0, e0]; exact c2
  · unfold FLt
    rw [e0, e0, e0]; exact c3
  · unfold NMs
    rw [e0, e0, e0]; exact c4
  · unfold ANc
    rw [e0, e0]; exact c5
  · rw [e0] at e
    obtain ⟨b1, b2, b3, b4, b5, b6, b7⟩ := c6 e
    unfold RD
    rw [e0, e0, e0, e0, e0]
    refine ⟨fun k hk => by rw [es 16 k (by omega)]; exact b1 k hk, fun k hk => by rw [es 17 k (by omega)]; exact b2 k hk, fun k hk => by rw [es 1 k (by omega), es 2 k (by omega)]; exact b3 k hk, fun k hk => by rw [es 3 k (by omega)]; exact b4 k hk, b5, fun p hp => by rw [es 23 p (by omega), es 25 p (by omega)]; exact b6 p hp, fun a ha ho => ?_⟩
    have ne : a ≠ j := fun q => by rcases hj with w | w; exact ho (by rw [q]; exact w); omega
    exact (b7 a ha ho).fx (fun i => es 10 i (by omega)) (fun r' _ _ => by rw [u2_a, if_neg (by omega)]) (fun i _ => es 11 i (by omega)) (by rw [e0]; exact Nat.le_refl _) (by rw [e0]; exact Nat.le_refl _) (by rw [e0]; exact Nat.le_refl _) (fun _ _ _ => rfl) (fun _ _ => rfl)
end MVL

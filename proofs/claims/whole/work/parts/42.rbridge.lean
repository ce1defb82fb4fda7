/-! the reference's bridge: what each method makes of the row -/
def KB (nw pl : Nat) (wt mi : Nat → Nat) (st : St) : Prop := gI st 60 0 = nI nw ∧ gI st 60 1 = nI pl ∧ (∀ k, k < nw → gI st 61 k = nI (wt k)) ∧ ∀ k, k < nw → gI st 62 k = nI (mi k)
def RM (st : St) (M : Nat → Nat) : Prop := ∀ k, k < 50 → gI st 56 k = nI (M k)
def P56 (d : Nat) : Prop := d = 56
theorem KB.fi {nw pl : Nat} {wt mi : Nat → Nat} {st st' : St} {P : Nat → Prop} (h : KB nw pl wt mi st) (hF : FI P st st') (h0 : ¬ P 60) (h1 : ¬ P 61) (h2 : ¬ P 62) : KB nw pl wt mi st' :=
  ⟨(hF.gI h0).trans h.1, (hF.gI h0).trans h.2.1, fun k hk => (hF.gI h1).trans (h.2.2.1 k hk), fun k hk => (hF.gI h2).trans (h.2.2.2 k hk)⟩
theorem KB.p {nw pl : Nat} {wt mi : Nat → Nat} {st st' : St} (h : KB nw pl wt mi st) (hF : FI P56 st st') : KB nw pl wt mi st' := h.fi hF (by unfold P56; omega) (by unfold P56; omega) (by unfold P56; omega)
theorem RM.u {st : St} {M : Nat → Nat} (h : RM st M) {j v : Nat} : RM (uI st 56 j (nI v)) (up M j v) := fun k hk => by
  rw [gI_uI, up_a]
  by_cases e : k = j
  · rw [if_pos ⟨rfl, e⟩, if_pos e]
  · rw [if_neg (fun q => e q.2), if_neg e]; exact h k hk
theorem RM.eq {st : St} {M M' : Nat → Nat} (h : RM st M) (e : ∀ k, k < 50 → M k = M' k) : RM st M' := fun k hk => by rw [← e k hk]; exact h k hk
section RB
variable {nw pl t : Nat} {wt mi : Nat → Nat} {M : Nat → Nat} {st : St} {Q : Int32 → St → Prop} {Qv : St → Prop}
theorem r_isWeak (hR : RM st M) (h : Q (bI (fWeak M)) st) : wX12_isWeak 54 st Q := by
  unfold wX12_isWeak
  have e := hR 2 (by omega)
  simp (disch := omega) only [e, li0, li1, li2, li3, li4, li5, li6, li7, li8, li9, li10, li11, li12, li13, li14, li15, li16, li17, li18, li19, li20, li21, li22, li23, li24, li25, li26, li27, li28, li29, li30, li31, li32, li40, li48, li50, li57, li60, li97, li99, li100, li112, li119, li120, li122, li127, li128, li200, li201, li202, li203, li204, li205, li206, li207, li208, li209, li210, li211, li212, li213, li214, li215, li216, li217, li218, li219, li225, li255, li300, li301, li400, li512, li600, li999, li1000, li1600, li1000000, nI_add, pk_mul, Nat.add_right_cancel_iff, pk_sub, nI_leI, nI_ltI, nI_eq, nI_clamp, vin_iff, ne_m1, m1_ne, lt_m1, le_m1, m1_lt, m1_le, bI0, bI1, Nat.reduceAdd, Nat.reduceSub, Nat.reduceMul, forall_eq, gI_uI, gI_uJ, gI_sI, Nat.add_left_cancel_iff, Nat.reduceEqDiff, and_true, true_and, and_false, false_and, not_true_eq_false, not_false_eq_true, true_implies, false_implies, implies_true, if_true, if_false, ite_true, ite_false, reduceIte, Bool.true_eq_false, Bool.false_eq_true, Nat.reduceLT, Nat.reduceLeDiff, decide_true, decide_false]
  refine ⟨fun hc => ?_, fun hc => ?_⟩
  · rw [show fWeak M = false from decide_eq_false hc] at h; exact h
  · rw [show fWeak M = true from decide_eq_true hc] at h; exact h
theorem max3 {m : Nat} (h : m < 2 ^ 30) : (if nI 0 < nI m - nI 3 then nI m - nI 3 else nI 0) = nI (m - 3) := by
  by_cases q : 3 ≤ m
  · rw [pk_sub q]
    split
    · rfl
    · next q2 =>
      rw [nI_ltI (by omega) (by omega)] at q2
      rw [show m - 3 = 0 from by omega]
  · rw [if_neg, show m - 3 = 0 from by omega]
    intro q2
    have := pk_sneg (a := m) (b := 3) (by omega) (by omega)
    rw [Int32.lt_iff_toInt_lt] at this q2
    have e0 : (nI 0).toInt = 0 := rfl
    have e1 : (0 : Int32).toInt = 0 := rfl
    omega
theorem r_bear {k : Nat} (hM : MB t M) (hR : RM st M) (hk : k < 12) (h : Q (nI (fBear M k)) st) : wX12_bear 54 (nI k) st Q := by
  unfold wX12_bear
  refine r_isWeak hR ?_
  have e := hR (16 + k) (by omega)
  have b := hM.st hk
  unfold fBear at h
  cases hw : fWeak M
  · simp only [hw] at h
    simp (disch := omega) only [e, li0, li1, li2, li3, li4, li5, li6, li7, li8, li9, li10, li11, li12, li13, li14, li15, li16, li17, li18, li19, li20, li21, li22, li23, li24, li25, li26, li27, li28, li29, li30, li31, li32, li40, li48, li50, li57, li60, li97, li99, li100, li112, li119, li120, li122, li127, li128, li200, li201, li202, li203, li204, li205, li206, li207, li208, li209, li210, li211, li212, li213, li214, li215, li216, li217, li218, li219, li225, li255, li300, li301, li400, li512, li600, li999, li1000, li1600, li1000000, nI_add, pk_mul, Nat.add_right_cancel_iff, pk_sub, nI_leI, nI_ltI, nI_eq, nI_clamp, vin_iff, ne_m1, m1_ne, lt_m1, le_m1, m1_lt, m1_le, bI0, bI1, Nat.reduceAdd, Nat.reduceSub, Nat.reduceMul, forall_eq, gI_uI, gI_uJ, gI_sI, Nat.add_left_cancel_iff, Nat.reduceEqDiff, and_true, true_and, and_false, false_and, not_true_eq_false, not_false_eq_true, true_implies, false_implies, implies_true, if_true, if_false, ite_true, ite_false, reduceIte, Bool.true_eq_false, Bool.false_eq_true, Nat.reduceLT, Nat.reduceLeDiff, decide_true, decide_false]
    exact ⟨by omega, h⟩
  · simp only [hw, if_true] at h
    simp (disch := omega) only [e, max3, li0, li1, li2, li3, li4, li5, li6, li7, li8, li9, li10, li11, li12, li13, li14, li15, li16, li17, li18, li19, li20, li21, li22, li23, li24, li25, li26, li27, li28, li29, li30, li31, li32, li40, li48, li50, li57, li60, li97, li99, li100, li112, li119, li120, li122, li127, li128, li200, li201, li202, li203, li204, li205, li206, li207, li208, li209, li210, li211, li212, li213, li214, li215, li216, li217, li218, li219, li225, li255, li300, li301, li400, li512, li600, li999, li1000, li1600, li1000000, nI_add, pk_mul, Nat.add_right_cancel_iff, pk_sub, nI_leI, nI_ltI, nI_eq, nI_clamp, vin_iff, ne_m1, m1_ne, lt_m1, le_m1, m1_lt, m1_le, bI0, bI1, Nat.reduceAdd, Nat.reduceSub, Nat.reduceMul, forall_eq, gI_uI, gI_uJ, gI_sI, Nat.add_left_cancel_iff, Nat.reduceEqDiff, and_true, true_and, and_false, false_and, not_true_eq_false, not_false_eq_true, true_implies, false_implies, implies_true, if_true, if_false, ite_true, ite_false, reduceIte, Bool.true_eq_false, Bool.false_eq_true, Nat.reduceLT, Nat.reduceLeDiff, decide_true, decide_false]
    exact ⟨by omega, h⟩
theorem r_missing (hB : BB nw pl wt mi) (hM : MB t M) (hK : KB nw pl wt mi st) (hR : RM st M) (h : Q (nI (fMiss M pl)) st) : wX12_missing 54 st Q := by
  unfold wX12_missing
  have hp := hB.2.1
  refine lp_inv (n := pl) (I := fun k s => s = (nI (fMiss M k), nI k, st)) ?_ ?_ rfl
  · rintro k s hk rfl R hR2
    have hf := hR2 _ rfl
    show wX12_missing_L4 54 R (nI (fMiss M k)) (nI k) st Q
    unfold wX12_missing_L4 wX12_missing_L33
    have e := hR (16 + k) (by omega)
    have b := hM.st (k := k) (by omega)
    unfold fMiss at hf
    simp (disch := omega) only [hK.2.1, e, li0, li1, li2, li3, li4, li5, li6, li7, li8, li9, li10, li11, li12, li13, li14, li15, li16, li17, li18, li19, li20, li21, li22, li23, li24, li25, li26, li27, li28, li29, li30, li31, li32, li40, li48, li50, li57, li60, li97, li99, li100, li112, li119, li120, li122, li127, li128, li200, li201, li202, li203, li204, li205, li206, li207, li208, li209, li210, li211, li212, li213, li214, li215, li216, li217, li218, li219, li225, li255, li300, li301, li400, li512, li600, li999, li1000, li1600, li1000000, nI_add, pk_mul, Nat.add_right_cancel_iff, pk_sub, nI_leI, nI_ltI, nI_eq, nI_clamp, vin_iff, ne_m1, m1_ne, lt_m1, le_m1, m1_lt, m1_le, bI0, bI1, Nat.reduceAdd, Nat.reduceSub, Nat.reduceMul, forall_eq, gI_uI, gI_uJ, gI_sI, Nat.add_left_cancel_iff, Nat.reduceEqDiff, and_true, true_and, and_false, false_and, not_true_eq_false, not_false_eq_true, true_implies, false_implies, implies_true, if_true, if_false, ite_true, ite_false, reduceIte, Bool.true_eq_false, Bool.false_eq_true, Nat.reduceLT, Nat.reduceLeDiff, decide_true, decide_false]
    refine ⟨fun q => absurd q (by omega), fun _ => ⟨by omega, fun q => ?_, fun q => ?_⟩⟩
    · rw [if_neg q] at hf; exact hf
    · rw [if_pos q] at hf; exact hf
  · rintro s rfl R
    show wX12_missing_L4 54 R (nI (fMiss M pl)) (nI pl) st Q
    unfold wX12_missing_L4
    simp (disch := omega) only [hK.2.1, li0, li1, li2, li3, li4, li5, li6, li7, li8, li9, li10, li11, li12, li13, li14, li15, li16, li17, li18, li19, li20, li21, li22, li23, li24, li25, li26, li27, li28, li29, li30, li31, li32, li40, li48, li50, li57, li60, li97, li99, li100, li112, li119, li120, li122, li127, li128, li200, li201, li202, li203, li204, li205, li206, li207, li208, li209, li210, li211, li212, li213, li214, li215, li216, li217, li218, li219, li225, li255, li300, li301, li400, li512, li600, li999, li1000, li1600, li1000000, nI_add, pk_mul, Nat.add_right_cancel_iff, pk_sub, nI_leI, nI_ltI, nI_eq, nI_clamp, vin_iff, ne_m1, m1_ne, lt_m1, le_m1, m1_lt, m1_le, bI0, bI1, Nat.reduceAdd, Nat.reduceSub, Nat.reduceMul, forall_eq, gI_uI, gI_uJ, gI_sI, Nat.add_left_cancel_iff, Nat.reduceEqDiff, and_true, true_and, and_false, false_and, not_true_eq_false, not_false_eq_true, true_implies, false_implies, implies_true, if_true, if_false, ite_true, ite_false, reduceIte, Bool.true_eq_false, Bool.false_eq_true, Nat.reduceLT, Nat.reduceLeDiff, decide_true, decide_false]
    exact ⟨fun _ => h, fun q => absurd (Nat.le_refl _) q⟩
theorem r_canPass (hB : BB nw pl wt mi) (hM : MB t M) (hK : KB nw pl wt mi st) (hR : RM st M) (h : Q (bI (fPassN M pl)) st) : wX12_canPass 54 st Q := by
  unfold wX12_canPass
  have hp := hB.2.1
  by_cases h0 : pl = 0
  · subst h0
    refine ⟨1, ?_⟩
    show wX12_canPass_L2 54 _ 1 st Q
    unfold wX12_canPass_L2
    simp (disch := omega) only [hK.2.1, li0, li1, li2, li3, li4, li5, li6, li7, li8, li9, li10, li11, li12, li13, li14, li15, li16, li17, li18, li19, li20, li21, li22, li23, li24, li25, li26, li27, li28, li29, li30, li31, li32, li40, li48, li50, li57, li60, li97, li99, li100, li112, li119, li120, li122, li127, li128, li200, li201, li202, li203, li204, li205, li206, li207, li208, li209, li210, li211, li212, li213, li214, li215, li216, li217, li218, li219, li225, li255, li300, li301, li400, li512, li600, li999, li1000, li1600, li1000000, nI_add, pk_mul, Nat.add_right_cancel_iff, pk_sub, nI_leI, nI_ltI, nI_eq, nI_clamp, vin_iff, ne_m1, m1_ne, lt_m1, le_m1, m1_lt, m1_le, bI0, bI1, Nat.reduceAdd, Nat.reduceSub, Nat.reduceMul, forall_eq, gI_uI, gI_uJ, gI_sI, Nat.add_left_cancel_iff, Nat.reduceEqDiff, and_true, true_and, and_false, false_and, not_true_eq_false, not_false_eq_true, true_implies, false_implies, implies_true, if_true, if_false, ite_true, ite_false, reduceIte, Bool.true_eq_false, Bool.false_eq_true, Nat.reduceLT, Nat.reduceLeDiff, decide_true, decide_false]
    exact h
  refine lp_inv (n := pl - 1) (I := fun k s => s = (nI (1 + k), st) ∧ fPassN M (1 + k) = true) ?_ ?_ ⟨rfl, rfl⟩
  · rintro k s hk ⟨rfl, hq⟩ R hR2
    show wX12_canPass_L2 54 R (nI (1 + k)) st Q
    unfold wX12_canPass_L2 wX12_canPass_L41
    have e := hR (16 + (1 + k)) (by omega)
    have e2 := hR (16 + k) (by omega)
    have b := hM.st (k := 1 + k) (by omega)
    have b2 := hM.st (k := k) (by omega)
    have e3 : 16 + (1 + k) - 1 = 16 + k := by omega
    simp (disch := omega) only [hK.2.1, e, e3, e2, li0, li1, li2, li3, li4, li5, li6, li7, li8, li9, li10, li11, li12, li13, li14, li15, li16, li17, li18, li19, li20, li21, li22, li23, li24, li25, li26, li27, li28, li29, li30, li31, li32, li40, li48, li50, li57, li60, li97, li99, li100, li112, li119, li120, li122, li127, li128, li200, li201, li202, li203, li204, li205, li206, li207, li208, li209, li210, li211, li212, li213, li214, li215, li216, li217, li218, li219, li225, li255, li300, li301, li400, li512, li600, li999, li1000, li1600, li1000000, nI_add, pk_mul, Nat.add_right_cancel_iff, pk_sub, nI_leI, nI_ltI, nI_eq, nI_clamp, vin_iff, ne_m1, m1_ne, lt_m1, le_m1, m1_lt, m1_le, bI0, bI1, Nat.reduceAdd, Nat.reduceSub, Nat.reduceMul, forall_eq, gI_uI, gI_uJ, gI_sI, Nat.add_left_cancel_iff, Nat.reduceEqDiff, and_true, true_and, and_false, false_and, not_true_eq_false, not_false_eq_true, true_implies, false_implies, implies_true, if_true, if_false, ite_true, ite_false, reduceIte, Bool.true_eq_false, Bool.false_eq_true, Nat.reduceLT, Nat.reduceLeDiff, decide_true, decide_false]
    have hstep : fPassN M (1 + k + 1) = decide (¬ (M (16 + (1 + k)) = 0 ∧ M (16 + k) = 0)) := by
      show (fPassN M (1 + k) && _) = _
      rw [hq, e3]
      simp
    have hno : fPassN M (1 + k + 1) = true → R (nI (1 + k + 1), st) := fun q => hR2 _ ⟨rfl, q⟩
    refine ⟨fun q => absurd q (by omega), fun _ => ⟨by omega, fun q => ?_, fun q => ⟨by omega, fun q2 => ?_, fun q2 => ?_⟩⟩⟩
    · exact hno (by rw [hstep]; simp [q])
    · exact hno (by rw [hstep]; simp [q2])
    · have hfalse : ∀ j, fPassN M (1 + k + 1 + j) = false := by
        intro j
        induction j with
        | zero => rw [show 1 + k + 1 + 0 = 1 + k + 1 from rfl, hstep]; simp [q, q2]
        | succ j ih => show (fPassN M (1 + k + 1 + j) && _) = false; rw [ih]; rfl
      have := hfalse (pl - (1 + k + 1))
      rw [show 1 + k + 1 + (pl - (1 + k + 1)) = pl from by omega] at this
      rw [this] at h
      exact h
  · rintro s ⟨rfl, hq⟩ R
    show wX12_canPass_L2 54 R (nI (1 + (pl - 1))) st Q
    unfold wX12_canPass_L2
    rw [show 1 + (pl - 1) = pl from by omega] at hq ⊢
    rw [hq] at h
    simp (disch := omega) only [hK.2.1, li0, li1, li2, li3, li4, li5, li6, li7, li8, li9, li10, li11, li12, li13, li14, li15, li16, li17, li18, li19, li20, li21, li22, li23, li24, li25, li26, li27, li28, li29, li30, li31, li32, li40, li48, li50, li57, li60, li97, li99, li100, li112, li119, li120, li122, li127, li128, li200, li201, li202, li203, li204, li205, li206, li207, li208, li209, li210, li211, li212, li213, li214, li215, li216, li217, li218, li219, li225, li255, li300, li301, li400, li512, li600, li999, li1000, li1600, li1000000, nI_add, pk_mul, Nat.add_right_cancel_iff, pk_sub, nI_leI, nI_ltI, nI_eq, nI_clamp, vin_iff, ne_m1, m1_ne, lt_m1, le_m1, m1_lt, m1_le, bI0, bI1, Nat.reduceAdd, Nat.reduceSub, Nat.reduceMul, forall_eq, gI_uI, gI_uJ, gI_sI, Nat.add_left_cancel_iff, Nat.reduceEqDiff, and_true, true_and, and_false, false_and, not_true_eq_false, not_false_eq_true, true_implies, false_implies, implies_true, if_true, if_false, ite_true, ite_false, reduceIte, Bool.true_eq_false, Bool.false_eq_true, Nat.reduceLT, Nat.reduceLeDiff, decide_true, decide_false]
    exact ⟨fun _ => h, fun q => absurd (Nat.le_refl _) q⟩
theorem fWst_lt {snd : Bool} : ∀ (k : Nat) {j : Nat}, fWst M snd k = some j → j < k := by
  intro k
  induction k with
  | zero => intro j h; cases h
  | succ k ih =>
    intro j h
    unfold fWst at h
    split at h
    · have := ih h; omega
    · split at h
      · cases h; omega
      · next i hi =>
        have := ih hi
        split at h <;> cases h <;> omega
theorem oI_none : oI none = -nI 1 := rfl
theorem oI_some {k : Nat} : oI (some k) = nI k := rfl
theorem r_weakest {snd : Bool} (hB : BB nw pl wt mi) (hM : MB t M) (hK : KB nw pl wt mi st) (hR : RM st M) (h : Q (oI (fWst M snd pl)) st) : wX12_weakest 54 (bI snd) st Q := by
  unfold wX12_weakest
  have hp := hB.2.1
  refine lp_inv (n := pl) (I := fun k s => s = (bI snd, oI (fWst M snd k), nI k, st)) ?_ ?_ rfl
  · rintro k s hk rfl R hR2
    have hf := hR2 _ rfl
    show wX12_weakest_L4 54 (bI snd) R (bI snd) (oI (fWst M snd k)) (nI k) st Q
    unfold wX12_weakest_L4 wX12_weakest_L47 wX12_weakest_L73 wX12_weakest_L75
    have e := hR (16 + k) (by omega)
    have e2 := hR (28 + k) (by omega)
    have b := hM.st (k := k) (by omega)
    have b2 := hM.ro (k := k) (by omega)
    unfold fWst at hf
    have hgo : (¬ (M (16 + k) = 0 ∨ snd = true ∧ M (28 + k) = 1)) → (oI (fWst M snd k) = -nI 1 → R (bI snd, nI k, nI (k + 1), st)) ∧ (¬ oI (fWst M snd k) = -nI 1 → vp_in (nI 16 + nI k) 50 ∧ vp_in (nI 16 + oI (fWst M snd k)) 50 ∧ ((gI st 56 (nI 16 + oI (fWst M snd k)).toNatClampNeg ≤ gI st 56 (nI 16 + nI k).toNatClampNeg → R (bI snd, oI (fWst M snd k), nI (k + 1), st)) ∧ (¬ gI st 56 (nI 16 + oI (fWst M snd k)).toNatClampNeg ≤ gI st 56 (nI 16 + nI k).toNatClampNeg → R (bI snd, nI k, nI (k + 1), st)))) := by
      intro hn
      rw [if_neg hn] at hf
      cases hw : fWst M snd k with
      | none =>
        simp only [hw] at hf
        exact ⟨fun _ => hf, fun q => absurd rfl q⟩
      | some j =>
        have hj := fWst_lt k hw
        have e4 := hR (16 + j) (by omega)
        have b4 := hM.st (k := j) (by omega)
        simp only [hw] at hf
        simp (disch := omega) only [oI_some, e, e4, li0, li1, li2, li3, li4, li5, li6, li7, li8, li9, li10, li11, li12, li13, li14, li15, li16, li17, li18, li19, li20, li21, li22, li23, li24, li25, li26, li27, li28, li29, li30, li31, li32, li40, li48, li50, li57, li60, li97, li99, li100, li112, li119, li120, li122, li127, li128, li200, li201, li202, li203, li204, li205, li206, li207, li208, li209, li210, li211, li212, li213, li214, li215, li216, li217, li218, li219, li225, li255, li300, li301, li400, li512, li600, li999, li1000, li1600, li1000000, nI_add, pk_mul, Nat.add_right_cancel_iff, pk_sub, nI_leI, nI_ltI, nI_eq, nI_clamp, vin_iff, ne_m1, m1_ne, lt_m1, le_m1, m1_lt, m1_le, bI0, bI1, Nat.reduceAdd, Nat.reduceSub, Nat.reduceMul, forall_eq, gI_uI, gI_uJ, gI_sI, Nat.add_left_cancel_iff, Nat.reduceEqDiff, and_true, true_and, and_false, false_and, not_true_eq_false, not_false_eq_true, true_implies, false_implies, implies_true, if_true, if_false, ite_true, ite_false, reduceIte, Bool.true_eq_false, Bool.false_eq_true, Nat.reduceLT, Nat.reduceLeDiff, decide_true, decide_false]
        refine ⟨by omega, by omega, fun q => ?_, fun q => ?_⟩
        · rw [if_neg (by omega)] at hf; exact hf
        · rw [if_pos (by omega)] at hf; exact hf
    simp (disch := omega) only [hK.2.1, e, e2, li0, li1, li2, li3, li4, li5, li6, li7, li8, li9, li10, li11, li12, li13, li14, li15, li16, li17, li18, li19, li20, li21, li22, li23, li24, li25, li26, li27, li28, li29, li30, li31, li32, li40, li48, li50, li57, li60, li97, li99, li100, li112, li119, li120, li122, li127, li128, li200, li201, li202, li203, li204, li205, li206, li207, li208, li209, li210, li211, li212, li213, li214, li215, li216, li217, li218, li219, li225, li255, li300, li301, li400, li512, li600, li999, li1000, li1600, li1000000, nI_add, pk_mul, Nat.add_right_cancel_iff, pk_sub, nI_leI, nI_ltI, nI_eq, nI_clamp, vin_iff, ne_m1, m1_ne, lt_m1, le_m1, m1_lt, m1_le, bI0, bI1, Nat.reduceAdd, Nat.reduceSub, Nat.reduceMul, forall_eq, gI_uI, gI_uJ, gI_sI, Nat.add_left_cancel_iff, Nat.reduceEqDiff, and_true, true_and, and_false, false_and, not_true_eq_false, not_false_eq_true, true_implies, false_implies, implies_true, if_true, if_false, ite_true, ite_false, reduceIte, Bool.true_eq_false, Bool.false_eq_true, Nat.reduceLT, Nat.reduceLeDiff, decide_true, decide_false]
    simp (disch := omega) only [e, li0, li1, li2, li3, li4, li5, li6, li7, li8, li9, li10, li11, li12, li13, li14, li15, li16, li17, li18, li19, li20, li21, li22, li23, li24, li25, li26, li27, li28, li29, li30, li31, li32, li40, li48, li50, li57, li60, li97, li99, li100, li112, li119, li120, li122, li127, li128, li200, li201, li202, li203, li204, li205, li206, li207, li208, li209, li210, li211, li212, li213, li214, li215, li216, li217, li218, li219, li225, li255, li300, li301, li400, li512, li600, li999, li1000, li1600, li1000000, nI_add, pk_mul, Nat.add_right_cancel_iff, pk_sub, nI_leI, nI_ltI, nI_eq, nI_clamp, vin_iff, ne_m1, m1_ne, lt_m1, le_m1, m1_lt, m1_le, bI0, bI1, Nat.reduceAdd, Nat.reduceSub, Nat.reduceMul, forall_eq, gI_uI, gI_uJ, gI_sI, Nat.add_left_cancel_iff, Nat.reduceEqDiff, and_true, true_and, and_false, false_and, not_true_eq_false, not_false_eq_true, true_implies, false_implies, implies_true, if_true, if_false, ite_true, ite_false, reduceIte, Bool.true_eq_false, Bool.false_eq_true, Nat.reduceLT, Nat.reduceLeDiff, decide_true, decide_false] at hgo
    refine ⟨fun q => absurd q (by omega), fun _ => ⟨by omega, fun q => ?_, fun q => ⟨fun q2 => ?_, fun q2 => ⟨by omega, fun q3 => ?_, fun q3 => ?_⟩⟩⟩⟩
    · rw [if_pos (Or.inl q)] at hf; exact hf
    · exact hgo (by simp [q, q2])
    · exact hgo (by simp [q, q3])
    · rw [if_pos (Or.inr ⟨by simpa using q2, q3⟩)] at hf; exact hf
  · rintro s rfl R
    show wX12_weakest_L4 54 (bI snd) R (bI snd) (oI (fWst M snd pl)) (nI pl) st Q
    unfold wX12_weakest_L4
    simp (disch := omega) only [hK.2.1, li0, li1, li2, li3, li4, li5, li6, li7, li8, li9, li10, li11, li12, li13, li14, li15, li16, li17, li18, li19, li20, li21, li22, li23, li24, li25, li26, li27, li28, li29, li30, li31, li32, li40, li48, li50, li57, li60, li97, li99, li100, li112, li119, li120, li122, li127, li128, li200, li201, li202, li203, li204, li205, li206, li207, li208, li209, li210, li211, li212, li213, li214, li215, li216, li217, li218, li219, li225, li255, li300, li301, li400, li512, li600, li999, li1000, li1600, li1000000, nI_add, pk_mul, Nat.add_right_cancel_iff, pk_sub, nI_leI, nI_ltI, nI_eq, nI_clamp, vin_iff, ne_m1, m1_ne, lt_m1, le_m1, m1_lt, m1_le, bI0, bI1, Nat.reduceAdd, Nat.reduceSub, Nat.reduceMul, forall_eq, gI_uI, gI_uJ, gI_sI, Nat.add_left_cancel_iff, Nat.reduceEqDiff, and_true, true_and, and_false, false_and, not_true_eq_false, not_false_eq_true, true_implies, false_implies, implies_true, if_true, if_false, ite_true, ite_false, reduceIte, Bool.true_eq_false, Bool.false_eq_true, Nat.reduceLT, Nat.reduceLeDiff, decide_true, decide_false]
    exact ⟨fun _ => h, fun q => absurd (Nat.le_refl _) q⟩
end RB

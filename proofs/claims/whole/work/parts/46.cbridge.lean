/-! the class's bridge at the cell b: what each method that only looks answers -/
theorem eb1 {b : Nat} : (b + 1 = b) ↔ False := ⟨fun q => by omega, False.elim⟩
theorem be1 {b : Nat} : (b = b + 1) ↔ False := ⟨fun q => by omega, False.elim⟩
theorem eb2 {b : Nat} : (b + 2 = b) ↔ False := ⟨fun q => by omega, False.elim⟩
theorem be2 {b : Nat} : (b = b + 2) ↔ False := ⟨fun q => by omega, False.elim⟩
theorem eb3 {b : Nat} : (b + 3 = b) ↔ False := ⟨fun q => by omega, False.elim⟩
theorem be3 {b : Nat} : (b = b + 3) ↔ False := ⟨fun q => by omega, False.elim⟩
theorem eb4 {b : Nat} : (b + 4 = b) ↔ False := ⟨fun q => by omega, False.elim⟩
theorem be4 {b : Nat} : (b = b + 4) ↔ False := ⟨fun q => by omega, False.elim⟩
theorem eb5 {b : Nat} : (b + 5 = b) ↔ False := ⟨fun q => by omega, False.elim⟩
theorem be5 {b : Nat} : (b = b + 5) ↔ False := ⟨fun q => by omega, False.elim⟩
def scv (nw pl : Nat) (M : Nat → Nat) (j : Nat) : Nat := if j = 0 then nw else if j = 4 then pl else if j = 7 then 1 - M 0 else if j = 8 then M 1 else if j = 9 then M 2 else if j = 10 then M 3 else if j = 11 then M 4 else if j = 12 then M 5 else M 6
/-- near ones as bits -/
def SBt (nw : Nat) (M : Nat → Nat) (S : Nat) : Prop := S < 256 ∧ ∀ k, S.testBit k = (decide (k < nw) && decide (M (8 + k) = 0))
def CB (b nw : Nat) (wt mi : Nat → Nat) (st : St) : Prop := (∀ k, k < nw → gI st (b + 1) k = nI (wt k)) ∧ ∀ k, k < nw → gI st (b + 2) k = nI (mi k)
def BR (b nw pl : Nat) (st : St) (M : Nat → Nat) : Prop := (∀ j, j = 0 ∨ j = 4 ∨ (7 ≤ j ∧ j ≤ 13) → gI st b j = nI (scv nw pl M j)) ∧ (∃ S, gI st b 3 = nI S ∧ SBt nw M S) ∧ (∀ k, k < pl → gI st (b + 3) k = nI (M (16 + k))) ∧ (∀ k, k < pl → gI st (b + 4) k = nI (M (28 + k))) ∧ (∀ k, k < 12 → bz (gI st (b + 4) k)) ∧ ∀ k, k < 10 → k < M 6 → gI st (b + 5) ((M 6 - 1 - k) % 10) = nI (M (40 + k))
section CBR
variable {b nw pl t : Nat} {wt mi : Nat → Nat} {M : Nat → Nat} {st : St} {Q : Int32 → St → Prop} {Qv : St → Prop}
theorem BR.w0 (h : BR b nw pl st M) : gI st b 0 = nI nw := h.1 0 (by omega)
theorem BR.p4 (h : BR b nw pl st M) : gI st b 4 = nI pl := h.1 4 (by omega)
theorem BR.la (h : BR b nw pl st M) : gI st b 7 = nI (1 - M 0) := h.1 7 (by omega)
theorem BR.oi (h : BR b nw pl st M) : gI st b 8 = nI (M 1) := h.1 8 (by omega)
theorem BR.ni (h : BR b nw pl st M) : gI st b 9 = nI (M 2) := h.1 9 (by omega)
theorem BR.m10 (h : BR b nw pl st M) : gI st b 10 = nI (M 3) := h.1 10 (by omega)
theorem BR.ov (h : BR b nw pl st M) : gI st b 11 = nI (M 4) := h.1 11 (by omega)
theorem BR.fe (h : BR b nw pl st M) : gI st b 12 = nI (M 5) := h.1 12 (by omega)
theorem BR.no (h : BR b nw pl st M) : gI st b 13 = nI (M 6) := h.1 13 (by omega)
theorem BR.ss (h : BR b nw pl st M) {k : Nat} (hk : k < pl) : gI st (b + 3) k = nI (M (16 + k)) := h.2.2.1 k hk
theorem BR.rr (h : BR b nw pl st M) {k : Nat} (hk : k < pl) : gI st (b + 4) k = nI (M (28 + k)) := h.2.2.2.1 k hk
theorem BR.bz9 (h : BR b nw pl st M) {k : Nat} (hk : k < 12) : bz (gI st (b + 4) k) := h.2.2.2.2.1 k hk
theorem c_weak (h : BR b nw pl st M) (hq : Q (bI (fWeak M)) st) : wX2_nightIsWeak b st Q := by
  unfold wX2_nightIsWeak
  have e := h.ni
  simp (disch := omega) only [e, li0, li1, li2, li3, li4, li5, li6, li7, li8, li9, li10, li11, li12, li13, li14, li15, li16, li17, li18, li19, li20, li21, li22, li23, li24, li25, li26, li27, li28, li29, li30, li31, li32, li40, li48, li50, li57, li60, li97, li99, li100, li112, li119, li120, li122, li127, li128, li200, li201, li202, li203, li204, li205, li206, li207, li208, li209, li210, li211, li212, li213, li214, li215, li216, li217, li218, li219, li225, li255, li300, li301, li400, li512, li600, li999, li1000, li1600, li1000000, eb1, eb2, eb3, eb4, eb5, be1, be2, be3, be4, be5, nI_add, pk_mul, Nat.add_right_cancel_iff, pk_sub, nI_leI, nI_ltI, nI_eq, nI_clamp, vin_iff, ne_m1, m1_ne, lt_m1, le_m1, m1_lt, m1_le, bI0, bI1, Nat.reduceAdd, Nat.reduceSub, Nat.reduceMul, forall_eq, gI_uI, gI_uJ, gI_sI, Nat.add_left_cancel_iff, Nat.reduceEqDiff, and_true, true_and, and_false, false_and, not_true_eq_false, not_false_eq_true, true_implies, false_implies, implies_true, if_true, if_false, ite_true, ite_false, reduceIte, Bool.true_eq_false, Bool.false_eq_true, Nat.reduceLT, Nat.reduceLeDiff, decide_true, decide_false]
  refine ⟨fun hc => ?_, fun hc => ?_⟩
  · rw [show fWeak M = false from decide_eq_false hc] at hq; exact hq
  · rw [show fWeak M = true from decide_eq_true hc] at hq; exact hq
theorem c_has {k : Nat} (hB : BB nw pl wt mi) (h : BR b nw pl st M) (hk : k < nw) (hq : Q (nI 1) st) : wX2_hasWalker b (nI k) st Q := by
  unfold wX2_hasWalker
  have h8 := hB.1
  have e := h.w0
  have a1 : ¬ k < 0 := by omega
  have a2 : ¬ nw ≤ k := by omega
  simp (disch := omega) only [e, a1, a2, li0, li1, li2, li3, li4, li5, li6, li7, li8, li9, li10, li11, li12, li13, li14, li15, li16, li17, li18, li19, li20, li21, li22, li23, li24, li25, li26, li27, li28, li29, li30, li31, li32, li40, li48, li50, li57, li60, li97, li99, li100, li112, li119, li120, li122, li127, li128, li200, li201, li202, li203, li204, li205, li206, li207, li208, li209, li210, li211, li212, li213, li214, li215, li216, li217, li218, li219, li225, li255, li300, li301, li400, li512, li600, li999, li1000, li1600, li1000000, eb1, eb2, eb3, eb4, eb5, be1, be2, be3, be4, be5, nI_add, pk_mul, Nat.add_right_cancel_iff, pk_sub, nI_leI, nI_ltI, nI_eq, nI_clamp, vin_iff, ne_m1, m1_ne, lt_m1, le_m1, m1_lt, m1_le, bI0, bI1, Nat.reduceAdd, Nat.reduceSub, Nat.reduceMul, forall_eq, gI_uI, gI_uJ, gI_sI, Nat.add_left_cancel_iff, Nat.reduceEqDiff, and_true, true_and, and_false, false_and, not_true_eq_false, not_false_eq_true, true_implies, false_implies, implies_true, if_true, if_false, ite_true, ite_false, reduceIte, Bool.true_eq_false, Bool.false_eq_true, Nat.reduceLT, Nat.reduceLeDiff, decide_true, decide_false]
  exact hq
theorem c_hasN (hq : Q (nI 0) st) : wX2_hasWalker b (-nI 1) st Q := by
  unfold wX2_hasWalker
  exact ⟨fun _ => hq, fun q => absurd (by decide) q⟩
theorem ush31 : ∀ k, k < 31 → (((nI k).toUInt32 &&& Int32.toUInt32 31).toBitVec % 32).toNat = k := by decide +kernel
theorem bit_nI {S k : Nat} (hS : S < 2 ^ 31) (hk : k < 31) : ((nI S).toUInt32 >>> ((nI k).toUInt32 &&& Int32.toUInt32 31)).toInt32 &&& 1 = nI (S / 2 ^ k % 2) := by
  have h2 : S / 2 ^ k ≤ S := Nat.div_le_self _ _
  rw [pk_ushrN (by omega) (nI k) k (ush31 k hk), pk_andN (by omega) 1 rfl]
theorem c_near {k : Nat} (hB : BB nw pl wt mi) (h : BR b nw pl st M) (hk : k < nw) (hq : Q (bI (decide (M (8 + k) = 0))) st) : wX2_standsNear b (nI k) st Q := by
  unfold wX2_standsNear
  have h8 := hB.1
  obtain ⟨S, eS, hS, hb⟩ := h.2.1
  have hbk := hb k
  rw [Nat.testBit_eq_decide_div_mod_eq, decide_eq_true hk, Bool.true_and] at hbk
  have h1 : S / 2 ^ k % 2 < 2 := Nat.mod_lt _ (by omega)
  rw [eS, bit_nI (by omega) (by omega)]
  simp (disch := omega) only [li0, li1, li2, li3, li4, li5, li6, li7, li8, li9, li10, li11, li12, li13, li14, li15, li16, li17, li18, li19, li20, li21, li22, li23, li24, li25, li26, li27, li28, li29, li30, li31, li32, li40, li48, li50, li57, li60, li97, li99, li100, li112, li119, li120, li122, li127, li128, li200, li201, li202, li203, li204, li205, li206, li207, li208, li209, li210, li211, li212, li213, li214, li215, li216, li217, li218, li219, li225, li255, li300, li301, li400, li512, li600, li999, li1000, li1600, li1000000, eb1, eb2, eb3, eb4, eb5, be1, be2, be3, be4, be5, nI_add, pk_mul, Nat.add_right_cancel_iff, pk_sub, nI_leI, nI_ltI, nI_eq, nI_clamp, vin_iff, ne_m1, m1_ne, lt_m1, le_m1, m1_lt, m1_le, bI0, bI1, Nat.reduceAdd, Nat.reduceSub, Nat.reduceMul, forall_eq, gI_uI, gI_uJ, gI_sI, Nat.add_left_cancel_iff, Nat.reduceEqDiff, and_true, true_and, and_false, false_and, not_true_eq_false, not_false_eq_true, true_implies, false_implies, implies_true, if_true, if_false, ite_true, ite_false, reduceIte, Bool.true_eq_false, Bool.false_eq_true, Nat.reduceLT, Nat.reduceLeDiff, decide_true, decide_false]
  refine ⟨fun q => ?_, fun q => ?_⟩
  · rw [decide_eq_false q] at hbk
    rw [← hbk] at hq; exact hq
  · rw [decide_eq_true q] at hbk
    rw [← hbk] at hq; exact hq
theorem c_load {k : Nat} (hB : BB nw pl wt mi) (hM : MB t M) (h : BR b nw pl st M) (hk : k < pl) (hq : Q (nI (fBear M k)) st) : wX2_loadOf b (nI k) st Q := by
  unfold wX2_loadOf
  have hp := hB.2.1
  have b1 := hM.st (k := k) (by omega)
  have e := h.ss hk
  have a1 : ¬ k < 0 := by omega
  have e4 := h.p4
  simp (disch := omega) only [a1, e4, hk, li0, li1, li2, li3, li4, li5, li6, li7, li8, li9, li10, li11, li12, li13, li14, li15, li16, li17, li18, li19, li20, li21, li22, li23, li24, li25, li26, li27, li28, li29, li30, li31, li32, li40, li48, li50, li57, li60, li97, li99, li100, li112, li119, li120, li122, li127, li128, li200, li201, li202, li203, li204, li205, li206, li207, li208, li209, li210, li211, li212, li213, li214, li215, li216, li217, li218, li219, li225, li255, li300, li301, li400, li512, li600, li999, li1000, li1600, li1000000, eb1, eb2, eb3, eb4, eb5, be1, be2, be3, be4, be5, nI_add, pk_mul, Nat.add_right_cancel_iff, pk_sub, nI_leI, nI_ltI, nI_eq, nI_clamp, vin_iff, ne_m1, m1_ne, lt_m1, le_m1, m1_lt, m1_le, bI0, bI1, Nat.reduceAdd, Nat.reduceSub, Nat.reduceMul, forall_eq, gI_uI, gI_uJ, gI_sI, Nat.add_left_cancel_iff, Nat.reduceEqDiff, and_true, true_and, and_false, false_and, not_true_eq_false, not_false_eq_true, true_implies, false_implies, implies_true, if_true, if_false, ite_true, ite_false, reduceIte, Bool.true_eq_false, Bool.false_eq_true, Nat.reduceLT, Nat.reduceLeDiff, decide_true, decide_false]
  refine c_weak h ?_
  unfold fBear at hq
  unfold wX2_loadOf_L38
  refine ⟨fun q => ?_, fun q => ?_⟩
  · rw [bI0.mp q] at hq
    simp (disch := omega) only [e, li0, li1, li2, li3, li4, li5, li6, li7, li8, li9, li10, li11, li12, li13, li14, li15, li16, li17, li18, li19, li20, li21, li22, li23, li24, li25, li26, li27, li28, li29, li30, li31, li32, li40, li48, li50, li57, li60, li97, li99, li100, li112, li119, li120, li122, li127, li128, li200, li201, li202, li203, li204, li205, li206, li207, li208, li209, li210, li211, li212, li213, li214, li215, li216, li217, li218, li219, li225, li255, li300, li301, li400, li512, li600, li999, li1000, li1600, li1000000, eb1, eb2, eb3, eb4, eb5, be1, be2, be3, be4, be5, nI_add, pk_mul, Nat.add_right_cancel_iff, pk_sub, nI_leI, nI_ltI, nI_eq, nI_clamp, vin_iff, ne_m1, m1_ne, lt_m1, le_m1, m1_lt, m1_le, bI0, bI1, Nat.reduceAdd, Nat.reduceSub, Nat.reduceMul, forall_eq, gI_uI, gI_uJ, gI_sI, Nat.add_left_cancel_iff, Nat.reduceEqDiff, and_true, true_and, and_false, false_and, not_true_eq_false, not_false_eq_true, true_implies, false_implies, implies_true, if_true, if_false, ite_true, ite_false, reduceIte, Bool.true_eq_false, Bool.false_eq_true, Nat.reduceLT, Nat.reduceLeDiff, decide_true, decide_false]
    refine ⟨by omega, fun q2 => ?_, fun q2 => ?_⟩
    · rw [if_neg (by decide), show M (16 + k) = 0 from by omega] at hq; exact hq
    · rw [if_neg (by decide)] at hq; exact hq
  · rw [(Bool.not_eq_false _).mp (fun e => q (bI0.mpr e)), if_pos rfl] at hq
    by_cases q3 : 3 ≤ M (16 + k)
    · simp (disch := omega) only [e, li0, li1, li2, li3, li4, li5, li6, li7, li8, li9, li10, li11, li12, li13, li14, li15, li16, li17, li18, li19, li20, li21, li22, li23, li24, li25, li26, li27, li28, li29, li30, li31, li32, li40, li48, li50, li57, li60, li97, li99, li100, li112, li119, li120, li122, li127, li128, li200, li201, li202, li203, li204, li205, li206, li207, li208, li209, li210, li211, li212, li213, li214, li215, li216, li217, li218, li219, li225, li255, li300, li301, li400, li512, li600, li999, li1000, li1600, li1000000, eb1, eb2, eb3, eb4, eb5, be1, be2, be3, be4, be5, nI_add, pk_mul, Nat.add_right_cancel_iff, pk_sub, nI_leI, nI_ltI, nI_eq, nI_clamp, vin_iff, ne_m1, m1_ne, lt_m1, le_m1, m1_lt, m1_le, bI0, bI1, Nat.reduceAdd, Nat.reduceSub, Nat.reduceMul, forall_eq, gI_uI, gI_uJ, gI_sI, Nat.add_left_cancel_iff, Nat.reduceEqDiff, and_true, true_and, and_false, false_and, not_true_eq_false, not_false_eq_true, true_implies, false_implies, implies_true, if_true, if_false, ite_true, ite_false, reduceIte, Bool.true_eq_false, Bool.false_eq_true, Nat.reduceLT, Nat.reduceLeDiff, decide_true, decide_false]
      refine ⟨by omega, fun q2 => ?_, fun q2 => hq⟩
      rw [show M (16 + k) - 3 = 0 from by omega] at hq; exact hq
    · have hn : nI (M (16 + k)) - nI 3 ≤ nI 0 := by
        have := pk_sneg (a := M (16 + k)) (b := 3) (by omega) (by omega)
        rw [Int32.lt_iff_toInt_lt] at this
        rw [Int32.le_iff_toInt_le]
        have e0 : (nI 0).toInt = 0 := rfl
        have e1 : (0 : Int32).toInt = 0 := rfl
        omega
      rw [show M (16 + k) - 3 = 0 from by omega] at hq
      simp (disch := omega) only [e, li0, li1, li2, li3, li4, li5, li6, li7, li8, li9, li10, li11, li12, li13, li14, li15, li16, li17, li18, li19, li20, li21, li22, li23, li24, li25, li26, li27, li28, li29, li30, li31, li32, li40, li48, li50, li57, li60, li97, li99, li100, li112, li119, li120, li122, li127, li128, li200, li201, li202, li203, li204, li205, li206, li207, li208, li209, li210, li211, li212, li213, li214, li215, li216, li217, li218, li219, li225, li255, li300, li301, li400, li512, li600, li999, li1000, li1600, li1000000, eb1, eb2, eb3, eb4, eb5, be1, be2, be3, be4, be5, nI_add, pk_mul, Nat.add_right_cancel_iff, pk_sub, nI_leI, nI_ltI, nI_eq, nI_clamp, vin_iff, ne_m1, m1_ne, lt_m1, le_m1, m1_lt, m1_le, bI0, bI1, Nat.reduceAdd, Nat.reduceSub, Nat.reduceMul, forall_eq, gI_uI, gI_uJ, gI_sI, Nat.add_left_cancel_iff, Nat.reduceEqDiff, and_true, true_and, and_false, false_and, not_true_eq_false, not_false_eq_true, true_implies, false_implies, implies_true, if_true, if_false, ite_true, ite_false, reduceIte, Bool.true_eq_false, Bool.false_eq_true, Nat.reduceLT, Nat.reduceLeDiff, decide_true, decide_false]
      exact ⟨by omega, fun _ => hq, fun q4 => absurd hn q4⟩
theorem c_missing (hB : BB nw pl wt mi) (hM : MB t M) (h : BR b nw pl st M) (hq : Q (nI (fMiss M pl)) st) : wX2_countMissing b st Q := by
  unfold wX2_countMissing
  have hp := hB.2.1
  have e4 := h.p4
  refine lp_inv (n := pl) (I := fun k s => s = (nI (fMiss M k), nI k, st)) ?_ ?_ rfl
  · rintro k s hk rfl R hR2
    have hf := hR2 _ rfl
    show wX2_countMissing_L4 b R (nI (fMiss M k)) (nI k) st Q
    unfold wX2_countMissing_L4 wX2_countMissing_L24
    have e := h.ss hk
    have b1 := hM.st (k := k) (by omega)
    unfold fMiss at hf
    simp (disch := omega) only [e4, e, li0, li1, li2, li3, li4, li5, li6, li7, li8, li9, li10, li11, li12, li13, li14, li15, li16, li17, li18, li19, li20, li21, li22, li23, li24, li25, li26, li27, li28, li29, li30, li31, li32, li40, li48, li50, li57, li60, li97, li99, li100, li112, li119, li120, li122, li127, li128, li200, li201, li202, li203, li204, li205, li206, li207, li208, li209, li210, li211, li212, li213, li214, li215, li216, li217, li218, li219, li225, li255, li300, li301, li400, li512, li600, li999, li1000, li1600, li1000000, eb1, eb2, eb3, eb4, eb5, be1, be2, be3, be4, be5, nI_add, pk_mul, Nat.add_right_cancel_iff, pk_sub, nI_leI, nI_ltI, nI_eq, nI_clamp, vin_iff, ne_m1, m1_ne, lt_m1, le_m1, m1_lt, m1_le, bI0, bI1, Nat.reduceAdd, Nat.reduceSub, Nat.reduceMul, forall_eq, gI_uI, gI_uJ, gI_sI, Nat.add_left_cancel_iff, Nat.reduceEqDiff, and_true, true_and, and_false, false_and, not_true_eq_false, not_false_eq_true, true_implies, false_implies, implies_true, if_true, if_false, ite_true, ite_false, reduceIte, Bool.true_eq_false, Bool.false_eq_true, Nat.reduceLT, Nat.reduceLeDiff, decide_true, decide_false]
    refine ⟨fun q => absurd q (by omega), fun _ => ⟨by omega, fun q => ?_, fun q => ?_⟩⟩
    · rw [if_neg q] at hf; exact hf
    · rw [if_pos q] at hf; exact hf
  · rintro s rfl R
    show wX2_countMissing_L4 b R (nI (fMiss M pl)) (nI pl) st Q
    unfold wX2_countMissing_L4
    simp (disch := omega) only [e4, li0, li1, li2, li3, li4, li5, li6, li7, li8, li9, li10, li11, li12, li13, li14, li15, li16, li17, li18, li19, li20, li21, li22, li23, li24, li25, li26, li27, li28, li29, li30, li31, li32, li40, li48, li50, li57, li60, li97, li99, li100, li112, li119, li120, li122, li127, li128, li200, li201, li202, li203, li204, li205, li206, li207, li208, li209, li210, li211, li212, li213, li214, li215, li216, li217, li218, li219, li225, li255, li300, li301, li400, li512, li600, li999, li1000, li1600, li1000000, eb1, eb2, eb3, eb4, eb5, be1, be2, be3, be4, be5, nI_add, pk_mul, Nat.add_right_cancel_iff, pk_sub, nI_leI, nI_ltI, nI_eq, nI_clamp, vin_iff, ne_m1, m1_ne, lt_m1, le_m1, m1_lt, m1_le, bI0, bI1, Nat.reduceAdd, Nat.reduceSub, Nat.reduceMul, forall_eq, gI_uI, gI_uJ, gI_sI, Nat.add_left_cancel_iff, Nat.reduceEqDiff, and_true, true_and, and_false, false_and, not_true_eq_false, not_false_eq_true, true_implies, false_implies, implies_true, if_true, if_false, ite_true, ite_false, reduceIte, Bool.true_eq_false, Bool.false_eq_true, Nat.reduceLT, Nat.reduceLeDiff, decide_true, decide_false]
    exact ⟨fun _ => hq, fun q => absurd (Nat.le_refl _) q⟩
theorem c_pass (hB : BB nw pl wt mi) (hM : MB t M) (h : BR b nw pl st M) (hq : Q (bI (fPassN M pl)) st) : wX2_canBePassed b st Q := by
  unfold wX2_canBePassed
  have hp := hB.2.1
  have e4 := h.p4
  by_cases h0 : pl = 0
  · subst h0
    refine ⟨1, ?_⟩
    show wX2_canBePassed_L2 b _ 1 st Q
    unfold wX2_canBePassed_L2
    simp (disch := omega) only [e4, li0, li1, li2, li3, li4, li5, li6, li7, li8, li9, li10, li11, li12, li13, li14, li15, li16, li17, li18, li19, li20, li21, li22, li23, li24, li25, li26, li27, li28, li29, li30, li31, li32, li40, li48, li50, li57, li60, li97, li99, li100, li112, li119, li120, li122, li127, li128, li200, li201, li202, li203, li204, li205, li206, li207, li208, li209, li210, li211, li212, li213, li214, li215, li216, li217, li218, li219, li225, li255, li300, li301, li400, li512, li600, li999, li1000, li1600, li1000000, eb1, eb2, eb3, eb4, eb5, be1, be2, be3, be4, be5, nI_add, pk_mul, Nat.add_right_cancel_iff, pk_sub, nI_leI, nI_ltI, nI_eq, nI_clamp, vin_iff, ne_m1, m1_ne, lt_m1, le_m1, m1_lt, m1_le, bI0, bI1, Nat.reduceAdd, Nat.reduceSub, Nat.reduceMul, forall_eq, gI_uI, gI_uJ, gI_sI, Nat.add_left_cancel_iff, Nat.reduceEqDiff, and_true, true_and, and_false, false_and, not_true_eq_false, not_false_eq_true, true_implies, false_implies, implies_true, if_true, if_false, ite_true, ite_false, reduceIte, Bool.true_eq_false, Bool.false_eq_true, Nat.reduceLT, Nat.reduceLeDiff, decide_true, decide_false]
    exact hq
  refine lp_inv (n := pl - 1) (I := fun k s => s = (nI (1 + k), st) ∧ fPassN M (1 + k) = true) ?_ ?_ ⟨rfl, rfl⟩
  · rintro k s hk ⟨rfl, hf⟩ R hR2
    show wX2_canBePassed_L2 b R (nI (1 + k)) st Q
    unfold wX2_canBePassed_L2 wX2_canBePassed_L32
    have e := h.ss (k := 1 + k) (by omega)
    have e2 := h.ss (k := k) (by omega)
    have b1 := hM.st (k := 1 + k) (by omega)
    have b2 := hM.st (k := k) (by omega)
    have e3 : 16 + (1 + k) - 1 = 16 + k := by omega
    have e5 : 1 + k - 1 = k := by omega
    simp (disch := omega) only [e4, e, e5, e2, li0, li1, li2, li3, li4, li5, li6, li7, li8, li9, li10, li11, li12, li13, li14, li15, li16, li17, li18, li19, li20, li21, li22, li23, li24, li25, li26, li27, li28, li29, li30, li31, li32, li40, li48, li50, li57, li60, li97, li99, li100, li112, li119, li120, li122, li127, li128, li200, li201, li202, li203, li204, li205, li206, li207, li208, li209, li210, li211, li212, li213, li214, li215, li216, li217, li218, li219, li225, li255, li300, li301, li400, li512, li600, li999, li1000, li1600, li1000000, eb1, eb2, eb3, eb4, eb5, be1, be2, be3, be4, be5, nI_add, pk_mul, Nat.add_right_cancel_iff, pk_sub, nI_leI, nI_ltI, nI_eq, nI_clamp, vin_iff, ne_m1, m1_ne, lt_m1, le_m1, m1_lt, m1_le, bI0, bI1, Nat.reduceAdd, Nat.reduceSub, Nat.reduceMul, forall_eq, gI_uI, gI_uJ, gI_sI, Nat.add_left_cancel_iff, Nat.reduceEqDiff, and_true, true_and, and_false, false_and, not_true_eq_false, not_false_eq_true, true_implies, false_implies, implies_true, if_true, if_false, ite_true, ite_false, reduceIte, Bool.true_eq_false, Bool.false_eq_true, Nat.reduceLT, Nat.reduceLeDiff, decide_true, decide_false]
    have hstep : fPassN M (1 + k + 1) = decide (¬ (M (16 + (1 + k)) = 0 ∧ M (16 + k) = 0)) := by
      show (fPassN M (1 + k) && _) = _
      rw [hf, e3]
      simp
    have hno : fPassN M (1 + k + 1) = true → R (nI (1 + k + 1), st) := fun q => hR2 _ ⟨rfl, q⟩
    refine ⟨fun q => absurd q (by omega), fun _ => ⟨by omega, fun q => ?_, fun q => ⟨by omega, fun q2 => ?_, fun q2 => ?_⟩⟩⟩
    · exact hno (by rw [hstep]; simp [q])
    · exact hno (by rw [hstep]; simp [q2])
    · have hfalse : ∀ j, fPassN M (1 + k + 1 + j) = false := by
        intro j
        induction j with
        | zero => rw [show 1 + k + 1 + 0 = 1 + k + 1 from rfl, hstep]; simp [q, q2]
        | succ j ih => show (fPassN M (1 + k + 1 + j) && _) = false; rw [ih]; rfl
      have := hfalse (pl - (1 + k + 1))
      rw [show 1 + k + 1 + (pl - (1 + k + 1)) = pl from by omega] at this
      rw [this] at hq
      exact hq
  · rintro s ⟨rfl, hf⟩ R
    show wX2_canBePassed_L2 b R (nI (1 + (pl - 1))) st Q
    unfold wX2_canBePassed_L2
    rw [show 1 + (pl - 1) = pl from by omega] at hf ⊢
    rw [hf] at hq
    simp (disch := omega) only [e4, li0, li1, li2, li3, li4, li5, li6, li7, li8, li9, li10, li11, li12, li13, li14, li15, li16, li17, li18, li19, li20, li21, li22, li23, li24, li25, li26, li27, li28, li29, li30, li31, li32, li40, li48, li50, li57, li60, li97, li99, li100, li112, li119, li120, li122, li127, li128, li200, li201, li202, li203, li204, li205, li206, li207, li208, li209, li210, li211, li212, li213, li214, li215, li216, li217, li218, li219, li225, li255, li300, li301, li400, li512, li600, li999, li1000, li1600, li1000000, eb1, eb2, eb3, eb4, eb5, be1, be2, be3, be4, be5, nI_add, pk_mul, Nat.add_right_cancel_iff, pk_sub, nI_leI, nI_ltI, nI_eq, nI_clamp, vin_iff, ne_m1, m1_ne, lt_m1, le_m1, m1_lt, m1_le, bI0, bI1, Nat.reduceAdd, Nat.reduceSub, Nat.reduceMul, forall_eq, gI_uI, gI_uJ, gI_sI, Nat.add_left_cancel_iff, Nat.reduceEqDiff, and_true, true_and, and_false, false_and, not_true_eq_false, not_false_eq_true, true_implies, false_implies, implies_true, if_true, if_false, ite_true, ite_false, reduceIte, Bool.true_eq_false, Bool.false_eq_true, Nat.reduceLT, Nat.reduceLeDiff, decide_true, decide_false]
    exact ⟨fun _ => hq, fun q => absurd (Nat.le_refl _) q⟩
/-- how strong the weakest is so far, and 31 ahead of all -/
def lst (M : Nat → Nat) : Option Nat → Nat
  | none => 31
  | some j => M (16 + j)
theorem c_weakest {snd : Bool} (hB : BB nw pl wt mi) (hM : MB t M) (h : BR b nw pl st M) (hq : Q (oI (fWst M snd pl)) st) : wX2_findWeakest b (bI (!snd)) st Q := by
  unfold wX2_findWeakest
  have hp := hB.2.1
  have e4 := h.p4
  refine lp_inv (n := pl) (I := fun k s => s = (bI (!snd), oI (fWst M snd k), nI (lst M (fWst M snd k)), nI k, st)) ?_ ?_ rfl
  · rintro k s hk rfl R hR2
    have hf := hR2 _ rfl
    show wX2_findWeakest_L8 b (bI (!snd)) R (bI (!snd)) (oI (fWst M snd k)) (nI (lst M (fWst M snd k))) (nI k) st Q
    unfold wX2_findWeakest_L8 wX2_findWeakest_L51 wX2_findWeakest_L57
    have e := h.ss hk
    have e2 := h.rr hk
    have b1 := hM.st (k := k) (by omega)
    have b2 := hM.ro (k := k) (by omega)
    have bl : lst M (fWst M snd k) ≤ 31 := by
      cases hw : fWst M snd k with
      | none => exact Nat.le_refl _
      | some j =>
        have hj := fWst_lt k hw
        have := hM.st (k := j) (by omega)
        show M (16 + j) ≤ 31
        omega
    have hstep : fWst M snd (k + 1) = if M (16 + k) = 0 ∨ (snd = true ∧ M (28 + k) = 1) ∨ lst M (fWst M snd k) ≤ M (16 + k) then fWst M snd k else some k := by
      show (if M (16 + k) = 0 ∨ (snd = true ∧ M (28 + k) = 1) then fWst M snd k else _) = _
      by_cases q : M (16 + k) = 0 ∨ (snd = true ∧ M (28 + k) = 1)
      · rw [if_pos q, if_pos (by rcases q with q | q; exact Or.inl q; exact Or.inr (Or.inl q))]
      · rw [if_neg q]
        cases hw : fWst M snd k with
        | none => rw [if_neg]; rintro (q2 | q2 | q2); exact q (Or.inl q2); exact q (Or.inr q2); exact absurd q2 (by show ¬ 31 ≤ M (16 + k); omega)
        | some j =>
          show (if M (16 + k) < M (16 + j) then some k else some j) = if _ ∨ _ ∨ lst M (some j) ≤ M (16 + k) then some j else some k
          have el : lst M (some j) = M (16 + j) := rfl
          by_cases q2 : M (16 + k) < M (16 + j)
          · rw [if_pos q2, if_neg]; rintro (q3 | q3 | q3); exact q (Or.inl q3); exact q (Or.inr q3); omega
          · rw [if_neg q2, if_pos (Or.inr (Or.inr (by omega)))]
    rw [hstep] at hf
    simp (disch := omega) only [e4, e, e2, li0, li1, li2, li3, li4, li5, li6, li7, li8, li9, li10, li11, li12, li13, li14, li15, li16, li17, li18, li19, li20, li21, li22, li23, li24, li25, li26, li27, li28, li29, li30, li31, li32, li40, li48, li50, li57, li60, li97, li99, li100, li112, li119, li120, li122, li127, li128, li200, li201, li202, li203, li204, li205, li206, li207, li208, li209, li210, li211, li212, li213, li214, li215, li216, li217, li218, li219, li225, li255, li300, li301, li400, li512, li600, li999, li1000, li1600, li1000000, eb1, eb2, eb3, eb4, eb5, be1, be2, be3, be4, be5, nI_add, pk_mul, Nat.add_right_cancel_iff, pk_sub, nI_leI, nI_ltI, nI_eq, nI_clamp, vin_iff, ne_m1, m1_ne, lt_m1, le_m1, m1_lt, m1_le, bI0, bI1, Nat.reduceAdd, Nat.reduceSub, Nat.reduceMul, forall_eq, gI_uI, gI_uJ, gI_sI, Nat.add_left_cancel_iff, Nat.reduceEqDiff, and_true, true_and, and_false, false_and, not_true_eq_false, not_false_eq_true, true_implies, false_implies, implies_true, if_true, if_false, ite_true, ite_false, reduceIte, Bool.true_eq_false, Bool.false_eq_true, Nat.reduceLT, Nat.reduceLeDiff, decide_true, decide_false]
    refine ⟨fun q => absurd q (by omega), fun _ => ⟨by omega, fun q => ?_, fun q => ⟨fun q2 => ?_, fun q2 => ⟨fun q3 => ?_, fun q3 => ⟨by omega, fun q4 => ?_, fun q4 => ?_⟩⟩⟩⟩⟩
    · rw [if_pos (Or.inl (by omega))] at hf; exact hf
    · rw [if_pos (Or.inr (Or.inr q2))] at hf; exact hf
    · rw [if_neg (by rintro (a | a | a); omega; exact q3 (by rw [a.1]; rfl); omega)] at hf; exact hf
    · rw [if_pos (Or.inr (Or.inl ⟨by cases snd; cases q3; rfl, by omega⟩))] at hf; exact hf
    · rw [if_neg (by rintro (a | a | a) <;> omega)] at hf; exact hf
  · rintro s rfl R
    show wX2_findWeakest_L8 b (bI (!snd)) R (bI (!snd)) (oI (fWst M snd pl)) (nI (lst M (fWst M snd pl))) (nI pl) st Q
    unfold wX2_findWeakest_L8
    simp (disch := omega) only [e4, li0, li1, li2, li3, li4, li5, li6, li7, li8, li9, li10, li11, li12, li13, li14, li15, li16, li17, li18, li19, li20, li21, li22, li23, li24, li25, li26, li27, li28, li29, li30, li31, li32, li40, li48, li50, li57, li60, li97, li99, li100, li112, li119, li120, li122, li127, li128, li200, li201, li202, li203, li204, li205, li206, li207, li208, li209, li210, li211, li212, li213, li214, li215, li216, li217, li218, li219, li225, li255, li300, li301, li400, li512, li600, li999, li1000, li1600, li1000000, eb1, eb2, eb3, eb4, eb5, be1, be2, be3, be4, be5, nI_add, pk_mul, Nat.add_right_cancel_iff, pk_sub, nI_leI, nI_ltI, nI_eq, nI_clamp, vin_iff, ne_m1, m1_ne, lt_m1, le_m1, m1_lt, m1_le, bI0, bI1, Nat.reduceAdd, Nat.reduceSub, Nat.reduceMul, forall_eq, gI_uI, gI_uJ, gI_sI, Nat.add_left_cancel_iff, Nat.reduceEqDiff, and_true, true_and, and_false, false_and, not_true_eq_false, not_false_eq_true, true_implies, false_implies, implies_true, if_true, if_false, ite_true, ite_false, reduceIte, Bool.true_eq_false, Bool.false_eq_true, Nat.reduceLT, Nat.reduceLeDiff, decide_true, decide_false]
    exact ⟨fun _ => hq, fun q => absurd (Nat.le_refl _) q⟩
end CBR

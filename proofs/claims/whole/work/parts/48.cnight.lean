/-! the class's bridge: treading, nights, minutes -/
section CBN
variable {b nw pl t : Nat} {wt mi : Nat → Nat} {M M' : Nat → Nat} {st st' : St} {Q : Int32 → St → Prop} {Qv : St → Prop}
theorem BR.eq (h : BR b nw pl st M) (e : ∀ j, M j = M' j) : BR b nw pl st M' := by rw [← funext e]; exact h
theorem pm0 {b : Nat} : PM b b := Or.inl rfl
theorem pm3 {b : Nat} : PM b (b + 3) := Or.inr (Or.inl rfl)
theorem pm4 {b : Nat} : PM b (b + 4) := Or.inr (Or.inr (Or.inl rfl))
theorem pm5 {b : Nat} : PM b (b + 5) := Or.inr (Or.inr (Or.inr rfl))
theorem c_lay {k s : Nat} (hB : BB nw pl wt mi) (h : BR b nw pl st M) (hk : k < pl) (hq : Qv (uI (uI st (b + 3) k (nI s)) (b + 4) k (nI 0))) : wX2_lay b (nI k) (nI s) st Qv := by
  unfold wX2_lay
  have hp := hB.2.1
  have e4 := h.p4
  have a1 : ¬ k < 0 := by omega
  have a2 : ¬ pl ≤ k := by omega
  simp (disch := omega) only [e4, a1, a2, li0, li1, li2, li3, li4, li5, li6, li7, li8, li9, li10, li11, li12, li13, li14, li15, li16, li17, li18, li19, li20, li21, li22, li23, li24, li25, li26, li27, li28, li29, li30, li31, li32, li40, li48, li50, li57, li60, li97, li99, li100, li112, li119, li120, li122, li127, li128, li200, li201, li202, li203, li204, li205, li206, li207, li208, li209, li210, li211, li212, li213, li214, li215, li216, li217, li218, li219, li225, li255, li300, li301, li400, li512, li600, li999, li1000, li1600, li1000000, eb1, eb2, eb3, eb4, eb5, be1, be2, be3, be4, be5, nI_add, pk_mul, Nat.add_right_cancel_iff, pk_sub, nI_leI, nI_ltI, nI_eq, nI_clamp, vin_iff, ne_m1, m1_ne, lt_m1, le_m1, m1_lt, m1_le, bI0, bI1, Nat.reduceAdd, Nat.reduceSub, Nat.reduceMul, forall_eq, gI_uI, gI_uJ, gI_sI, Nat.add_left_cancel_iff, Nat.reduceEqDiff, and_true, true_and, and_false, false_and, not_true_eq_false, not_false_eq_true, true_implies, false_implies, implies_true, if_true, if_false, ite_true, ite_false, reduceIte, Bool.true_eq_false, Bool.false_eq_true, Nat.reduceLT, Nat.reduceLeDiff, decide_true, decide_false]
  exact ⟨by omega, by omega, hq⟩
theorem c_step31 {w i k : Nat} {was : Bool} {R : Int32 × Int32 × Int32 × St → Prop} {p : Int32} (hB : BB nw pl wt mi) (hM : MB t M) (h : BR b nw pl st M) (hi : i < pl) (hw : w ≤ 18)
    (hq : ∀ st', FI (PM b) st st' → BR b nw pl st' (fStep1 w i M) → ((decide (fStep1 w i M (16 + i) = 0) && was) = true → Q (nI 0) st') ∧ (¬ (decide (fStep1 w i M (16 + i) = 0) && was) = true → R (nI w, bI (decide (fStep1 w i M (16 + i) = 0)), nI (k + 1), st'))) : wX2_treadAll_L31 b p R (nI w) (bI was) (nI k) (nI i) st Q := by
  unfold wX2_treadAll_L31
  have hp := hB.2.1
  refine c_load hB hM h hi ?_
  have e3 := h.ss hi
  have b1 := hM.st (k := i) (by omega)
  have b2 := hM.ro (k := i) (by omega)
  have b3 := fBear_le (k := i) hM (by omega)
  have tail : ∀ st', FI (PM b) st st' → BR b nw pl st' (fStep1 w i M) → wX2_treadAll_L97 b p R (nI w) (bI was) (nI k) (nI i) st' Q := by
    intro st' hF hR'
    unfold wX2_treadAll_L97 wX2_treadAll_L112 wX2_treadAll_L125
    have f3 := hR'.ss hi
    have c1 := (hM.step1 (w := w) (k := i) (by omega)).st (k := i) (by omega)
    have hh := hq st' hF hR'
    simp (disch := omega) only [f3, li0, li1, li2, li3, li4, li5, li6, li7, li8, li9, li10, li11, li12, li13, li14, li15, li16, li17, li18, li19, li20, li21, li22, li23, li24, li25, li26, li27, li28, li29, li30, li31, li32, li40, li48, li50, li57, li60, li97, li99, li100, li112, li119, li120, li122, li127, li128, li200, li201, li202, li203, li204, li205, li206, li207, li208, li209, li210, li211, li212, li213, li214, li215, li216, li217, li218, li219, li225, li255, li300, li301, li400, li512, li600, li999, li1000, li1600, li1000000, eb1, eb2, eb3, eb4, eb5, be1, be2, be3, be4, be5, nI_add, pk_mul, Nat.add_right_cancel_iff, pk_sub, nI_leI, nI_ltI, nI_eq, nI_clamp, vin_iff, ne_m1, m1_ne, lt_m1, le_m1, m1_lt, m1_le, bI0, bI1, Nat.reduceAdd, Nat.reduceSub, Nat.reduceMul, forall_eq, gI_uI, gI_uJ, gI_sI, Nat.add_left_cancel_iff, Nat.reduceEqDiff, and_true, true_and, and_false, false_and, not_true_eq_false, not_false_eq_true, true_implies, false_implies, implies_true, if_true, if_false, ite_true, ite_false, reduceIte, Bool.true_eq_false, Bool.false_eq_true, Nat.reduceLT, Nat.reduceLeDiff, decide_true, decide_false]
    refine ⟨by omega, fun q => ?_, fun q => ?_⟩
    · have := hh.2 (by simp [q])
      rw [decide_eq_false q] at this
      exact this
    · refine ⟨fun q2 => ?_, fun q2 => ?_⟩
      · have := hh.2 (by simp [q2])
        rw [decide_eq_true q] at this
        exact this
      · exact hh.1 (by simp [q, q2])
  have t67 : (fStep1 w i M = if 0 < M (16 + i) ∧ fBear M i < 2 * w then sru M i (if 1 < M (16 + i) - 1 then M (16 + i) - 1 else 1) (M (28 + i)) else M) → wX2_treadAll_L67 b p R (nI w) (bI was) (nI k) (nI i) (nI (fBear M i)) st Q := by
    intro hs
    rw [hs] at tail
    unfold wX2_treadAll_L67
    simp (disch := omega) only [e3, li0, li1, li2, li3, li4, li5, li6, li7, li8, li9, li10, li11, li12, li13, li14, li15, li16, li17, li18, li19, li20, li21, li22, li23, li24, li25, li26, li27, li28, li29, li30, li31, li32, li40, li48, li50, li57, li60, li97, li99, li100, li112, li119, li120, li122, li127, li128, li200, li201, li202, li203, li204, li205, li206, li207, li208, li209, li210, li211, li212, li213, li214, li215, li216, li217, li218, li219, li225, li255, li300, li301, li400, li512, li600, li999, li1000, li1600, li1000000, eb1, eb2, eb3, eb4, eb5, be1, be2, be3, be4, be5, nI_add, pk_mul, Nat.add_right_cancel_iff, pk_sub, nI_leI, nI_ltI, nI_eq, nI_clamp, vin_iff, ne_m1, m1_ne, lt_m1, le_m1, m1_lt, m1_le, bI0, bI1, Nat.reduceAdd, Nat.reduceSub, Nat.reduceMul, forall_eq, gI_uI, gI_uJ, gI_sI, Nat.add_left_cancel_iff, Nat.reduceEqDiff, and_true, true_and, and_false, false_and, not_true_eq_false, not_false_eq_true, true_implies, false_implies, implies_true, if_true, if_false, ite_true, ite_false, reduceIte, Bool.true_eq_false, Bool.false_eq_true, Nat.reduceLT, Nat.reduceLeDiff, decide_true, decide_false]
    refine ⟨by omega, fun q => ?_, fun q => ⟨fun q2 => ?_, fun q2 => ?_⟩⟩
    · refine tail st FI.rf (h.eq (fun j => ?_))
      split
      · next q3 =>
        have e1 : M (16 + i) = 1 := by omega
        unfold sru
        by_cases x1 : j = 28 + i
        · rw [if_pos x1, x1]
        · rw [if_neg x1]
          by_cases x2 : j = 16 + i
          · rw [if_pos x2, if_neg (by omega), x2, e1]
          · rw [if_neg x2]
      · rfl
    · rw [if_neg (by omega)] at tail
      exact tail st FI.rf h
    · rw [if_pos (by omega), show (if 1 < M (16 + i) - 1 then M (16 + i) - 1 else 1) = M (16 + i) - 1 from by split <;> omega] at tail
      have hm : nI (M (16 + i)) - nI 1 = nI (M (16 + i) - 1) := pk_sub (by omega)
      rw [hm]
      exact ⟨by omega, by omega, tail _ (FI.u pm3) (h.s1 hB hi)⟩
  have hun : fStep1 w i M = if 0 < M (16 + i) ∧ fBear M i < w then sru M i 0 0 else if 0 < M (16 + i) ∧ fBear M i < 2 * w then sru M i (if 1 < M (16 + i) - 1 then M (16 + i) - 1 else 1) (M (28 + i)) else M := rfl
  simp (disch := omega) only [e3, li0, li1, li2, li3, li4, li5, li6, li7, li8, li9, li10, li11, li12, li13, li14, li15, li16, li17, li18, li19, li20, li21, li22, li23, li24, li25, li26, li27, li28, li29, li30, li31, li32, li40, li48, li50, li57, li60, li97, li99, li100, li112, li119, li120, li122, li127, li128, li200, li201, li202, li203, li204, li205, li206, li207, li208, li209, li210, li211, li212, li213, li214, li215, li216, li217, li218, li219, li225, li255, li300, li301, li400, li512, li600, li999, li1000, li1600, li1000000, eb1, eb2, eb3, eb4, eb5, be1, be2, be3, be4, be5, nI_add, pk_mul, Nat.add_right_cancel_iff, pk_sub, nI_leI, nI_ltI, nI_eq, nI_clamp, vin_iff, ne_m1, m1_ne, lt_m1, le_m1, m1_lt, m1_le, bI0, bI1, Nat.reduceAdd, Nat.reduceSub, Nat.reduceMul, forall_eq, gI_uI, gI_uJ, gI_sI, Nat.add_left_cancel_iff, Nat.reduceEqDiff, and_true, true_and, and_false, false_and, not_true_eq_false, not_false_eq_true, true_implies, false_implies, implies_true, if_true, if_false, ite_true, ite_false, reduceIte, Bool.true_eq_false, Bool.false_eq_true, Nat.reduceLT, Nat.reduceLeDiff, decide_true, decide_false]
  refine ⟨by omega, fun q => ?_, fun q => ⟨fun q2 => ?_, fun q2 => ?_⟩⟩
  · exact t67 (hun.trans (if_neg (by omega)))
  · exact t67 (hun.trans (if_neg (by omega)))
  · refine c_lay hB h hi ?_
    rw [hun, if_pos (by omega)] at tail
    exact tail _ ((FI.u (P := PM b) pm3).tr (FI.u pm4)) (h.sr hB hi (by omega))
theorem c_tread {w : Nat} (hB : BB nw pl wt mi) (hM : MB t M) (h : BR b nw pl st M) (hw : w ≤ 18) (hq : ∀ st', FI (PM b) st st' → BR b nw pl st' (fSteps w pl pl false M).2 → Q (bI (fSteps w pl pl false M).1) st') : wX2_treadAll b (nI w) st Q := by
  unfold wX2_treadAll
  have hp := hB.2.1
  obtain ⟨z, hz⟩ : ∃ z, z = fSteps w pl pl false M := ⟨_, rfl⟩
  rw [← hz] at hq
  refine lp_inv (n := pl) (I := fun k s => ∃ u was M', s = (nI w, bI was, nI k, u) ∧ FI (PM b) st u ∧ BR b nw pl u M' ∧ MB t M' ∧ fSteps w pl (pl - k) was M' = z) ?_ ?_ ⟨st, false, M, rfl, FI.rf, h, hM, hz.symm⟩
  · rintro k s hk ⟨u, was, M', rfl, hF, hRu, hMu, he⟩ R hR2
    show wX2_treadAll_L4 b (nI w) R (nI w) (bI was) (nI k) u Q
    unfold wX2_treadAll_L4
    have e4 := hRu.p4
    have e7 := hRu.la
    have b0 := hMu.la
    have hk2 := fPl_lt (M := M') (pl := pl) (i := k) hk
    rw [show pl - k = (pl - k - 1) + 1 from by omega] at he
    unfold fSteps at he
    rw [show pl - (pl - k - 1 + 1) = k from by omega] at he
    have main : wX2_treadAll_L31 b (nI w) R (nI w) (bI was) (nI k) (nI (fPl M' pl k)) u Q := by
      refine c_step31 hB hMu hRu hk2 hw (fun st' hF' hR' => ⟨fun q => ?_, fun q => ?_⟩)
      · rw [if_pos q] at he
        have := hq st' (hF.tr hF')
        rw [← he] at this
        exact this hR'
      · rw [if_neg q] at he
        exact hR2 _ ⟨st', _, _, rfl, hF.tr hF', hR', hMu.step1 (by omega), by rw [show pl - (k + 1) = pl - k - 1 from by omega]; exact he⟩
    unfold fPl at main
    simp (disch := omega) only [e4, e7, li0, li1, li2, li3, li4, li5, li6, li7, li8, li9, li10, li11, li12, li13, li14, li15, li16, li17, li18, li19, li20, li21, li22, li23, li24, li25, li26, li27, li28, li29, li30, li31, li32, li40, li48, li50, li57, li60, li97, li99, li100, li112, li119, li120, li122, li127, li128, li200, li201, li202, li203, li204, li205, li206, li207, li208, li209, li210, li211, li212, li213, li214, li215, li216, li217, li218, li219, li225, li255, li300, li301, li400, li512, li600, li999, li1000, li1600, li1000000, eb1, eb2, eb3, eb4, eb5, be1, be2, be3, be4, be5, nI_add, pk_mul, Nat.add_right_cancel_iff, pk_sub, nI_leI, nI_ltI, nI_eq, nI_clamp, vin_iff, ne_m1, m1_ne, lt_m1, le_m1, m1_lt, m1_le, bI0, bI1, Nat.reduceAdd, Nat.reduceSub, Nat.reduceMul, forall_eq, gI_uI, gI_uJ, gI_sI, Nat.add_left_cancel_iff, Nat.reduceEqDiff, and_true, true_and, and_false, false_and, not_true_eq_false, not_false_eq_true, true_implies, false_implies, implies_true, if_true, if_false, ite_true, ite_false, reduceIte, Bool.true_eq_false, Bool.false_eq_true, Nat.reduceLT, Nat.reduceLeDiff, decide_true, decide_false]
    refine ⟨fun q => absurd q (by omega), fun _ => ⟨fun q => ?_, fun q => ?_⟩⟩
    · rw [if_neg (by omega)] at main; exact main
    · rw [if_pos (by omega)] at main; exact main
  · rintro s ⟨u, was, M', rfl, hF, hRu, hMu, he⟩ R
    show wX2_treadAll_L4 b (nI w) R (nI w) (bI was) (nI pl) u Q
    unfold wX2_treadAll_L4
    have e4 := hRu.p4
    rw [Nat.sub_self] at he
    unfold fSteps at he
    have := hq u hF
    rw [← he] at this
    simp (disch := omega) only [e4, li0, li1, li2, li3, li4, li5, li6, li7, li8, li9, li10, li11, li12, li13, li14, li15, li16, li17, li18, li19, li20, li21, li22, li23, li24, li25, li26, li27, li28, li29, li30, li31, li32, li40, li48, li50, li57, li60, li97, li99, li100, li112, li119, li120, li122, li127, li128, li200, li201, li202, li203, li204, li205, li206, li207, li208, li209, li210, li211, li212, li213, li214, li215, li216, li217, li218, li219, li225, li255, li300, li301, li400, li512, li600, li999, li1000, li1600, li1000000, eb1, eb2, eb3, eb4, eb5, be1, be2, be3, be4, be5, nI_add, pk_mul, Nat.add_right_cancel_iff, pk_sub, nI_leI, nI_ltI, nI_eq, nI_clamp, vin_iff, ne_m1, m1_ne, lt_m1, le_m1, m1_lt, m1_le, bI0, bI1, Nat.reduceAdd, Nat.reduceSub, Nat.reduceMul, forall_eq, gI_uI, gI_uJ, gI_sI, Nat.add_left_cancel_iff, Nat.reduceEqDiff, and_true, true_and, and_false, false_and, not_true_eq_false, not_false_eq_true, true_implies, false_implies, implies_true, if_true, if_false, ite_true, ite_false, reduceIte, Bool.true_eq_false, Bool.false_eq_true, Nat.reduceLT, Nat.reduceLeDiff, decide_true, decide_false]
    exact ⟨fun _ => this hRu, fun q => absurd (Nat.le_refl _) q⟩
theorem c_night (hB : BB nw pl wt mi) (hM : MB t M) (h : BR b nw pl st M) (hq : ∀ st', FI (PM b) st st' → BR b nw pl st' (fNight pl M) → Qv st') : wX2_beginNight b st Qv := by
  have hp := hB.2.1
  unfold wX2_beginNight
  have e9 := h.ni
  simp (disch := omega) only [e9, li0, li1, li2, li3, li4, li5, li6, li7, li8, li9, li10, li11, li12, li13, li14, li15, li16, li17, li18, li19, li20, li21, li22, li23, li24, li25, li26, li27, li28, li29, li30, li31, li32, li40, li48, li50, li57, li60, li97, li99, li100, li112, li119, li120, li122, li127, li128, li200, li201, li202, li203, li204, li205, li206, li207, li208, li209, li210, li211, li212, li213, li214, li215, li216, li217, li218, li219, li225, li255, li300, li301, li400, li512, li600, li999, li1000, li1600, li1000000, eb1, eb2, eb3, eb4, eb5, be1, be2, be3, be4, be5, nI_add, pk_mul, Nat.add_right_cancel_iff, pk_sub, nI_leI, nI_ltI, nI_eq, nI_clamp, vin_iff, ne_m1, m1_ne, lt_m1, le_m1, m1_lt, m1_le, bI0, bI1, Nat.reduceAdd, Nat.reduceSub, Nat.reduceMul, forall_eq, gI_uI, gI_uJ, gI_sI, Nat.add_left_cancel_iff, Nat.reduceEqDiff, and_true, true_and, and_false, false_and, not_true_eq_false, not_false_eq_true, true_implies, false_implies, implies_true, if_true, if_false, ite_true, ite_false, reduceIte, Bool.true_eq_false, Bool.false_eq_true, Nat.reduceLT, Nat.reduceLeDiff, decide_true, decide_false]
  have hF1 : FI (PM b) st (uI (uI st b 9 (nI (M 2 + 1))) b 8 (nI 60)) := (FI.u (P := PM b) pm0).tr (FI.u (P := PM b) pm0)
  have hR1 : BR b nw pl (uI (uI st b 9 (nI (M 2 + 1))) b 8 (nI 60)) (up (up M 2 (M 2 + 1)) 1 60) := (h.sc (i := 2) hB.1 (by omega) (by omega)).sc (i := 1) hB.1 (by omega) (by omega)
  have hM1 : MB t (up (up M 2 (M 2 + 1)) 1 60) := (hM.up (bd_free (by omega)) (by omega)).up (bd_oil (by omega)) (by omega)
  have h' : ∀ st', FI (PM b) st st' → BR b nw pl st' (fMark (fRot (up (up M 2 (M 2 + 1)) 1 60) pl) pl) → Qv st' := hq
  generalize up (up M 2 (M 2 + 1)) 1 60 = M1 at h' hR1 hM1
  refine lp_inv (n := pl) (I := fun k s => ∃ u, s = (nI k, u) ∧ FI (PM b) st u ∧ BR b nw pl u (fRot M1 k)) ?_ ?_ ⟨_, rfl, hF1, hR1⟩
  · rintro k s hk ⟨u, rfl, hF, hRu⟩ R hR2
    show wX2_beginNight_L18 b R (nI k) u Qv
    unfold wX2_beginNight_L18 wX2_beginNight_L64 wX2_beginNight_L65
    have e4 := hRu.p4
    have hMk : MB t (fRot M1 k) := hM1.rot (by omega)
    have e16 := hRu.ss hk
    have e28 := hRu.rr hk
    have b1 := hMk.st (k := k) (by omega)
    have b2 := hMk.ro (k := k) (by omega)
    have b3 := hMk.2 k (by omega)
    have hgo : ∀ u', FI (PM b) st u' → BR b nw pl u' (fRot1 k (fRot M1 k)) → R (nI (k + 1), u') := fun u' a c => hR2 _ ⟨u', rfl, a, c⟩
    unfold fRot1 at hgo
    by_cases hz : fRot M1 k (28 + k) = 0
    · rw [if_pos hz] at hgo
      simp (disch := omega) only [e4, e16, e28, hz, li0, li1, li2, li3, li4, li5, li6, li7, li8, li9, li10, li11, li12, li13, li14, li15, li16, li17, li18, li19, li20, li21, li22, li23, li24, li25, li26, li27, li28, li29, li30, li31, li32, li40, li48, li50, li57, li60, li97, li99, li100, li112, li119, li120, li122, li127, li128, li200, li201, li202, li203, li204, li205, li206, li207, li208, li209, li210, li211, li212, li213, li214, li215, li216, li217, li218, li219, li225, li255, li300, li301, li400, li512, li600, li999, li1000, li1600, li1000000, eb1, eb2, eb3, eb4, eb5, be1, be2, be3, be4, be5, nI_add, pk_mul, Nat.add_right_cancel_iff, pk_sub, nI_leI, nI_ltI, nI_eq, nI_clamp, vin_iff, ne_m1, m1_ne, lt_m1, le_m1, m1_lt, m1_le, bI0, bI1, Nat.reduceAdd, Nat.reduceSub, Nat.reduceMul, forall_eq, gI_uI, gI_uJ, gI_sI, Nat.add_left_cancel_iff, Nat.reduceEqDiff, and_true, true_and, and_false, false_and, not_true_eq_false, not_false_eq_true, true_implies, false_implies, implies_true, if_true, if_false, ite_true, ite_false, reduceIte, Bool.true_eq_false, Bool.false_eq_true, Nat.reduceLT, Nat.reduceLeDiff, decide_true, decide_false]
      exact ⟨fun q => absurd q (by omega), fun _ => ⟨by omega, hgo u hF hRu⟩⟩
    · rw [if_neg hz] at hgo
      have b4 := b3 (by omega)
      simp (disch := omega) only [e4, e16, e28, hz, li0, li1, li2, li3, li4, li5, li6, li7, li8, li9, li10, li11, li12, li13, li14, li15, li16, li17, li18, li19, li20, li21, li22, li23, li24, li25, li26, li27, li28, li29, li30, li31, li32, li40, li48, li50, li57, li60, li97, li99, li100, li112, li119, li120, li122, li127, li128, li200, li201, li202, li203, li204, li205, li206, li207, li208, li209, li210, li211, li212, li213, li214, li215, li216, li217, li218, li219, li225, li255, li300, li301, li400, li512, li600, li999, li1000, li1600, li1000000, eb1, eb2, eb3, eb4, eb5, be1, be2, be3, be4, be5, nI_add, pk_mul, Nat.add_right_cancel_iff, pk_sub, nI_leI, nI_ltI, nI_eq, nI_clamp, vin_iff, ne_m1, m1_ne, lt_m1, le_m1, m1_lt, m1_le, bI0, bI1, Nat.reduceAdd, Nat.reduceSub, Nat.reduceMul, forall_eq, gI_uI, gI_uJ, gI_sI, Nat.add_left_cancel_iff, Nat.reduceEqDiff, and_true, true_and, and_false, false_and, not_true_eq_false, not_false_eq_true, true_implies, false_implies, implies_true, if_true, if_false, ite_true, ite_false, reduceIte, Bool.true_eq_false, Bool.false_eq_true, Nat.reduceLT, Nat.reduceLeDiff, decide_true, decide_false]
      refine ⟨fun q => absurd q (by omega), fun _ => ⟨by omega, by omega, by omega, by omega, fun q => ?_, fun q => ?_⟩⟩
      · rw [if_pos (by omega)] at hgo
        exact ⟨by omega, Or.inl rfl, hgo _ ((hF.tr (FI.u pm3)).tr (FI.u pm4)) (hRu.sr hB hk (by omega))⟩
      · rw [if_neg (by omega)] at hgo
        exact ⟨by omega, Or.inr rfl, hgo _ ((hF.tr (FI.u pm3)).tr (FI.u pm4)) (hRu.sr hB hk (by omega))⟩
  · rintro s ⟨u, rfl, hF, hRu⟩ R
    show wX2_beginNight_L18 b R (nI pl) u Qv
    unfold wX2_beginNight_L18
    have e4 := hRu.p4
    have hMk : MB t (fRot M1 pl) := hM1.rot hp
    simp (disch := omega) only [e4, li0, li1, li2, li3, li4, li5, li6, li7, li8, li9, li10, li11, li12, li13, li14, li15, li16, li17, li18, li19, li20, li21, li22, li23, li24, li25, li26, li27, li28, li29, li30, li31, li32, li40, li48, li50, li57, li60, li97, li99, li100, li112, li119, li120, li122, li127, li128, li200, li201, li202, li203, li204, li205, li206, li207, li208, li209, li210, li211, li212, li213, li214, li215, li216, li217, li218, li219, li225, li255, li300, li301, li400, li512, li600, li999, li1000, li1600, li1000000, eb1, eb2, eb3, eb4, eb5, be1, be2, be3, be4, be5, nI_add, pk_mul, Nat.add_right_cancel_iff, pk_sub, nI_leI, nI_ltI, nI_eq, nI_clamp, vin_iff, ne_m1, m1_ne, lt_m1, le_m1, m1_lt, m1_le, bI0, bI1, Nat.reduceAdd, Nat.reduceSub, Nat.reduceMul, forall_eq, gI_uI, gI_uJ, gI_sI, Nat.add_left_cancel_iff, Nat.reduceEqDiff, and_true, true_and, and_false, false_and, not_true_eq_false, not_false_eq_true, true_implies, false_implies, implies_true, if_true, if_false, ite_true, ite_false, reduceIte, Bool.true_eq_false, Bool.false_eq_true, Nat.reduceLT, Nat.reduceLeDiff, decide_true, decide_false]
    refine ⟨fun _ => c_weak hRu ?_, fun q => absurd (Nat.le_refl _) q⟩
    unfold fMark at h'
    cases hw : fWeak (fRot M1 pl)
    · simp (disch := omega) only [li0, li1, li2, li3, li4, li5, li6, li7, li8, li9, li10, li11, li12, li13, li14, li15, li16, li17, li18, li19, li20, li21, li22, li23, li24, li25, li26, li27, li28, li29, li30, li31, li32, li40, li48, li50, li57, li60, li97, li99, li100, li112, li119, li120, li122, li127, li128, li200, li201, li202, li203, li204, li205, li206, li207, li208, li209, li210, li211, li212, li213, li214, li215, li216, li217, li218, li219, li225, li255, li300, li301, li400, li512, li600, li999, li1000, li1600, li1000000, eb1, eb2, eb3, eb4, eb5, be1, be2, be3, be4, be5, nI_add, pk_mul, Nat.add_right_cancel_iff, pk_sub, nI_leI, nI_ltI, nI_eq, nI_clamp, vin_iff, ne_m1, m1_ne, lt_m1, le_m1, m1_lt, m1_le, bI0, bI1, Nat.reduceAdd, Nat.reduceSub, Nat.reduceMul, forall_eq, gI_uI, gI_uJ, gI_sI, Nat.add_left_cancel_iff, Nat.reduceEqDiff, and_true, true_and, and_false, false_and, not_true_eq_false, not_false_eq_true, true_implies, false_implies, implies_true, if_true, if_false, ite_true, ite_false, reduceIte, Bool.true_eq_false, Bool.false_eq_true, Nat.reduceLT, Nat.reduceLeDiff, decide_true, decide_false]
      simp only [hw] at h'
      exact h' u hF hRu
    · simp (disch := omega) only [li0, li1, li2, li3, li4, li5, li6, li7, li8, li9, li10, li11, li12, li13, li14, li15, li16, li17, li18, li19, li20, li21, li22, li23, li24, li25, li26, li27, li28, li29, li30, li31, li32, li40, li48, li50, li57, li60, li97, li99, li100, li112, li119, li120, li122, li127, li128, li200, li201, li202, li203, li204, li205, li206, li207, li208, li209, li210, li211, li212, li213, li214, li215, li216, li217, li218, li219, li225, li255, li300, li301, li400, li512, li600, li999, li1000, li1600, li1000000, eb1, eb2, eb3, eb4, eb5, be1, be2, be3, be4, be5, nI_add, pk_mul, Nat.add_right_cancel_iff, pk_sub, nI_leI, nI_ltI, nI_eq, nI_clamp, vin_iff, ne_m1, m1_ne, lt_m1, le_m1, m1_lt, m1_le, bI0, bI1, Nat.reduceAdd, Nat.reduceSub, Nat.reduceMul, forall_eq, gI_uI, gI_uJ, gI_sI, Nat.add_left_cancel_iff, Nat.reduceEqDiff, and_true, true_and, and_false, false_and, not_true_eq_false, not_false_eq_true, true_implies, false_implies, implies_true, if_true, if_false, ite_true, ite_false, reduceIte, Bool.true_eq_false, Bool.false_eq_true, Nat.reduceLT, Nat.reduceLeDiff, decide_true, decide_false]
      rw [if_pos hw] at h'
      refine c_weakest (snd := true) hB hMk hRu ?_
      cases hf : fWst (fRot M1 pl) true pl with
      | none =>
        simp only [hf] at h'
        simp (disch := omega) only [oI_none, li0, li1, li2, li3, li4, li5, li6, li7, li8, li9, li10, li11, li12, li13, li14, li15, li16, li17, li18, li19, li20, li21, li22, li23, li24, li25, li26, li27, li28, li29, li30, li31, li32, li40, li48, li50, li57, li60, li97, li99, li100, li112, li119, li120, li122, li127, li128, li200, li201, li202, li203, li204, li205, li206, li207, li208, li209, li210, li211, li212, li213, li214, li215, li216, li217, li218, li219, li225, li255, li300, li301, li400, li512, li600, li999, li1000, li1600, li1000000, eb1, eb2, eb3, eb4, eb5, be1, be2, be3, be4, be5, nI_add, pk_mul, Nat.add_right_cancel_iff, pk_sub, nI_leI, nI_ltI, nI_eq, nI_clamp, vin_iff, ne_m1, m1_ne, lt_m1, le_m1, m1_lt, m1_le, bI0, bI1, Nat.reduceAdd, Nat.reduceSub, Nat.reduceMul, forall_eq, gI_uI, gI_uJ, gI_sI, Nat.add_left_cancel_iff, Nat.reduceEqDiff, and_true, true_and, and_false, false_and, not_true_eq_false, not_false_eq_true, true_implies, false_implies, implies_true, if_true, if_false, ite_true, ite_false, reduceIte, Bool.true_eq_false, Bool.false_eq_true, Nat.reduceLT, Nat.reduceLeDiff, decide_true, decide_false]
        exact h' u hF hRu
      | some w =>
        have hlt := fWst_lt pl hf
        simp only [hf] at h'
        simp (disch := omega) only [oI_some, li0, li1, li2, li3, li4, li5, li6, li7, li8, li9, li10, li11, li12, li13, li14, li15, li16, li17, li18, li19, li20, li21, li22, li23, li24, li25, li26, li27, li28, li29, li30, li31, li32, li40, li48, li50, li57, li60, li97, li99, li100, li112, li119, li120, li122, li127, li128, li200, li201, li202, li203, li204, li205, li206, li207, li208, li209, li210, li211, li212, li213, li214, li215, li216, li217, li218, li219, li225, li255, li300, li301, li400, li512, li600, li999, li1000, li1600, li1000000, eb1, eb2, eb3, eb4, eb5, be1, be2, be3, be4, be5, nI_add, pk_mul, Nat.add_right_cancel_iff, pk_sub, nI_leI, nI_ltI, nI_eq, nI_clamp, vin_iff, ne_m1, m1_ne, lt_m1, le_m1, m1_lt, m1_le, bI0, bI1, Nat.reduceAdd, Nat.reduceSub, Nat.reduceMul, forall_eq, gI_uI, gI_uJ, gI_sI, Nat.add_left_cancel_iff, Nat.reduceEqDiff, and_true, true_and, and_false, false_and, not_true_eq_false, not_false_eq_true, true_implies, false_implies, implies_true, if_true, if_false, ite_true, ite_false, reduceIte, Bool.true_eq_false, Bool.false_eq_true, Nat.reduceLT, Nat.reduceLeDiff, decide_true, decide_false]
        exact ⟨by omega, h' _ (hF.tr (FI.u pm4)) (hRu.r1 hB hlt (by omega))⟩
theorem c_letGo {min : Nat} (hB : BB nw pl wt mi) (hM : MB 120 M) (hm : min ≤ 720) (h : BR b nw pl st M) (hq : ∀ st', FI (PM b) st st' → BR b nw pl st' (fGo pl min M).2 → Q (nI (fGo pl min M).1) st') : wX2_letGoBy b (nI min) st Q := by
  have hp := hB.2.1
  have h3 := hM.mi
  unfold wX2_letGoBy
  have e3 := h.m10
  simp (disch := omega) only [e3, li0, li1, li2, li3, li4, li5, li6, li7, li8, li9, li10, li11, li12, li13, li14, li15, li16, li17, li18, li19, li20, li21, li22, li23, li24, li25, li26, li27, li28, li29, li30, li31, li32, li40, li48, li50, li57, li60, li97, li99, li100, li112, li119, li120, li122, li127, li128, li200, li201, li202, li203, li204, li205, li206, li207, li208, li209, li210, li211, li212, li213, li214, li215, li216, li217, li218, li219, li225, li255, li300, li301, li400, li512, li600, li999, li1000, li1600, li1000000, eb1, eb2, eb3, eb4, eb5, be1, be2, be3, be4, be5, nI_add, pk_mul, Nat.add_right_cancel_iff, pk_sub, nI_leI, nI_ltI, nI_eq, nI_clamp, vin_iff, ne_m1, m1_ne, lt_m1, le_m1, m1_lt, m1_le, bI0, bI1, Nat.reduceAdd, Nat.reduceSub, Nat.reduceMul, forall_eq, gI_uI, gI_uJ, gI_sI, Nat.add_left_cancel_iff, Nat.reduceEqDiff, and_true, true_and, and_false, false_and, not_true_eq_false, not_false_eq_true, true_implies, false_implies, implies_true, if_true, if_false, ite_true, ite_false, reduceIte, Bool.true_eq_false, Bool.false_eq_true, Nat.reduceLT, Nat.reduceLeDiff, decide_true, decide_false]
  have hF1 : FI (PM b) st (uI st b 10 (nI (M 3 + min))) := FI.u pm0
  have hR1 : BR b nw pl (uI st b 10 (nI (M 3 + min))) (up M 3 (M 3 + min)) := h.sc (i := 3) hB.1 (by omega) (by omega)
  have hM1 : MB 1000 (up M 3 (M 3 + min)) := (hM.mo (by omega)).up (bd_min (by omega)) (by omega)
  have hl1 : up M 3 (M 3 + min) 3 < 120 * 7 := by rw [up_a, if_pos rfl]; omega
  have key : ∀ (f : Nat) (M' : Nat → Nat) (u : St) (k : Nat), k + f ≤ 600 → MB 1000 M' → M' 3 < 120 * f → FI (PM b) st u → BR b nw pl u M' → (∀ st', FI (PM b) st st' → BR b nw pl st' (fBy pl f M').2 → Q (nI (k + (fBy pl f M').1)) st') → lp (fun R s => wX2_letGoBy_L12 b (nI min) R s.1 s.2 Q) f (nI k, u) := by
    intro f
    induction f with
    | zero => intro M' u k _ _ h; exact absurd h (by omega)
    | succ f ih =>
      intro M' u k hk hM' hl hF hRu hq
      show wX2_letGoBy_L12 b (nI min) (lp (fun R s => wX2_letGoBy_L12 b (nI min) R s.1 s.2 Q) f) (nI k) u Q
      generalize lp (fun R s => wX2_letGoBy_L12 b (nI min) R s.1 s.2 Q) f = RR at ih ⊢
      unfold wX2_letGoBy_L12
      have e3 := hRu.m10
      have b3 := hM'.mi
      unfold fBy at hq
      by_cases hc : M' 3 < 120
      · rw [if_pos hc] at hq
        simp (disch := omega) only [e3, hc, li0, li1, li2, li3, li4, li5, li6, li7, li8, li9, li10, li11, li12, li13, li14, li15, li16, li17, li18, li19, li20, li21, li22, li23, li24, li25, li26, li27, li28, li29, li30, li31, li32, li40, li48, li50, li57, li60, li97, li99, li100, li112, li119, li120, li122, li127, li128, li200, li201, li202, li203, li204, li205, li206, li207, li208, li209, li210, li211, li212, li213, li214, li215, li216, li217, li218, li219, li225, li255, li300, li301, li400, li512, li600, li999, li1000, li1600, li1000000, eb1, eb2, eb3, eb4, eb5, be1, be2, be3, be4, be5, nI_add, pk_mul, Nat.add_right_cancel_iff, pk_sub, nI_leI, nI_ltI, nI_eq, nI_clamp, vin_iff, ne_m1, m1_ne, lt_m1, le_m1, m1_lt, m1_le, bI0, bI1, Nat.reduceAdd, Nat.reduceSub, Nat.reduceMul, forall_eq, gI_uI, gI_uJ, gI_sI, Nat.add_left_cancel_iff, Nat.reduceEqDiff, and_true, true_and, and_false, false_and, not_true_eq_false, not_false_eq_true, true_implies, false_implies, implies_true, if_true, if_false, ite_true, ite_false, reduceIte, Bool.true_eq_false, Bool.false_eq_true, Nat.reduceLT, Nat.reduceLeDiff, decide_true, decide_false]
        exact hq u hF hRu
      · rw [if_neg hc] at hq
        have a6 : ¬ 600 < k := by omega
        simp (disch := omega) only [e3, hc, a6, li0, li1, li2, li3, li4, li5, li6, li7, li8, li9, li10, li11, li12, li13, li14, li15, li16, li17, li18, li19, li20, li21, li22, li23, li24, li25, li26, li27, li28, li29, li30, li31, li32, li40, li48, li50, li57, li60, li97, li99, li100, li112, li119, li120, li122, li127, li128, li200, li201, li202, li203, li204, li205, li206, li207, li208, li209, li210, li211, li212, li213, li214, li215, li216, li217, li218, li219, li225, li255, li300, li301, li400, li512, li600, li999, li1000, li1600, li1000000, eb1, eb2, eb3, eb4, eb5, be1, be2, be3, be4, be5, nI_add, pk_mul, Nat.add_right_cancel_iff, pk_sub, nI_leI, nI_ltI, nI_eq, nI_clamp, vin_iff, ne_m1, m1_ne, lt_m1, le_m1, m1_lt, m1_le, bI0, bI1, Nat.reduceAdd, Nat.reduceSub, Nat.reduceMul, forall_eq, gI_uI, gI_uJ, gI_sI, Nat.add_left_cancel_iff, Nat.reduceEqDiff, and_true, true_and, and_false, false_and, not_true_eq_false, not_false_eq_true, true_implies, false_implies, implies_true, if_true, if_false, ite_true, ite_false, reduceIte, Bool.true_eq_false, Bool.false_eq_true, Nat.reduceLT, Nat.reduceLeDiff, decide_true, decide_false]
        have hRn : BR b nw pl (uI u b 10 (nI (M' 3 - 120))) (up M' 3 (M' 3 - 120)) := hRu.sc (i := 3) hB.1 (by omega) (by omega)
        have hMn : MB 1000 (up M' 3 (M' 3 - 120)) := hM'.up (bd_min (by omega)) (by omega)
        refine c_night hB hMn hRn (fun u2 hF2 hR2 => ?_)
        refine ih _ u2 (k + 1) (by omega) (hMn.night hp) ?_ ((hF.tr (FI.u pm0)).tr hF2) hR2 (fun st' a c => ?_)
        · rw [fNight_ne hp (by omega) (by omega) (by omega), up_a, if_pos rfl]; omega
        · have := hq st' a c
          rw [show k + 1 + (fBy pl f (fNight pl (up M' 3 (M' 3 - 120)))).1 = k + ((fBy pl f (fNight pl (up M' 3 (M' 3 - 120)))).1 + 1) from by omega]
          exact this
  refine ⟨7, key 7 _ _ 0 (by omega) hM1 hl1 hF1 hR1 (fun st' a c => ?_)⟩
  rw [Nat.zero_add]
  exact hq st' a c
end CBN

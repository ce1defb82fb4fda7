/-! the reference's bridge: the whole crossing, values, mending, notes, keeping -/
theorem ne_mb {a b : Nat} (h : a < 2 ^ 31) (h0 : 0 < b) (hb : b < 2 ^ 31) : (nI a = -nI b) ↔ False := by
  refine ⟨fun e => ?_, False.elim⟩
  have h1 : (-nI b).toInt = -(b : Int) := by rw [Int32.toInt_neg, nI_toInt hb]; exact Int.bmod_eq_of_le (by omega) (by omega)
  have := congrArg Int32.toInt e
  rw [nI_toInt h, h1] at this
  omega
section RB4
variable {nw pl t : Nat} {wt mi : Nat → Nat} {M : Nat → Nat} {st : St} {Q : Int32 → St → Prop} {Qv : St → Prop}
theorem bd_free {t j v : Nat} (h : j = 2 ∨ (4 ≤ j ∧ j < 8) ∨ 40 ≤ j) : Bd t j v := by unfold Bd; refine ⟨?_, ?_, ?_, ?_, ?_, ?_⟩ <;> intros <;> omega
theorem bd_oil {t v : Nat} (h : v ≤ 60) : Bd t 1 v := by unfold Bd; refine ⟨?_, ?_, ?_, ?_, ?_, ?_⟩ <;> intros <;> omega
theorem MB.over {one : Nat} {other : Option Nat} (hM : MB t M) (h1 : one < 8) (h2 : ∀ o, other = some o → o < 8) : MB t (fOver one other M) := by
  have b0 := hM.la
  refine ⟨fun j => ?_, fun k hk => ?_⟩
  · have hj := hM.1 j
    unfold fOver
    unfold Bd at hj ⊢
    split
    · refine ⟨?_, ?_, ?_, ?_, ?_, ?_⟩ <;> intros <;> omega
    split
    · refine ⟨?_, ?_, ?_, ?_, ?_, ?_⟩ <;> intros <;> omega
    split
    · next q =>
      obtain ⟨o, e, rfl⟩ := q
      have := h2 o e
      refine ⟨?_, ?_, ?_, ?_, ?_, ?_⟩ <;> intros <;> omega
    split
    · refine ⟨?_, ?_, ?_, ?_, ?_, ?_⟩ <;> intros <;> omega
    exact hj
  · have n1 : ∀ j, 16 ≤ j → fOver one other M j = M j := fun j hj => by
      unfold fOver
      rw [if_neg (by omega), if_neg (by omega), if_neg (fun q => by obtain ⟨o, e, rfl⟩ := q; have := h2 o e; omega), if_neg (by omega)]
    rw [n1 _ (by omega), n1 _ (by omega)]
    exact hM.2 k hk
theorem fOver_ne {one j : Nat} {other : Option Nat} (hj : 16 ≤ j ∨ (1 ≤ j ∧ j < 8 ∧ j ≠ 4)) (h1 : one < 8) (h2 : ∀ o, other = some o → o < 8) : fOver one other M j = M j := by
  unfold fOver
  rw [if_neg (by omega), if_neg (by omega), if_neg (fun q => by obtain ⟨o, e, rfl⟩ := q; have := h2 o e; omega), if_neg (by omega)]
theorem MB.mid {one : Nat} {other : Option Nat} {ok : Bool} (hM : MB t M) (h1 : one < 8) (h2 : ∀ o, other = some o → o < 8) : MB t (fMid one other ok M) := by
  unfold fMid
  split
  · exact hM.over h1 h2
  · exact hM.up (bd_free (by omega)) (by omega)
theorem MB.aft {min one : Nat} {other : Option Nat} {ok : Bool} (hM : MB 120 M) (hp : pl ≤ 12) (hm : min ≤ 720) (h1 : one < 8) (h2 : ∀ o, other = some o → o < 8) : MB 120 (fAft pl min one other ok M) := by
  unfold fAft
  have := hM.oi
  exact MB.go hp ((hM.mid h1 h2).up (bd_oil (by omega)) (by omega)) hm
theorem OK2.lt (hB : BB nw pl wt mi) {one : Nat} {other : Option Nat} (hO : OK2 nw one other) : one < 8 ∧ ∀ o, other = some o → o < 8 := ⟨Nat.lt_of_lt_of_le hO.1 hB.1, fun o e => Nat.lt_of_lt_of_le (hO.2 o e).1 hB.1⟩
theorem MB.cross {one : Nat} {other : Option Nat} (hB : BB nw pl wt mi) (hM : MB 120 M) (hO : OK2 nw one other) : MB 120 (fCross pl wt mi one other M).2 := by
  have := fTakes_le (one := one) (other := other) hB
  exact MB.aft (hM.steps hB.2.1 (Nat.le_refl _)) hB.2.1 (by omega) (hO.lt hB).1 (hO.lt hB).2
theorem RM.over {one : Nat} {other : Option Nat} {s4 : St} (hR : RM st M) (h : ∀ j, j < 50 → gI s4 56 j = if j = 0 then nI (1 - M 0) else if j = 8 + one then nI (1 - M 0) else if (∃ o, other = some o ∧ j = 8 + o) then nI (1 - M 0) else if j = 4 then nI (M 4 + 1) else gI st 56 j) : RM s4 (fOver one other M) := by
  intro j hj
  rw [h j hj]
  unfold fOver
  split
  · rfl
  split
  · rfl
  split
  · rfl
  split
  · rfl
  exact hR j hj
theorem r_cross {one : Nat} {other : Option Nat} (hB : BB nw pl wt mi) (hM : MB 120 M) (hK : KB nw pl wt mi st) (hR : RM st M) (hO : OK2 nw one other) (hm : fTakes mi one other ≤ M 1) (h : ∀ st', FI P56 st st' → RM st' (fCross pl wt mi one other M).2 → Q (bI (fCross pl wt mi one other M).1) st') : wX12_cross 54 (nI one) (oI other) st Q := by
  unfold wX12_cross
  refine r_takes hB hK hO ?_
  have h1 := (hO.lt hB).1
  have h2 := (hO.lt hB).2
  have e1 := hK.2.2.1 one hO.1
  have b1 := (hB.2.2 one).1
  have bt := fTakes_le (one := one) (other := other) hB
  have bl := fLoad_le (one := one) (other := other) hB
  have h118 : ∀ (ok : Bool) (u : St) (M1 : Nat → Nat), FI P56 st u → RM u M1 → MB 120 M1 → fTakes mi one other ≤ M1 1 → (∀ st', FI P56 st st' → RM st' (fGo pl (fTakes mi one other) (up M1 1 (M1 1 - fTakes mi one other))).2 → Q (bI ok) st') → wX12_cross_L118 54 (nI one) (oI other) (nI (fTakes mi one other)) (bI ok) u Q := by
    intro ok u M1 hF hRu hMu hmu hq
    unfold wX12_cross_L118
    have e := hRu 1 (by omega)
    simp (disch := omega) only [e, li0, li1, li2, li3, li4, li5, li6, li7, li8, li9, li10, li11, li12, li13, li14, li15, li16, li17, li18, li19, li20, li21, li22, li23, li24, li25, li26, li27, li28, li29, li30, li31, li32, li40, li48, li50, li57, li60, li97, li99, li100, li112, li119, li120, li122, li127, li128, li200, li201, li202, li203, li204, li205, li206, li207, li208, li209, li210, li211, li212, li213, li214, li215, li216, li217, li218, li219, li225, li255, li300, li301, li400, li512, li600, li999, li1000, li1600, li1000000, nI_add, pk_mul, Nat.add_right_cancel_iff, pk_sub, nI_leI, nI_ltI, nI_eq, nI_clamp, vin_iff, ne_m1, m1_ne, lt_m1, le_m1, m1_lt, m1_le, bI0, bI1, Nat.reduceAdd, Nat.reduceSub, Nat.reduceMul, forall_eq, gI_uI, gI_uJ, gI_sI, Nat.add_left_cancel_iff, Nat.reduceEqDiff, and_true, true_and, and_false, false_and, not_true_eq_false, not_false_eq_true, true_implies, false_implies, implies_true, if_true, if_false, ite_true, ite_false, reduceIte, Bool.true_eq_false, Bool.false_eq_true, Nat.reduceLT, Nat.reduceLeDiff, decide_true, decide_false]
    have bo := hMu.oi
    refine r_goBy (M := up M1 1 (M1 1 - fTakes mi one other)) hB (hMu.up (bd_oil (by omega)) (by omega)) (by omega) ((hK.p hF).p (FI.u rfl)) hRu.u (fun st' hF' hR' => ⟨bI_bz, hq st' ((hF.tr (FI.u rfl)).tr hF') hR'⟩)
  have h35 : ∀ s0 : Int32, nI (wt one) + s0 = nI (fLoad wt one other) → wX12_cross_L35 54 (nI one) (oI other) (nI one) (oI other) (nI (fTakes mi one other)) s0 (nI (wt one)) st Q := by
    intro s0 hs0
    unfold wX12_cross_L35
    rw [hs0]
    unfold fCross fAft fMid at h
    have hMs := hM.steps (w := fLoad wt one other) (was := false) hB.2.1 (Nat.le_refl pl)
    have hs1 : (fSteps (fLoad wt one other) pl pl false M).2 1 = M 1 := fSteps_ne hB.2.1 (by omega) (Nat.le_refl pl)
    refine r_steps hB hM hK hR bl (fun st' hF hR' => ?_)
    generalize fSteps (fLoad wt one other) pl pl false M = z at h hR' hMs hs1 ⊢
    obtain ⟨ok, M1⟩ := z
    have hKu := hK.p hF
    simp only at h hR' hMs hs1 ⊢
    refine ⟨fun q => ?_, fun q => ?_⟩
    · rw [bI0.mp q] at h ⊢
      have e5 := hR' 5 (by omega)
      simp (disch := omega) only [e5, li0, li1, li2, li3, li4, li5, li6, li7, li8, li9, li10, li11, li12, li13, li14, li15, li16, li17, li18, li19, li20, li21, li22, li23, li24, li25, li26, li27, li28, li29, li30, li31, li32, li40, li48, li50, li57, li60, li97, li99, li100, li112, li119, li120, li122, li127, li128, li200, li201, li202, li203, li204, li205, li206, li207, li208, li209, li210, li211, li212, li213, li214, li215, li216, li217, li218, li219, li225, li255, li300, li301, li400, li512, li600, li999, li1000, li1600, li1000000, nI_add, pk_mul, Nat.add_right_cancel_iff, pk_sub, nI_leI, nI_ltI, nI_eq, nI_clamp, vin_iff, ne_m1, m1_ne, lt_m1, le_m1, m1_lt, m1_le, bI0, bI1, Nat.reduceAdd, Nat.reduceSub, Nat.reduceMul, forall_eq, gI_uI, gI_uJ, gI_sI, Nat.add_left_cancel_iff, Nat.reduceEqDiff, and_true, true_and, and_false, false_and, not_true_eq_false, not_false_eq_true, true_implies, false_implies, implies_true, if_true, if_false, ite_true, ite_false, reduceIte, Bool.true_eq_false, Bool.false_eq_true, Nat.reduceLT, Nat.reduceLeDiff, decide_true, decide_false]
      refine h118 false _ (up M1 5 (M1 5 + 1)) (hF.tr (FI.u rfl)) hR'.u (hMs.up (bd_free (by omega)) (by omega)) (by rw [up_a, if_neg (by omega), hs1]; exact hm) (fun st2 hF2 hR2 => h st2 hF2 ?_)
      rw [up_a, if_neg (by omega)] at hR2
      exact hR2
    · have q := (Bool.not_eq_false _).mp (fun e => q (bI0.mpr e))
      rw [q] at h ⊢
      have e0 := hR' 0 (by omega)
      have e4 := hR' 4 (by omega)
      have b0 := hMs.la
      have hov : ∀ u : St, FI P56 st u → RM u (fOver one other M1) → wX12_cross_L118 54 (nI one) (oI other) (nI (fTakes mi one other)) (bI true) u Q := by
        intro u hFu hRu
        have ho1 : fOver one other M1 1 = M1 1 := fOver_ne (by omega) h1 h2
        refine h118 true u _ hFu hRu (hMs.over h1 h2) (by rw [ho1, hs1]; exact hm) (fun st2 hF2 hR2 => h st2 hF2 ?_)
        rw [ho1] at hR2
        exact hR2
      have n0 : ¬ (0 = 8 + one) := by omega
      have n4 : ¬ (4 = 8 + one) := by omega
      unfold wX12_cross_L95
      cases other with
      | none =>
        simp (disch := omega) only [oI_none, e0, e4, n0, n4, li0, li1, li2, li3, li4, li5, li6, li7, li8, li9, li10, li11, li12, li13, li14, li15, li16, li17, li18, li19, li20, li21, li22, li23, li24, li25, li26, li27, li28, li29, li30, li31, li32, li40, li48, li50, li57, li60, li97, li99, li100, li112, li119, li120, li122, li127, li128, li200, li201, li202, li203, li204, li205, li206, li207, li208, li209, li210, li211, li212, li213, li214, li215, li216, li217, li218, li219, li225, li255, li300, li301, li400, li512, li600, li999, li1000, li1600, li1000000, nI_add, pk_mul, Nat.add_right_cancel_iff, pk_sub, nI_leI, nI_ltI, nI_eq, nI_clamp, vin_iff, ne_m1, m1_ne, lt_m1, le_m1, m1_lt, m1_le, bI0, bI1, Nat.reduceAdd, Nat.reduceSub, Nat.reduceMul, forall_eq, gI_uI, gI_uJ, gI_sI, Nat.add_left_cancel_iff, Nat.reduceEqDiff, and_true, true_and, and_false, false_and, not_true_eq_false, not_false_eq_true, true_implies, false_implies, implies_true, if_true, if_false, ite_true, ite_false, reduceIte, Bool.true_eq_false, Bool.false_eq_true, Nat.reduceLT, Nat.reduceLeDiff, decide_true, decide_false]
        refine ⟨by omega, ?_⟩
        refine hov _ (((hF.tr (FI.u rfl)).tr (FI.u rfl)).tr (FI.u rfl)) (RM.over hR' (fun j hj => ?_))
        rw [gI_uI, gI_uI, gI_uI]
        by_cases q0 : j = 0
        · subst q0; simp [n0]
        by_cases q1 : j = 8 + one
        · subst q1; simp; omega
        by_cases q4 : j = 4
        · subst q4; simp [n4]
        simp [q0, q1, q4]
      | some o =>
        have ho := h2 o rfl
        have hne := (hO.2 o rfl).2
        have m0 : ¬ (0 = 8 + o) := by omega
        have m4 : ¬ (4 = 8 + o) := by omega
        simp (disch := omega) only [oI_some, e0, e4, n0, n4, m0, m4, li0, li1, li2, li3, li4, li5, li6, li7, li8, li9, li10, li11, li12, li13, li14, li15, li16, li17, li18, li19, li20, li21, li22, li23, li24, li25, li26, li27, li28, li29, li30, li31, li32, li40, li48, li50, li57, li60, li97, li99, li100, li112, li119, li120, li122, li127, li128, li200, li201, li202, li203, li204, li205, li206, li207, li208, li209, li210, li211, li212, li213, li214, li215, li216, li217, li218, li219, li225, li255, li300, li301, li400, li512, li600, li999, li1000, li1600, li1000000, nI_add, pk_mul, Nat.add_right_cancel_iff, pk_sub, nI_leI, nI_ltI, nI_eq, nI_clamp, vin_iff, ne_m1, m1_ne, lt_m1, le_m1, m1_lt, m1_le, bI0, bI1, Nat.reduceAdd, Nat.reduceSub, Nat.reduceMul, forall_eq, gI_uI, gI_uJ, gI_sI, Nat.add_left_cancel_iff, Nat.reduceEqDiff, and_true, true_and, and_false, false_and, not_true_eq_false, not_false_eq_true, true_implies, false_implies, implies_true, if_true, if_false, ite_true, ite_false, reduceIte, Bool.true_eq_false, Bool.false_eq_true, Nat.reduceLT, Nat.reduceLeDiff, decide_true, decide_false]
        refine ⟨by omega, by omega, ?_⟩
        refine hov _ ((((hF.tr (FI.u rfl)).tr (FI.u rfl)).tr (FI.u rfl)).tr (FI.u rfl)) (RM.over hR' (fun j hj => ?_))
        rw [gI_uI, gI_uI, gI_uI, gI_uI]
        by_cases q0 : j = 0
        · subst q0; simp [n0, m0]
        by_cases q1 : j = 8 + one
        · subst q1; simp; omega
        by_cases q2 : j = 8 + o
        · subst q2; simp; omega
        by_cases q4 : j = 4
        · subst q4; simp [n4, m4]
        simp [q0, q1, q2, q4]
  cases other with
  | none =>
    simp (disch := omega) only [oI_none, e1, li0, li1, li2, li3, li4, li5, li6, li7, li8, li9, li10, li11, li12, li13, li14, li15, li16, li17, li18, li19, li20, li21, li22, li23, li24, li25, li26, li27, li28, li29, li30, li31, li32, li40, li48, li50, li57, li60, li97, li99, li100, li112, li119, li120, li122, li127, li128, li200, li201, li202, li203, li204, li205, li206, li207, li208, li209, li210, li211, li212, li213, li214, li215, li216, li217, li218, li219, li225, li255, li300, li301, li400, li512, li600, li999, li1000, li1600, li1000000, nI_add, pk_mul, Nat.add_right_cancel_iff, pk_sub, nI_leI, nI_ltI, nI_eq, nI_clamp, vin_iff, ne_m1, m1_ne, lt_m1, le_m1, m1_lt, m1_le, bI0, bI1, Nat.reduceAdd, Nat.reduceSub, Nat.reduceMul, forall_eq, gI_uI, gI_uJ, gI_sI, Nat.add_left_cancel_iff, Nat.reduceEqDiff, and_true, true_and, and_false, false_and, not_true_eq_false, not_false_eq_true, true_implies, false_implies, implies_true, if_true, if_false, ite_true, ite_false, reduceIte, Bool.true_eq_false, Bool.false_eq_true, Nat.reduceLT, Nat.reduceLeDiff, decide_true, decide_false]
    refine ⟨by omega, ?_⟩
    exact h35 (nI 0) (by rw [nI_add]; rfl)
  | some o =>
    have ho := hO.2 o rfl
    have e2 := hK.2.2.1 o ho.1
    have h8 := h2 o rfl
    simp (disch := omega) only [oI_some, e1, e2, li0, li1, li2, li3, li4, li5, li6, li7, li8, li9, li10, li11, li12, li13, li14, li15, li16, li17, li18, li19, li20, li21, li22, li23, li24, li25, li26, li27, li28, li29, li30, li31, li32, li40, li48, li50, li57, li60, li97, li99, li100, li112, li119, li120, li122, li127, li128, li200, li201, li202, li203, li204, li205, li206, li207, li208, li209, li210, li211, li212, li213, li214, li215, li216, li217, li218, li219, li225, li255, li300, li301, li400, li512, li600, li999, li1000, li1600, li1000000, nI_add, pk_mul, Nat.add_right_cancel_iff, pk_sub, nI_leI, nI_ltI, nI_eq, nI_clamp, vin_iff, ne_m1, m1_ne, lt_m1, le_m1, m1_lt, m1_le, bI0, bI1, Nat.reduceAdd, Nat.reduceSub, Nat.reduceMul, forall_eq, gI_uI, gI_uJ, gI_sI, Nat.add_left_cancel_iff, Nat.reduceEqDiff, and_true, true_and, and_false, false_and, not_true_eq_false, not_false_eq_true, true_implies, false_implies, implies_true, if_true, if_false, ite_true, ite_false, reduceIte, Bool.true_eq_false, Bool.false_eq_true, Nat.reduceLT, Nat.reduceLeDiff, decide_true, decide_false]
    refine ⟨by omega, by omega, ?_⟩
    exact h35 (nI (wt o)) (by rw [nI_add]; rfl)
theorem fNear_le {k : Nat} : fNear M k ≤ k := by
  induction k with
  | zero => exact Nat.le_refl _
  | succ k ih => unfold fNear; omega
theorem r_near (hB : BB nw pl wt mi) (hM : MB t M) (hK : KB nw pl wt mi st) (hR : RM st M) (h : Q (nI (fNear M nw)) st) : wX12_near 54 st Q := by
  unfold wX12_near
  have h8 := hB.1
  refine lp_inv (n := nw) (I := fun k s => s = (nI (fNear M k), nI k, st)) ?_ ?_ rfl
  · rintro k s hk rfl R hR2
    have hf := hR2 _ rfl
    show wX12_near_L4 54 R (nI (fNear M k)) (nI k) st Q
    unfold wX12_near_L4
    have e := hR (8 + k) (by omega)
    have b := hM.si (k := k) (by omega)
    unfold fNear at hf
    simp (disch := omega) only [hK.1, e, li0, li1, li2, li3, li4, li5, li6, li7, li8, li9, li10, li11, li12, li13, li14, li15, li16, li17, li18, li19, li20, li21, li22, li23, li24, li25, li26, li27, li28, li29, li30, li31, li32, li40, li48, li50, li57, li60, li97, li99, li100, li112, li119, li120, li122, li127, li128, li200, li201, li202, li203, li204, li205, li206, li207, li208, li209, li210, li211, li212, li213, li214, li215, li216, li217, li218, li219, li225, li255, li300, li301, li400, li512, li600, li999, li1000, li1600, li1000000, nI_add, pk_mul, Nat.add_right_cancel_iff, pk_sub, nI_leI, nI_ltI, nI_eq, nI_clamp, vin_iff, ne_m1, m1_ne, lt_m1, le_m1, m1_lt, m1_le, bI0, bI1, Nat.reduceAdd, Nat.reduceSub, Nat.reduceMul, forall_eq, gI_uI, gI_uJ, gI_sI, Nat.add_left_cancel_iff, Nat.reduceEqDiff, and_true, true_and, and_false, false_and, not_true_eq_false, not_false_eq_true, true_implies, false_implies, implies_true, if_true, if_false, ite_true, ite_false, reduceIte, Bool.true_eq_false, Bool.false_eq_true, Nat.reduceLT, Nat.reduceLeDiff, decide_true, decide_false]
    exact ⟨fun q => absurd q (by omega), fun _ => ⟨by omega, hf⟩⟩
  · rintro s rfl R
    show wX12_near_L4 54 R (nI (fNear M nw)) (nI nw) st Q
    unfold wX12_near_L4
    simp (disch := omega) only [hK.1, li0, li1, li2, li3, li4, li5, li6, li7, li8, li9, li10, li11, li12, li13, li14, li15, li16, li17, li18, li19, li20, li21, li22, li23, li24, li25, li26, li27, li28, li29, li30, li31, li32, li40, li48, li50, li57, li60, li97, li99, li100, li112, li119, li120, li122, li127, li128, li200, li201, li202, li203, li204, li205, li206, li207, li208, li209, li210, li211, li212, li213, li214, li215, li216, li217, li218, li219, li225, li255, li300, li301, li400, li512, li600, li999, li1000, li1600, li1000000, nI_add, pk_mul, Nat.add_right_cancel_iff, pk_sub, nI_leI, nI_ltI, nI_eq, nI_clamp, vin_iff, ne_m1, m1_ne, lt_m1, le_m1, m1_lt, m1_le, bI0, bI1, Nat.reduceAdd, Nat.reduceSub, Nat.reduceMul, forall_eq, gI_uI, gI_uJ, gI_sI, Nat.add_left_cancel_iff, Nat.reduceEqDiff, and_true, true_and, and_false, false_and, not_true_eq_false, not_false_eq_true, true_implies, false_implies, implies_true, if_true, if_false, ite_true, ite_false, reduceIte, Bool.true_eq_false, Bool.false_eq_true, Nat.reduceLT, Nat.reduceLeDiff, decide_true, decide_false]
    exact ⟨fun _ => h, fun q => absurd (Nat.le_refl _) q⟩
theorem fMiss_le {k : Nat} : fMiss M k ≤ k := by
  induction k with
  | zero => exact Nat.le_refl _
  | succ k ih => unfold fMiss; split <;> omega
theorem fVal_num {c : Nat} (h : c < 100) : fVal nw pl M c = c := if_pos h
theorem r_value {c : Nat} (hB : BB nw pl wt mi) (hM : MB t M) (hK : KB nw pl wt mi st) (hR : RM st M) (hc : c < 107) (h : Q (nI (fVal nw pl M c)) st) : wX12_value 54 (vI c) st Q := by
  unfold wX12_value
  have h8 := hB.1
  have hp := hB.2.1
  by_cases h100 : c < 100
  · rw [fVal_num h100] at h
    unfold vI
    rw [if_pos h100]
    refine ⟨fun _ => h, fun q => ?_, fun q => ?_, fun q => ?_, fun q => ?_, fun q => ?_, fun q => ?_, fun q => ?_⟩
    · exact ((ne_mb (b := 7) (by omega) (by omega) (by omega)).mp q).elim
    · exact ((ne_mb (b := 6) (by omega) (by omega) (by omega)).mp q).elim
    · exact ((ne_mb (b := 5) (by omega) (by omega) (by omega)).mp q).elim
    · exact ((ne_mb (b := 4) (by omega) (by omega) (by omega)).mp q).elim
    · exact ((ne_mb (b := 3) (by omega) (by omega) (by omega)).mp q).elim
    · exact ((ne_mb (b := 2) (by omega) (by omega) (by omega)).mp q).elim
    · exact ((ne_mb (b := 1) (by omega) (by omega) (by omega)).mp q).elim
  · have hcc : c = 100 ∨ c = 101 ∨ c = 102 ∨ c = 103 ∨ c = 104 ∨ c = 105 ∨ c = 106 := by omega
    have e1 := hR 1 (by omega)
    have e2 := hR 2 (by omega)
    have e3 := hR 3 (by omega)
    rcases hcc with rfl | rfl | rfl | rfl | rfl | rfl | rfl
    · refine ⟨fun q => absurd q (by decide), fun q => absurd q (by decide), fun q => absurd q (by decide), fun q => absurd q (by decide), fun q => absurd q (by decide), fun q => absurd q (by decide), fun q => absurd q (by decide), fun _ => ?_⟩
      exact r_near hB hM hK hR h
    · refine ⟨fun q => absurd q (by decide), fun q => absurd q (by decide), fun q => absurd q (by decide), fun q => absurd q (by decide), fun q => absurd q (by decide), fun q => absurd q (by decide), fun _ => ?_, fun q => absurd q (by decide)⟩
      refine r_near hB hM hK hR ?_
      have := fNear_le (M := M) (k := nw)
      simp (disch := omega) only [hK.1, li0, li1, li2, li3, li4, li5, li6, li7, li8, li9, li10, li11, li12, li13, li14, li15, li16, li17, li18, li19, li20, li21, li22, li23, li24, li25, li26, li27, li28, li29, li30, li31, li32, li40, li48, li50, li57, li60, li97, li99, li100, li112, li119, li120, li122, li127, li128, li200, li201, li202, li203, li204, li205, li206, li207, li208, li209, li210, li211, li212, li213, li214, li215, li216, li217, li218, li219, li225, li255, li300, li301, li400, li512, li600, li999, li1000, li1600, li1000000, nI_add, pk_mul, Nat.add_right_cancel_iff, pk_sub, nI_leI, nI_ltI, nI_eq, nI_clamp, vin_iff, ne_m1, m1_ne, lt_m1, le_m1, m1_lt, m1_le, bI0, bI1, Nat.reduceAdd, Nat.reduceSub, Nat.reduceMul, forall_eq, gI_uI, gI_uJ, gI_sI, Nat.add_left_cancel_iff, Nat.reduceEqDiff, and_true, true_and, and_false, false_and, not_true_eq_false, not_false_eq_true, true_implies, false_implies, implies_true, if_true, if_false, ite_true, ite_false, reduceIte, Bool.true_eq_false, Bool.false_eq_true, Nat.reduceLT, Nat.reduceLeDiff, decide_true, decide_false]
      exact h
    · refine ⟨fun q => absurd q (by decide), fun q => absurd q (by decide), fun q => absurd q (by decide), fun q => absurd q (by decide), fun q => absurd q (by decide), fun _ => ?_, fun q => absurd q (by decide), fun q => absurd q (by decide)⟩
      simp (disch := omega) only [e1, li0, li1, li2, li3, li4, li5, li6, li7, li8, li9, li10, li11, li12, li13, li14, li15, li16, li17, li18, li19, li20, li21, li22, li23, li24, li25, li26, li27, li28, li29, li30, li31, li32, li40, li48, li50, li57, li60, li97, li99, li100, li112, li119, li120, li122, li127, li128, li200, li201, li202, li203, li204, li205, li206, li207, li208, li209, li210, li211, li212, li213, li214, li215, li216, li217, li218, li219, li225, li255, li300, li301, li400, li512, li600, li999, li1000, li1600, li1000000, nI_add, pk_mul, Nat.add_right_cancel_iff, pk_sub, nI_leI, nI_ltI, nI_eq, nI_clamp, vin_iff, ne_m1, m1_ne, lt_m1, le_m1, m1_lt, m1_le, bI0, bI1, Nat.reduceAdd, Nat.reduceSub, Nat.reduceMul, forall_eq, gI_uI, gI_uJ, gI_sI, Nat.add_left_cancel_iff, Nat.reduceEqDiff, and_true, true_and, and_false, false_and, not_true_eq_false, not_false_eq_true, true_implies, false_implies, implies_true, if_true, if_false, ite_true, ite_false, reduceIte, Bool.true_eq_false, Bool.false_eq_true, Nat.reduceLT, Nat.reduceLeDiff, decide_true, decide_false]
      exact h
    · refine ⟨fun q => absurd q (by decide), fun q => absurd q (by decide), fun q => absurd q (by decide), fun q => absurd q (by decide), fun _ => ?_, fun q => absurd q (by decide), fun q => absurd q (by decide), fun q => absurd q (by decide)⟩
      simp (disch := omega) only [e3, li0, li1, li2, li3, li4, li5, li6, li7, li8, li9, li10, li11, li12, li13, li14, li15, li16, li17, li18, li19, li20, li21, li22, li23, li24, li25, li26, li27, li28, li29, li30, li31, li32, li40, li48, li50, li57, li60, li97, li99, li100, li112, li119, li120, li122, li127, li128, li200, li201, li202, li203, li204, li205, li206, li207, li208, li209, li210, li211, li212, li213, li214, li215, li216, li217, li218, li219, li225, li255, li300, li301, li400, li512, li600, li999, li1000, li1600, li1000000, nI_add, pk_mul, Nat.add_right_cancel_iff, pk_sub, nI_leI, nI_ltI, nI_eq, nI_clamp, vin_iff, ne_m1, m1_ne, lt_m1, le_m1, m1_lt, m1_le, bI0, bI1, Nat.reduceAdd, Nat.reduceSub, Nat.reduceMul, forall_eq, gI_uI, gI_uJ, gI_sI, Nat.add_left_cancel_iff, Nat.reduceEqDiff, and_true, true_and, and_false, false_and, not_true_eq_false, not_false_eq_true, true_implies, false_implies, implies_true, if_true, if_false, ite_true, ite_false, reduceIte, Bool.true_eq_false, Bool.false_eq_true, Nat.reduceLT, Nat.reduceLeDiff, decide_true, decide_false]
      exact h
    · refine ⟨fun q => absurd q (by decide), fun q => absurd q (by decide), fun q => absurd q (by decide), fun _ => ?_, fun q => absurd q (by decide), fun q => absurd q (by decide), fun q => absurd q (by decide), fun q => absurd q (by decide)⟩
      simp (disch := omega) only [e2, li0, li1, li2, li3, li4, li5, li6, li7, li8, li9, li10, li11, li12, li13, li14, li15, li16, li17, li18, li19, li20, li21, li22, li23, li24, li25, li26, li27, li28, li29, li30, li31, li32, li40, li48, li50, li57, li60, li97, li99, li100, li112, li119, li120, li122, li127, li128, li200, li201, li202, li203, li204, li205, li206, li207, li208, li209, li210, li211, li212, li213, li214, li215, li216, li217, li218, li219, li225, li255, li300, li301, li400, li512, li600, li999, li1000, li1600, li1000000, nI_add, pk_mul, Nat.add_right_cancel_iff, pk_sub, nI_leI, nI_ltI, nI_eq, nI_clamp, vin_iff, ne_m1, m1_ne, lt_m1, le_m1, m1_lt, m1_le, bI0, bI1, Nat.reduceAdd, Nat.reduceSub, Nat.reduceMul, forall_eq, gI_uI, gI_uJ, gI_sI, Nat.add_left_cancel_iff, Nat.reduceEqDiff, and_true, true_and, and_false, false_and, not_true_eq_false, not_false_eq_true, true_implies, false_implies, implies_true, if_true, if_false, ite_true, ite_false, reduceIte, Bool.true_eq_false, Bool.false_eq_true, Nat.reduceLT, Nat.reduceLeDiff, decide_true, decide_false]
      exact h
    · refine ⟨fun q => absurd q (by decide), fun q => absurd q (by decide), fun _ => ?_, fun q => absurd q (by decide), fun q => absurd q (by decide), fun q => absurd q (by decide), fun q => absurd q (by decide), fun q => absurd q (by decide)⟩
      exact r_missing hB hM hK hR h
    · refine ⟨fun q => absurd q (by decide), fun _ => ?_, fun q => absurd q (by decide), fun q => absurd q (by decide), fun q => absurd q (by decide), fun q => absurd q (by decide), fun q => absurd q (by decide), fun q => absurd q (by decide)⟩
      refine r_weakest (snd := false) hB hM hK hR ?_
      have h : Q (nI (match fWst M false pl with | none => 0 | some w => M (16 + w))) st := h
      cases hf : fWst M false pl with
      | none =>
        simp only [hf] at h
        simp (disch := omega) only [oI_none, li0, li1, li2, li3, li4, li5, li6, li7, li8, li9, li10, li11, li12, li13, li14, li15, li16, li17, li18, li19, li20, li21, li22, li23, li24, li25, li26, li27, li28, li29, li30, li31, li32, li40, li48, li50, li57, li60, li97, li99, li100, li112, li119, li120, li122, li127, li128, li200, li201, li202, li203, li204, li205, li206, li207, li208, li209, li210, li211, li212, li213, li214, li215, li216, li217, li218, li219, li225, li255, li300, li301, li400, li512, li600, li999, li1000, li1600, li1000000, nI_add, pk_mul, Nat.add_right_cancel_iff, pk_sub, nI_leI, nI_ltI, nI_eq, nI_clamp, vin_iff, ne_m1, m1_ne, lt_m1, le_m1, m1_lt, m1_le, bI0, bI1, Nat.reduceAdd, Nat.reduceSub, Nat.reduceMul, forall_eq, gI_uI, gI_uJ, gI_sI, Nat.add_left_cancel_iff, Nat.reduceEqDiff, and_true, true_and, and_false, false_and, not_true_eq_false, not_false_eq_true, true_implies, false_implies, implies_true, if_true, if_false, ite_true, ite_false, reduceIte, Bool.true_eq_false, Bool.false_eq_true, Nat.reduceLT, Nat.reduceLeDiff, decide_true, decide_false]
        exact h
      | some w =>
        have hlt := fWst_lt pl hf
        have ew := hR (16 + w) (by omega)
        simp only [hf] at h
        simp (disch := omega) only [oI_some, li0, li1, li2, li3, li4, li5, li6, li7, li8, li9, li10, li11, li12, li13, li14, li15, li16, li17, li18, li19, li20, li21, li22, li23, li24, li25, li26, li27, li28, li29, li30, li31, li32, li40, li48, li50, li57, li60, li97, li99, li100, li112, li119, li120, li122, li127, li128, li200, li201, li202, li203, li204, li205, li206, li207, li208, li209, li210, li211, li212, li213, li214, li215, li216, li217, li218, li219, li225, li255, li300, li301, li400, li512, li600, li999, li1000, li1600, li1000000, nI_add, pk_mul, Nat.add_right_cancel_iff, pk_sub, nI_leI, nI_ltI, nI_eq, nI_clamp, vin_iff, ne_m1, m1_ne, lt_m1, le_m1, m1_lt, m1_le, bI0, bI1, Nat.reduceAdd, Nat.reduceSub, Nat.reduceMul, forall_eq, gI_uI, gI_uJ, gI_sI, Nat.add_left_cancel_iff, Nat.reduceEqDiff, and_true, true_and, and_false, false_and, not_true_eq_false, not_false_eq_true, true_implies, false_implies, implies_true, if_true, if_false, ite_true, ite_false, reduceIte, Bool.true_eq_false, Bool.false_eq_true, Nat.reduceLT, Nat.reduceLeDiff, decide_true, decide_false]
        refine r_weakest (snd := false) hB hM hK hR ?_
        rw [hf]
        simp (disch := omega) only [oI_some, ew, li0, li1, li2, li3, li4, li5, li6, li7, li8, li9, li10, li11, li12, li13, li14, li15, li16, li17, li18, li19, li20, li21, li22, li23, li24, li25, li26, li27, li28, li29, li30, li31, li32, li40, li48, li50, li57, li60, li97, li99, li100, li112, li119, li120, li122, li127, li128, li200, li201, li202, li203, li204, li205, li206, li207, li208, li209, li210, li211, li212, li213, li214, li215, li216, li217, li218, li219, li225, li255, li300, li301, li400, li512, li600, li999, li1000, li1600, li1000000, nI_add, pk_mul, Nat.add_right_cancel_iff, pk_sub, nI_leI, nI_ltI, nI_eq, nI_clamp, vin_iff, ne_m1, m1_ne, lt_m1, le_m1, m1_lt, m1_le, bI0, bI1, Nat.reduceAdd, Nat.reduceSub, Nat.reduceMul, forall_eq, gI_uI, gI_uJ, gI_sI, Nat.add_left_cancel_iff, Nat.reduceEqDiff, and_true, true_and, and_false, false_and, not_true_eq_false, not_false_eq_true, true_implies, false_implies, implies_true, if_true, if_false, ite_true, ite_false, reduceIte, Bool.true_eq_false, Bool.false_eq_true, Nat.reduceLT, Nat.reduceLeDiff, decide_true, decide_false]
        exact ⟨by omega, h⟩
theorem fF0_lt : ∀ {k j : Nat}, fF0 M k = some j → j < k := by
  intro k
  induction k with
  | zero => intro j h; cases h
  | succ k ih =>
    intro j h
    unfold fF0 at h
    split at h
    · next i hi => cases h; have := ih hi; omega
    · split at h
      · cases h; omega
      · cases h
theorem fF0_up {k j n : Nat} (h : fF0 M k = some j) (hn : k ≤ n) : fF0 M n = some j := by
  obtain ⟨d, rfl⟩ : ∃ d, n = k + d := ⟨n - k, by omega⟩
  induction d with
  | zero => exact h
  | succ d ih =>
    show fF0 M (k + d + 1) = some j
    unfold fF0
    rw [ih (by omega)]
theorem r_mend {v : Nat} (hB : BB nw pl wt mi) (hM : MB t M) (hK : KB nw pl wt mi st) (hR : RM st M) (hv : v < 2 ^ 31) (h : ∀ st', FI P56 st st' → RM st' (fMend pl v M).2 → Q (bI (fMend pl v M).1) st') : wX12_mend 54 (nI v) st Q := by
  unfold wX12_mend wX12_isIn
  have hp := hB.2.1
  unfold fMend at h
  by_cases hv1 : 1 ≤ v ∧ v ≤ 30
  · rw [if_pos hv1] at h
    have a1 : ¬ v < 1 := by omega
    have a2 : ¬ 30 < v := by omega
    simp (disch := omega) only [a1, a2, li0, li1, li2, li3, li4, li5, li6, li7, li8, li9, li10, li11, li12, li13, li14, li15, li16, li17, li18, li19, li20, li21, li22, li23, li24, li25, li26, li27, li28, li29, li30, li31, li32, li40, li48, li50, li57, li60, li97, li99, li100, li112, li119, li120, li122, li127, li128, li200, li201, li202, li203, li204, li205, li206, li207, li208, li209, li210, li211, li212, li213, li214, li215, li216, li217, li218, li219, li225, li255, li300, li301, li400, li512, li600, li999, li1000, li1600, li1000000, nI_add, pk_mul, Nat.add_right_cancel_iff, pk_sub, nI_leI, nI_ltI, nI_eq, nI_clamp, vin_iff, ne_m1, m1_ne, lt_m1, le_m1, m1_lt, m1_le, bI0, bI1, Nat.reduceAdd, Nat.reduceSub, Nat.reduceMul, forall_eq, gI_uI, gI_uJ, gI_sI, Nat.add_left_cancel_iff, Nat.reduceEqDiff, and_true, true_and, and_false, false_and, not_true_eq_false, not_false_eq_true, true_implies, false_implies, implies_true, if_true, if_false, ite_true, ite_false, reduceIte, Bool.true_eq_false, Bool.false_eq_true, Nat.reduceLT, Nat.reduceLeDiff, decide_true, decide_false]
    refine lp_inv (n := pl) (I := fun k s => s = (nI v, nI k, st) ∧ fF0 M k = none) ?_ ?_ ⟨rfl, rfl⟩
    · rintro k s hk ⟨rfl, hno⟩ R hR2
      show wX12_mend_L14 54 (nI v) R (nI v) (nI k) st Q
      unfold wX12_mend_L14
      have e := hR (16 + k) (by omega)
      have b := hM.st (k := k) (by omega)
      simp (disch := omega) only [hK.2.1, e, li0, li1, li2, li3, li4, li5, li6, li7, li8, li9, li10, li11, li12, li13, li14, li15, li16, li17, li18, li19, li20, li21, li22, li23, li24, li25, li26, li27, li28, li29, li30, li31, li32, li40, li48, li50, li57, li60, li97, li99, li100, li112, li119, li120, li122, li127, li128, li200, li201, li202, li203, li204, li205, li206, li207, li208, li209, li210, li211, li212, li213, li214, li215, li216, li217, li218, li219, li225, li255, li300, li301, li400, li512, li600, li999, li1000, li1600, li1000000, nI_add, pk_mul, Nat.add_right_cancel_iff, pk_sub, nI_leI, nI_ltI, nI_eq, nI_clamp, vin_iff, ne_m1, m1_ne, lt_m1, le_m1, m1_lt, m1_le, bI0, bI1, Nat.reduceAdd, Nat.reduceSub, Nat.reduceMul, forall_eq, gI_uI, gI_uJ, gI_sI, Nat.add_left_cancel_iff, Nat.reduceEqDiff, and_true, true_and, and_false, false_and, not_true_eq_false, not_false_eq_true, true_implies, false_implies, implies_true, if_true, if_false, ite_true, ite_false, reduceIte, Bool.true_eq_false, Bool.false_eq_true, Nat.reduceLT, Nat.reduceLeDiff, decide_true, decide_false]
      have hst : fF0 M (k + 1) = if M (16 + k) = 0 then some k else none := by unfold fF0; rw [hno]
      refine ⟨fun q => absurd q (by omega), fun _ => ⟨by omega, fun q => ?_, fun q => ?_⟩⟩
      · rw [if_pos (by omega)] at hst
        rw [fF0_up hst (by omega)] at h
        repeat refine ⟨by omega, ?_⟩
        exact h _ ((FI.u (P := P56) rfl).tr (FI.u rfl)) hR.sr
      · rw [if_neg (by omega)] at hst
        exact hR2 _ ⟨rfl, hst⟩
    · rintro s ⟨rfl, hno⟩ R
      show wX12_mend_L14 54 (nI v) R (nI v) (nI pl) st Q
      unfold wX12_mend_L14
      rw [hno] at h
      simp (disch := omega) only [hK.2.1, li0, li1, li2, li3, li4, li5, li6, li7, li8, li9, li10, li11, li12, li13, li14, li15, li16, li17, li18, li19, li20, li21, li22, li23, li24, li25, li26, li27, li28, li29, li30, li31, li32, li40, li48, li50, li57, li60, li97, li99, li100, li112, li119, li120, li122, li127, li128, li200, li201, li202, li203, li204, li205, li206, li207, li208, li209, li210, li211, li212, li213, li214, li215, li216, li217, li218, li219, li225, li255, li300, li301, li400, li512, li600, li999, li1000, li1600, li1000000, nI_add, pk_mul, Nat.add_right_cancel_iff, pk_sub, nI_leI, nI_ltI, nI_eq, nI_clamp, vin_iff, ne_m1, m1_ne, lt_m1, le_m1, m1_lt, m1_le, bI0, bI1, Nat.reduceAdd, Nat.reduceSub, Nat.reduceMul, forall_eq, gI_uI, gI_uJ, gI_sI, Nat.add_left_cancel_iff, Nat.reduceEqDiff, and_true, true_and, and_false, false_and, not_true_eq_false, not_false_eq_true, true_implies, false_implies, implies_true, if_true, if_false, ite_true, ite_false, reduceIte, Bool.true_eq_false, Bool.false_eq_true, Nat.reduceLT, Nat.reduceLeDiff, decide_true, decide_false]
      exact ⟨fun _ => h st FI.rf hR, fun q => absurd (Nat.le_refl _) q⟩
  · rw [if_neg hv1] at h
    have h := h st FI.rf hR
    simp (disch := omega) only [li0, li1, li2, li3, li4, li5, li6, li7, li8, li9, li10, li11, li12, li13, li14, li15, li16, li17, li18, li19, li20, li21, li22, li23, li24, li25, li26, li27, li28, li29, li30, li31, li32, li40, li48, li50, li57, li60, li97, li99, li100, li112, li119, li120, li122, li127, li128, li200, li201, li202, li203, li204, li205, li206, li207, li208, li209, li210, li211, li212, li213, li214, li215, li216, li217, li218, li219, li225, li255, li300, li301, li400, li512, li600, li999, li1000, li1600, li1000000, nI_add, pk_mul, Nat.add_right_cancel_iff, pk_sub, nI_leI, nI_ltI, nI_eq, nI_clamp, vin_iff, ne_m1, m1_ne, lt_m1, le_m1, m1_lt, m1_le, bI0, bI1, Nat.reduceAdd, Nat.reduceSub, Nat.reduceMul, forall_eq, gI_uI, gI_uJ, gI_sI, Nat.add_left_cancel_iff, Nat.reduceEqDiff, and_true, true_and, and_false, false_and, not_true_eq_false, not_false_eq_true, true_implies, false_implies, implies_true, if_true, if_false, ite_true, ite_false, reduceIte, Bool.true_eq_false, Bool.false_eq_true, Nat.reduceLT, Nat.reduceLeDiff, decide_true, decide_false]
    refine ⟨fun _ => h, fun _ => ⟨fun _ => h, fun _ => by omega⟩⟩
theorem r_write {v : Nat} (hR : RM st M) (h : ∀ st', FI P56 st st' → RM st' (fWrite v M) → Qv st') : wX12_write 54 (nI v) st Qv := by
  unfold wX12_write
  refine lp_inv (n := 9) (I := fun k s => ∃ u, s = (nI v, nI (9 - k), u) ∧ FI P56 st u ∧ RM u (fun j => if 49 - k < j ∧ j < 50 then M (j - 1) else M j)) ?_ ?_ ⟨st, rfl, FI.rf, hR.eq (fun k hk => by rw [if_neg (by omega)])⟩
  · rintro k s hk ⟨u, rfl, hF, hRu⟩ R hR2
    show wX12_write_L3 54 (nI v) R (nI v) (nI (9 - k)) u Qv
    unfold wX12_write_L3
    have e : gI u 56 (40 + (9 - k) - 1) = nI (M (40 + (9 - k) - 1)) := (hRu (40 + (9 - k) - 1) (by omega)).trans (congrArg nI (if_neg (by omega)))
    have e9 : nI (9 - k) + -nI 1 = nI (9 - (k + 1)) := by
      rw [show 9 - k = (9 - (k + 1)) + 1 from by omega]; exact pk_m1 _
    have a0 : ¬ 9 - k ≤ 0 := by omega
    simp (disch := omega) only [e, e9, a0, li0, li1, li2, li3, li4, li5, li6, li7, li8, li9, li10, li11, li12, li13, li14, li15, li16, li17, li18, li19, li20, li21, li22, li23, li24, li25, li26, li27, li28, li29, li30, li31, li32, li40, li48, li50, li57, li60, li97, li99, li100, li112, li119, li120, li122, li127, li128, li200, li201, li202, li203, li204, li205, li206, li207, li208, li209, li210, li211, li212, li213, li214, li215, li216, li217, li218, li219, li225, li255, li300, li301, li400, li512, li600, li999, li1000, li1600, li1000000, nI_add, pk_mul, Nat.add_right_cancel_iff, pk_sub, nI_leI, nI_ltI, nI_eq, nI_clamp, vin_iff, ne_m1, m1_ne, lt_m1, le_m1, m1_lt, m1_le, bI0, bI1, Nat.reduceAdd, Nat.reduceSub, Nat.reduceMul, forall_eq, gI_uI, gI_uJ, gI_sI, Nat.add_left_cancel_iff, Nat.reduceEqDiff, and_true, true_and, and_false, false_and, not_true_eq_false, not_false_eq_true, true_implies, false_implies, implies_true, if_true, if_false, ite_true, ite_false, reduceIte, Bool.true_eq_false, Bool.false_eq_true, Nat.reduceLT, Nat.reduceLeDiff, decide_true, decide_false]
    repeat refine ⟨by omega, ?_⟩
    refine hR2 _ ⟨_, rfl, hF.tr (FI.u rfl), (hRu.u (j := 40 + (9 - k)) (v := M (40 + (9 - k) - 1))).eq (fun j hj => ?_)⟩
    simp only [up_a]
    by_cases q : j = 40 + (9 - k)
    · rw [if_pos q, if_pos (by omega), q]
    · rw [if_neg q]
      by_cases q2 : 49 - k < j ∧ j < 50
      · rw [if_pos q2, if_pos (by omega)]
      · rw [if_neg q2, if_neg (by omega)]
  · rintro s ⟨u, rfl, hF, hRu⟩ R
    show wX12_write_L3 54 (nI v) R (nI v) (nI (9 - 9)) u Qv
    unfold wX12_write_L3
    have e6 : gI u 56 6 = nI (M 6) := (hRu 6 (by omega)).trans (congrArg nI (if_neg (by omega)))
    simp (disch := omega) only [e6, li0, li1, li2, li3, li4, li5, li6, li7, li8, li9, li10, li11, li12, li13, li14, li15, li16, li17, li18, li19, li20, li21, li22, li23, li24, li25, li26, li27, li28, li29, li30, li31, li32, li40, li48, li50, li57, li60, li97, li99, li100, li112, li119, li120, li122, li127, li128, li200, li201, li202, li203, li204, li205, li206, li207, li208, li209, li210, li211, li212, li213, li214, li215, li216, li217, li218, li219, li225, li255, li300, li301, li400, li512, li600, li999, li1000, li1600, li1000000, nI_add, pk_mul, Nat.add_right_cancel_iff, pk_sub, nI_leI, nI_ltI, nI_eq, nI_clamp, vin_iff, ne_m1, m1_ne, lt_m1, le_m1, m1_lt, m1_le, bI0, bI1, Nat.reduceAdd, Nat.reduceSub, Nat.reduceMul, forall_eq, gI_uI, gI_uJ, gI_sI, Nat.add_left_cancel_iff, Nat.reduceEqDiff, and_true, true_and, and_false, false_and, not_true_eq_false, not_false_eq_true, true_implies, false_implies, implies_true, if_true, if_false, ite_true, ite_false, reduceIte, Bool.true_eq_false, Bool.false_eq_true, Nat.reduceLT, Nat.reduceLeDiff, decide_true, decide_false]
    refine h _ ((hF.tr (FI.u rfl)).tr (FI.u rfl)) (((hRu.u (j := 40) (v := v)).u (j := 6) (v := M 6 + 1)).eq (fun j hj => ?_))
    unfold fWrite
    simp only [up_a]
    by_cases q6 : j = 6
    · subst q6; simp
    rw [if_neg q6]
    by_cases q40 : j = 40
    · rw [if_pos q40, if_pos q40]
    rw [if_neg q40, if_neg q40]
    by_cases q : 41 ≤ j ∧ j < 50
    · rw [if_pos q, if_pos (by omega)]
    · rw [if_neg q, if_neg (by omega), if_neg q6]
end RB4

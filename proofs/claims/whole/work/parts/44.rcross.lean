/-! the reference's bridge: minutes go by, a crossing -/
theorem bd_min {t v : Nat} (h : v < t) : Bd t 3 v := by unfold Bd; refine ⟨?_, ?_, ?_, ?_, ?_, ?_⟩ <;> intros <;> omega
theorem MB.by {pl : Nat} (hp : pl ≤ 12) : ∀ {f : Nat} {M : Nat → Nat}, MB 1000 M → M 3 < 120 * f → MB 120 (fBy pl f M).2 := by
  intro f
  induction f with
  | zero => intro M _ h; exact absurd h (by omega)
  | succ f ih =>
    intro M hM h
    unfold fBy
    split
    · next q => exact hM.mo q
    · next q =>
      refine ih ((hM.up (bd_min ?_) (by omega)).night hp) ?_
      · have := hM.mi; omega
      · rw [fNight_ne hp (by omega) (by omega) (by omega), up_a, if_pos rfl]; omega
theorem fBy_ne {pl j : Nat} (hp : pl ≤ 12) (hj : j < 16 ∨ 40 ≤ j) (h1 : j ≠ 1) (h2 : j ≠ 2) (h3 : j ≠ 3) : ∀ {f : Nat} {M : Nat → Nat}, (fBy pl f M).2 j = M j := by
  intro f
  induction f with
  | zero => intro M; rfl
  | succ f ih =>
    intro M
    unfold fBy
    split
    · rfl
    · exact ih.trans ((fNight_ne hp hj h1 h2).trans (by rw [up_a, if_neg h3]))
theorem MB.go {pl min : Nat} {M : Nat → Nat} (hp : pl ≤ 12) (hM : MB 120 M) (hm : min ≤ 720) : MB 120 (fGo pl min M).2 := by
  have h3 := hM.mi
  refine MB.by hp ((hM.mo (t2 := 1000) (by omega)).up (bd_min (by omega)) (by omega)) ?_
  rw [up_a, if_pos rfl]; omega
theorem fGo_ne {pl j min : Nat} {M : Nat → Nat} (hp : pl ≤ 12) (hj : j < 16 ∨ 40 ≤ j) (h1 : j ≠ 1) (h2 : j ≠ 2) (h3 : j ≠ 3) : (fGo pl min M).2 j = M j := by
  unfold fGo
  rw [fBy_ne hp hj h1 h2 h3, up_a, if_neg h3]
section RB3
variable {nw pl t : Nat} {wt mi : Nat → Nat} {M : Nat → Nat} {st : St} {Q : Int32 → St → Prop} {Qv : St → Prop}
theorem r_goBy {min : Nat} (hB : BB nw pl wt mi) (hM : MB 120 M) (hm : min ≤ 720) (hK : KB nw pl wt mi st) (hR : RM st M) (h : ∀ st', FI P56 st st' → RM st' (fGo pl min M).2 → Qv st') : wX12_goBy 54 (nI min) st Qv := by
  have hp := hB.2.1
  have h3 := hM.mi
  unfold wX12_goBy
  have e3 := hR 3 (by omega)
  simp (disch := omega) only [e3, li0, li1, li2, li3, li4, li5, li6, li7, li8, li9, li10, li11, li12, li13, li14, li15, li16, li17, li18, li19, li20, li21, li22, li23, li24, li25, li26, li27, li28, li29, li30, li31, li32, li40, li48, li50, li57, li60, li97, li99, li100, li112, li119, li120, li122, li127, li128, li200, li201, li202, li203, li204, li205, li206, li207, li208, li209, li210, li211, li212, li213, li214, li215, li216, li217, li218, li219, li225, li255, li300, li301, li400, li512, li600, li999, li1000, li1600, li1000000, nI_add, pk_mul, Nat.add_right_cancel_iff, pk_sub, nI_leI, nI_ltI, nI_eq, nI_clamp, vin_iff, ne_m1, m1_ne, lt_m1, le_m1, m1_lt, m1_le, bI0, bI1, Nat.reduceAdd, Nat.reduceSub, Nat.reduceMul, forall_eq, gI_uI, gI_uJ, gI_sI, Nat.add_left_cancel_iff, Nat.reduceEqDiff, and_true, true_and, and_false, false_and, not_true_eq_false, not_false_eq_true, true_implies, false_implies, implies_true, if_true, if_false, ite_true, ite_false, reduceIte, Bool.true_eq_false, Bool.false_eq_true, Nat.reduceLT, Nat.reduceLeDiff, decide_true, decide_false]
  have hF1 : FI P56 st (uI st 56 3 (nI (M 3 + min))) := FI.u rfl
  have hR1 : RM (uI st 56 3 (nI (M 3 + min))) (up M 3 (M 3 + min)) := hR.u
  have hM1 : MB 1000 (up M 3 (M 3 + min)) := (hM.mo (by omega)).up (bd_min (by omega)) (by omega)
  have hl1 : up M 3 (M 3 + min) 3 < 120 * 7 := by rw [up_a, if_pos rfl]; omega
  have key : ∀ (f : Nat) (M' : Nat → Nat) (u : St), MB 1000 M' → M' 3 < 120 * f → FI P56 st u → RM u M' → (∀ st', FI P56 st st' → RM st' (fBy pl f M').2 → Qv st') → lp (fun R s => wX12_goBy_L10 54 (nI min) R s Qv) f u := by
    intro f
    induction f with
    | zero => intro M' u _ h; exact absurd h (by omega)
    | succ f ih =>
      intro M' u hM' hl hF hRu hq
      show wX12_goBy_L10 54 (nI min) (lp (fun R s => wX12_goBy_L10 54 (nI min) R s Qv) f) u Qv
      generalize lp (fun R s => wX12_goBy_L10 54 (nI min) R s Qv) f = RR at ih ⊢
      unfold wX12_goBy_L10
      have e3 := hRu 3 (by omega)
      have b3 := hM'.mi
      unfold fBy at hq
      by_cases hc : M' 3 < 120
      · rw [if_pos hc] at hq
        simp (disch := omega) only [e3, hc, li0, li1, li2, li3, li4, li5, li6, li7, li8, li9, li10, li11, li12, li13, li14, li15, li16, li17, li18, li19, li20, li21, li22, li23, li24, li25, li26, li27, li28, li29, li30, li31, li32, li40, li48, li50, li57, li60, li97, li99, li100, li112, li119, li120, li122, li127, li128, li200, li201, li202, li203, li204, li205, li206, li207, li208, li209, li210, li211, li212, li213, li214, li215, li216, li217, li218, li219, li225, li255, li300, li301, li400, li512, li600, li999, li1000, li1600, li1000000, nI_add, pk_mul, Nat.add_right_cancel_iff, pk_sub, nI_leI, nI_ltI, nI_eq, nI_clamp, vin_iff, ne_m1, m1_ne, lt_m1, le_m1, m1_lt, m1_le, bI0, bI1, Nat.reduceAdd, Nat.reduceSub, Nat.reduceMul, forall_eq, gI_uI, gI_uJ, gI_sI, Nat.add_left_cancel_iff, Nat.reduceEqDiff, and_true, true_and, and_false, false_and, not_true_eq_false, not_false_eq_true, true_implies, false_implies, implies_true, if_true, if_false, ite_true, ite_false, reduceIte, Bool.true_eq_false, Bool.false_eq_true, Nat.reduceLT, Nat.reduceLeDiff, decide_true, decide_false]
        exact hq u hF hRu
      · rw [if_neg hc] at hq
        simp (disch := omega) only [e3, hc, li0, li1, li2, li3, li4, li5, li6, li7, li8, li9, li10, li11, li12, li13, li14, li15, li16, li17, li18, li19, li20, li21, li22, li23, li24, li25, li26, li27, li28, li29, li30, li31, li32, li40, li48, li50, li57, li60, li97, li99, li100, li112, li119, li120, li122, li127, li128, li200, li201, li202, li203, li204, li205, li206, li207, li208, li209, li210, li211, li212, li213, li214, li215, li216, li217, li218, li219, li225, li255, li300, li301, li400, li512, li600, li999, li1000, li1600, li1000000, nI_add, pk_mul, Nat.add_right_cancel_iff, pk_sub, nI_leI, nI_ltI, nI_eq, nI_clamp, vin_iff, ne_m1, m1_ne, lt_m1, le_m1, m1_lt, m1_le, bI0, bI1, Nat.reduceAdd, Nat.reduceSub, Nat.reduceMul, forall_eq, gI_uI, gI_uJ, gI_sI, Nat.add_left_cancel_iff, Nat.reduceEqDiff, and_true, true_and, and_false, false_and, not_true_eq_false, not_false_eq_true, true_implies, false_implies, implies_true, if_true, if_false, ite_true, ite_false, reduceIte, Bool.true_eq_false, Bool.false_eq_true, Nat.reduceLT, Nat.reduceLeDiff, decide_true, decide_false]
        have hRn : RM (uI u 56 3 (nI (M' 3 - 120))) (up M' 3 (M' 3 - 120)) := hRu.u
        have hMn : MB 1000 (up M' 3 (M' 3 - 120)) := hM'.up (bd_min (by omega)) (by omega)
        refine r_nightOn hB hMn ((hK.p hF).p (FI.u rfl)) hRn (fun u2 hF2 hR2 => ?_)
        refine ih _ u2 (hMn.night hp) ?_ ((hF.tr (FI.u rfl)).tr hF2) hR2 hq
        rw [fNight_ne hp (by omega) (by omega) (by omega), up_a, if_pos rfl]; omega
  exact ⟨7, key 7 _ _ hM1 hl1 hF1 hR1 h⟩
/-- one walker, or two -/
def OK2 (nw one : Nat) (other : Option Nat) : Prop := one < nw ∧ ∀ o, other = some o → o < nw ∧ o ≠ one
theorem fTakes_le {nw pl one : Nat} {wt mi : Nat → Nat} {other : Option Nat} (hB : BB nw pl wt mi) : fTakes mi one other ≤ 20 := by
  have h1 := (hB.2.2 one).2
  cases other with
  | none => exact h1
  | some o => have h2 := (hB.2.2 o).2; unfold fTakes; simp only; split <;> omega
theorem fLoad_le {nw pl one : Nat} {wt mi : Nat → Nat} {other : Option Nat} (hB : BB nw pl wt mi) : fLoad wt one other ≤ 18 := by
  have h1 := (hB.2.2 one).1
  cases other with
  | none => unfold fLoad; simp only; omega
  | some o => have h2 := (hB.2.2 o).1; unfold fLoad; simp only; omega
theorem r_takes {one : Nat} {other : Option Nat} (hB : BB nw pl wt mi) (hK : KB nw pl wt mi st) (hO : OK2 nw one other) (h : Q (nI (fTakes mi one other)) st) : wX12_takes 54 (nI one) (oI other) st Q := by
  unfold wX12_takes
  have h8 := hB.1
  have h1 := hO.1
  have e1 := hK.2.2.2 one hO.1
  have b1 := (hB.2.2 one).2
  cases other with
  | none =>
    simp (disch := omega) only [oI_none, e1, li0, li1, li2, li3, li4, li5, li6, li7, li8, li9, li10, li11, li12, li13, li14, li15, li16, li17, li18, li19, li20, li21, li22, li23, li24, li25, li26, li27, li28, li29, li30, li31, li32, li40, li48, li50, li57, li60, li97, li99, li100, li112, li119, li120, li122, li127, li128, li200, li201, li202, li203, li204, li205, li206, li207, li208, li209, li210, li211, li212, li213, li214, li215, li216, li217, li218, li219, li225, li255, li300, li301, li400, li512, li600, li999, li1000, li1600, li1000000, nI_add, pk_mul, Nat.add_right_cancel_iff, pk_sub, nI_leI, nI_ltI, nI_eq, nI_clamp, vin_iff, ne_m1, m1_ne, lt_m1, le_m1, m1_lt, m1_le, bI0, bI1, Nat.reduceAdd, Nat.reduceSub, Nat.reduceMul, forall_eq, gI_uI, gI_uJ, gI_sI, Nat.add_left_cancel_iff, Nat.reduceEqDiff, and_true, true_and, and_false, false_and, not_true_eq_false, not_false_eq_true, true_implies, false_implies, implies_true, if_true, if_false, ite_true, ite_false, reduceIte, Bool.true_eq_false, Bool.false_eq_true, Nat.reduceLT, Nat.reduceLeDiff, decide_true, decide_false]
    exact ⟨by omega, h⟩
  | some o =>
    have ho := hO.2 o rfl
    have e2 := hK.2.2.2 o ho.1
    have b2 := (hB.2.2 o).2
    unfold fTakes at h
    simp only at h
    simp (disch := omega) only [oI_some, e1, e2, li0, li1, li2, li3, li4, li5, li6, li7, li8, li9, li10, li11, li12, li13, li14, li15, li16, li17, li18, li19, li20, li21, li22, li23, li24, li25, li26, li27, li28, li29, li30, li31, li32, li40, li48, li50, li57, li60, li97, li99, li100, li112, li119, li120, li122, li127, li128, li200, li201, li202, li203, li204, li205, li206, li207, li208, li209, li210, li211, li212, li213, li214, li215, li216, li217, li218, li219, li225, li255, li300, li301, li400, li512, li600, li999, li1000, li1600, li1000000, nI_add, pk_mul, Nat.add_right_cancel_iff, pk_sub, nI_leI, nI_ltI, nI_eq, nI_clamp, vin_iff, ne_m1, m1_ne, lt_m1, le_m1, m1_lt, m1_le, bI0, bI1, Nat.reduceAdd, Nat.reduceSub, Nat.reduceMul, forall_eq, gI_uI, gI_uJ, gI_sI, Nat.add_left_cancel_iff, Nat.reduceEqDiff, and_true, true_and, and_false, false_and, not_true_eq_false, not_false_eq_true, true_implies, false_implies, implies_true, if_true, if_false, ite_true, ite_false, reduceIte, Bool.true_eq_false, Bool.false_eq_true, Nat.reduceLT, Nat.reduceLeDiff, decide_true, decide_false]
    refine ⟨by omega, by omega, ?_⟩
    split at h
    · next q => rw [if_pos q]; exact h
    · next q => rw [if_neg q]; exact h
theorem r_isThere {x : Option Nat} (hM : MB t M) (hR : RM st M) (hx : ∀ o, x = some o → o < 8) (h : Q (bI (fThere M x)) st) : wX12_isThere 54 (oI x) st Q := by
  unfold wX12_isThere wX12_isThere_L23
  cases x with
  | none => 
    simp (disch := omega) only [oI_none, li0, li1, li2, li3, li4, li5, li6, li7, li8, li9, li10, li11, li12, li13, li14, li15, li16, li17, li18, li19, li20, li21, li22, li23, li24, li25, li26, li27, li28, li29, li30, li31, li32, li40, li48, li50, li57, li60, li97, li99, li100, li112, li119, li120, li122, li127, li128, li200, li201, li202, li203, li204, li205, li206, li207, li208, li209, li210, li211, li212, li213, li214, li215, li216, li217, li218, li219, li225, li255, li300, li301, li400, li512, li600, li999, li1000, li1600, li1000000, nI_add, pk_mul, Nat.add_right_cancel_iff, pk_sub, nI_leI, nI_ltI, nI_eq, nI_clamp, vin_iff, ne_m1, m1_ne, lt_m1, le_m1, m1_lt, m1_le, bI0, bI1, Nat.reduceAdd, Nat.reduceSub, Nat.reduceMul, forall_eq, gI_uI, gI_uJ, gI_sI, Nat.add_left_cancel_iff, Nat.reduceEqDiff, and_true, true_and, and_false, false_and, not_true_eq_false, not_false_eq_true, true_implies, false_implies, implies_true, if_true, if_false, ite_true, ite_false, reduceIte, Bool.true_eq_false, Bool.false_eq_true, Nat.reduceLT, Nat.reduceLeDiff, decide_true, decide_false]
    exact h
  | some o =>
    have ho := hx o rfl
    have e1 := hR (8 + o) (by omega)
    have e2 := hR 0 (by omega)
    have b1 := hM.si ho
    have b2 := hM.la
    simp (disch := omega) only [oI_some, e1, e2, li0, li1, li2, li3, li4, li5, li6, li7, li8, li9, li10, li11, li12, li13, li14, li15, li16, li17, li18, li19, li20, li21, li22, li23, li24, li25, li26, li27, li28, li29, li30, li31, li32, li40, li48, li50, li57, li60, li97, li99, li100, li112, li119, li120, li122, li127, li128, li200, li201, li202, li203, li204, li205, li206, li207, li208, li209, li210, li211, li212, li213, li214, li215, li216, li217, li218, li219, li225, li255, li300, li301, li400, li512, li600, li999, li1000, li1600, li1000000, nI_add, pk_mul, Nat.add_right_cancel_iff, pk_sub, nI_leI, nI_ltI, nI_eq, nI_clamp, vin_iff, ne_m1, m1_ne, lt_m1, le_m1, m1_lt, m1_le, bI0, bI1, Nat.reduceAdd, Nat.reduceSub, Nat.reduceMul, forall_eq, gI_uI, gI_uJ, gI_sI, Nat.add_left_cancel_iff, Nat.reduceEqDiff, and_true, true_and, and_false, false_and, not_true_eq_false, not_false_eq_true, true_implies, false_implies, implies_true, if_true, if_false, ite_true, ite_false, reduceIte, Bool.true_eq_false, Bool.false_eq_true, Nat.reduceLT, Nat.reduceLeDiff, decide_true, decide_false]
    unfold fThere at h
    simp only at h
    refine ⟨by omega, fun q => ?_, fun q => ?_⟩
    · rw [decide_eq_false q] at h; exact h
    · rw [decide_eq_true q] at h; exact h
theorem r_canCross {one : Nat} {other : Option Nat} (hB : BB nw pl wt mi) (hM : MB 120 M) (hK : KB nw pl wt mi st) (hR : RM st M) (hO : OK2 nw one other) (h : Q (bI (fCan pl mi one other M)) st) : wX12_canCross 54 (nI one) (oI other) st Q := by
  unfold wX12_canCross
  have h8 := hB.1
  have h1 := hO.1
  refine r_takes hB hK hO ?_
  refine r_isThere (x := some one) hM hR (fun o e => by cases e; omega) ?_
  have e1 := hR 1 (by omega)
  have e3 := hR 3 (by omega)
  have b1 := hM.oi
  have b3 := hM.mi
  have bt := fTakes_le (one := one) (other := other) hB
  unfold fCan at h
  refine ⟨fun q => ?_, fun q => ?_⟩
  · rw [bI0.mp q] at h; exact h
  have q := (Bool.not_eq_false _).mp (fun e => q (bI0.mpr e))
  rw [q, Bool.true_and] at h
  refine r_isThere hM hR (fun o e => Nat.lt_of_lt_of_le (hO.2 o e).1 h8) ?_
  refine ⟨fun q => ?_, fun q => ?_⟩
  · rw [bI0.mp q] at h; exact h
  have q := (Bool.not_eq_false _).mp (fun e => q (bI0.mpr e))
  rw [q, Bool.true_and] at h
  refine r_canPass hB hM hK hR ?_
  refine ⟨fun q => ?_, fun q => ?_⟩
  · rw [bI0.mp q] at h; exact h
  have q := (Bool.not_eq_false _).mp (fun e => q (bI0.mpr e))
  rw [q, Bool.true_and] at h
  simp (disch := omega) only [e1, e3, li0, li1, li2, li3, li4, li5, li6, li7, li8, li9, li10, li11, li12, li13, li14, li15, li16, li17, li18, li19, li20, li21, li22, li23, li24, li25, li26, li27, li28, li29, li30, li31, li32, li40, li48, li50, li57, li60, li97, li99, li100, li112, li119, li120, li122, li127, li128, li200, li201, li202, li203, li204, li205, li206, li207, li208, li209, li210, li211, li212, li213, li214, li215, li216, li217, li218, li219, li225, li255, li300, li301, li400, li512, li600, li999, li1000, li1600, li1000000, nI_add, pk_mul, Nat.add_right_cancel_iff, pk_sub, nI_leI, nI_ltI, nI_eq, nI_clamp, vin_iff, ne_m1, m1_ne, lt_m1, le_m1, m1_lt, m1_le, bI0, bI1, Nat.reduceAdd, Nat.reduceSub, Nat.reduceMul, forall_eq, gI_uI, gI_uJ, gI_sI, Nat.add_left_cancel_iff, Nat.reduceEqDiff, and_true, true_and, and_false, false_and, not_true_eq_false, not_false_eq_true, true_implies, false_implies, implies_true, if_true, if_false, ite_true, ite_false, reduceIte, Bool.true_eq_false, Bool.false_eq_true, Nat.reduceLT, Nat.reduceLeDiff, decide_true, decide_false]
  refine ⟨fun q => ?_, fun q => ⟨fun q2 => ?_, fun q2 => ?_⟩⟩
  · rw [decide_eq_false (by omega)] at h; exact h
  · rw [decide_eq_true (by omega), decide_eq_false (by omega)] at h; exact h
  · rw [decide_eq_true (by omega), decide_eq_true (by omega)] at h; exact h
theorem fPl_lt {pl i : Nat} (h : i < pl) : fPl M pl i < pl := by unfold fPl; split <;> omega
theorem fBear_le (hM : MB t M) {k : Nat} (hk : k < 12) : fBear M k ≤ 30 := by
  have := hM.st hk
  unfold fBear
  split <;> omega
theorem MB.step1 {w k : Nat} (hM : MB t M) (hk : k < 12) : MB t (fStep1 w k M) := by
  have b1 := hM.st hk
  have b2 := hM.ro hk
  unfold fStep1
  split
  · exact hM.sr hk (by omega) (by omega) (by omega)
  · split
    · exact hM.sr hk (by split <;> omega) b2 (fun _ => by split <;> omega)
    · exact hM
theorem fStep1_ne {w k j : Nat} (hk : k < 12) (hj : j < 16 ∨ 40 ≤ j) : fStep1 w k M j = M j := by
  unfold fStep1
  split
  · exact sru_ne hj hk
  · split
    · exact sru_ne hj hk
    · rfl
theorem MB.steps {w : Nat} (hp : pl ≤ 12) : ∀ {r : Nat} {was : Bool} {M : Nat → Nat}, MB t M → r ≤ pl → MB t (fSteps w pl r was M).2 := by
  intro r
  induction r with
  | zero => intro was M h _; exact h
  | succ r ih =>
    intro was M h hr
    have hk := fPl_lt (M := M) (pl := pl) (i := pl - (r + 1)) (by omega)
    unfold fSteps
    split
    · exact h.step1 (by omega)
    · exact ih (h.step1 (by omega)) (by omega)
theorem fSteps_ne {w j : Nat} (hp : pl ≤ 12) (hj : j < 16 ∨ 40 ≤ j) : ∀ {r : Nat} {was : Bool} {M : Nat → Nat}, r ≤ pl → (fSteps w pl r was M).2 j = M j := by
  intro r
  induction r with
  | zero => intro was M _; rfl
  | succ r ih =>
    intro was M hr
    have hk := fPl_lt (M := M) (pl := pl) (i := pl - (r + 1)) (by omega)
    unfold fSteps
    split
    · exact fStep1_ne (by omega) hj
    · exact (ih (by omega)).trans (fStep1_ne (by omega) hj)
theorem r_step39 {w i k : Nat} {was : Bool} {R : Int32 × Int32 × Int32 × St → Prop} {p : Int32} (hM : MB t M) (hK : KB nw pl wt mi st) (hR : RM st M) (hi : i < 12) (hw : w ≤ 18)
    (h : ∀ st', FI P56 st st' → RM st' (fStep1 w i M) → ((decide (fStep1 w i M (16 + i) = 0) && was) = true → Q (nI 0) st') ∧ (¬ (decide (fStep1 w i M (16 + i) = 0) && was) = true → R (nI w, bI (decide (fStep1 w i M (16 + i) = 0)), nI (k + 1), st'))) : wX12_steps_L39 54 p R (nI w) (bI was) (nI k) (nI i) st Q := by
  unfold wX12_steps_L39
  refine r_bear hM hR hi ?_
  have e16 := hR (16 + i) (by omega)
  have e28 := hR (28 + i) (by omega)
  have b1 := hM.st hi
  have b2 := hM.ro hi
  have b3 := fBear_le hM hi
  have tail : ∀ st', FI P56 st st' → RM st' (fStep1 w i M) → ∀ v2 : Int32, v2 = bI was → wX12_steps_L140 54 p R (nI w) v2 (nI k) (nI i) st' Q := by
    rintro st' hF hR' v2 rfl
    unfold wX12_steps_L140 wX12_steps_L158 wX12_steps_L171
    have f16 := hR' (16 + i) (by omega)
    have c1 := (hM.step1 (w := w) hi).st hi
    have hh := h st' hF hR'
    simp (disch := omega) only [f16, li0, li1, li2, li3, li4, li5, li6, li7, li8, li9, li10, li11, li12, li13, li14, li15, li16, li17, li18, li19, li20, li21, li22, li23, li24, li25, li26, li27, li28, li29, li30, li31, li32, li40, li48, li50, li57, li60, li97, li99, li100, li112, li119, li120, li122, li127, li128, li200, li201, li202, li203, li204, li205, li206, li207, li208, li209, li210, li211, li212, li213, li214, li215, li216, li217, li218, li219, li225, li255, li300, li301, li400, li512, li600, li999, li1000, li1600, li1000000, nI_add, pk_mul, Nat.add_right_cancel_iff, pk_sub, nI_leI, nI_ltI, nI_eq, nI_clamp, vin_iff, ne_m1, m1_ne, lt_m1, le_m1, m1_lt, m1_le, bI0, bI1, Nat.reduceAdd, Nat.reduceSub, Nat.reduceMul, forall_eq, gI_uI, gI_uJ, gI_sI, Nat.add_left_cancel_iff, Nat.reduceEqDiff, and_true, true_and, and_false, false_and, not_true_eq_false, not_false_eq_true, true_implies, false_implies, implies_true, if_true, if_false, ite_true, ite_false, reduceIte, Bool.true_eq_false, Bool.false_eq_true, Nat.reduceLT, Nat.reduceLeDiff, decide_true, decide_false]
    refine ⟨by omega, fun q => ?_, fun q => ?_⟩
    · have := hh.2 (by simp [q])
      rw [decide_eq_false q] at this
      exact this
    · refine ⟨fun q2 => ?_, fun q2 => ?_⟩
      · have := hh.2 (by simp [q2])
        rw [decide_eq_true q] at this
        exact this
      · exact hh.1 (by simp [q, q2])
  unfold fStep1 at tail
  unfold wX12_steps_L93
  simp (disch := omega) only [e16, e28, li0, li1, li2, li3, li4, li5, li6, li7, li8, li9, li10, li11, li12, li13, li14, li15, li16, li17, li18, li19, li20, li21, li22, li23, li24, li25, li26, li27, li28, li29, li30, li31, li32, li40, li48, li50, li57, li60, li97, li99, li100, li112, li119, li120, li122, li127, li128, li200, li201, li202, li203, li204, li205, li206, li207, li208, li209, li210, li211, li212, li213, li214, li215, li216, li217, li218, li219, li225, li255, li300, li301, li400, li512, li600, li999, li1000, li1600, li1000000, nI_add, pk_mul, Nat.add_right_cancel_iff, pk_sub, nI_leI, nI_ltI, nI_eq, nI_clamp, vin_iff, ne_m1, m1_ne, lt_m1, le_m1, m1_lt, m1_le, bI0, bI1, Nat.reduceAdd, Nat.reduceSub, Nat.reduceMul, forall_eq, gI_uI, gI_uJ, gI_sI, Nat.add_left_cancel_iff, Nat.reduceEqDiff, and_true, true_and, and_false, false_and, not_true_eq_false, not_false_eq_true, true_implies, false_implies, implies_true, if_true, if_false, ite_true, ite_false, reduceIte, Bool.true_eq_false, Bool.false_eq_true, Nat.reduceLT, Nat.reduceLeDiff, decide_true, decide_false]
  refine ⟨by omega, fun q => ?_, fun q => ?_⟩
  · rw [if_neg (by omega), if_neg (by omega)] at tail
    refine ⟨by omega, ?_⟩
    have h0 : ¬ ¬ M (16 + i) ≤ 0 := by omega
    simp (disch := omega) only [h0, q, li0, li1, li2, li3, li4, li5, li6, li7, li8, li9, li10, li11, li12, li13, li14, li15, li16, li17, li18, li19, li20, li21, li22, li23, li24, li25, li26, li27, li28, li29, li30, li31, li32, li40, li48, li50, li57, li60, li97, li99, li100, li112, li119, li120, li122, li127, li128, li200, li201, li202, li203, li204, li205, li206, li207, li208, li209, li210, li211, li212, li213, li214, li215, li216, li217, li218, li219, li225, li255, li300, li301, li400, li512, li600, li999, li1000, li1600, li1000000, nI_add, pk_mul, Nat.add_right_cancel_iff, pk_sub, nI_leI, nI_ltI, nI_eq, nI_clamp, vin_iff, ne_m1, m1_ne, lt_m1, le_m1, m1_lt, m1_le, bI0, bI1, Nat.reduceAdd, Nat.reduceSub, Nat.reduceMul, forall_eq, gI_uI, gI_uJ, gI_sI, Nat.add_left_cancel_iff, Nat.reduceEqDiff, and_true, true_and, and_false, false_and, not_true_eq_false, not_false_eq_true, true_implies, false_implies, implies_true, if_true, if_false, ite_true, ite_false, reduceIte, Bool.true_eq_false, Bool.false_eq_true, Nat.reduceLT, Nat.reduceLeDiff, decide_true, decide_false]
    exact tail st FI.rf hR _ rfl
  · refine ⟨fun q2 => ?_, fun q2 => ?_⟩
    · rw [if_neg (by omega)] at tail
      refine ⟨by omega, fun q3 => absurd q3 (by omega), fun _ => ⟨fun q4 => ?_, fun q4 => ?_⟩⟩
      · rw [if_neg (by omega)] at tail
        exact tail st FI.rf hR _ rfl
      · rw [if_pos (by omega)] at tail
        repeat refine ⟨by omega, ?_⟩
        have hx : (if nI 1 < nI (M (16 + i) - 1) then nI (M (16 + i) - 1) else nI 1) = nI (if 1 < M (16 + i) - 1 then M (16 + i) - 1 else 1) := by
          by_cases q5 : 1 < M (16 + i) - 1
          · rw [if_pos ((nI_ltI (by omega) (by omega)).mpr q5), if_pos q5]
          · rw [if_neg (fun q6 => q5 ((nI_ltI (by omega) (by omega)).mp q6)), if_neg q5]
        have hm : nI (M (16 + i)) - nI 1 = nI (M (16 + i) - 1) := pk_sub (by omega)
        rw [hm, hx]
        exact tail _ (FI.u rfl) hR.s1 _ rfl
    · rw [if_pos (by omega)] at tail
      repeat refine ⟨by omega, ?_⟩
      exact tail _ ((FI.u (P := P56) rfl).tr (FI.u rfl)) hR.sr _ rfl
theorem r_steps {w : Nat} (hB : BB nw pl wt mi) (hM : MB t M) (hK : KB nw pl wt mi st) (hR : RM st M) (hw : w ≤ 18) (h : ∀ st', FI P56 st st' → RM st' (fSteps w pl pl false M).2 → Q (bI (fSteps w pl pl false M).1) st') : wX12_steps 54 (nI w) st Q := by
  unfold wX12_steps
  have hp := hB.2.1
  obtain ⟨z, hz⟩ : ∃ z, z = fSteps w pl pl false M := ⟨_, rfl⟩
  rw [← hz] at h
  refine lp_inv (n := pl) (I := fun k s => ∃ u was M', s = (nI w, bI was, nI k, u) ∧ FI P56 st u ∧ RM u M' ∧ MB t M' ∧ fSteps w pl (pl - k) was M' = z) ?_ ?_ ⟨st, false, M, rfl, FI.rf, hR, hM, hz.symm⟩
  · rintro k s hk ⟨u, was, M', rfl, hF, hRu, hMu, he⟩ R hR2
    show wX12_steps_L4 54 (nI w) R (nI w) (bI was) (nI k) u Q
    unfold wX12_steps_L4
    have hKu := hK.p hF
    have e0 := hRu 0 (by omega)
    have b0 := hMu.la
    have hk2 := fPl_lt (M := M') (pl := pl) (i := k) hk
    rw [show pl - k = (pl - k - 1) + 1 from by omega] at he
    unfold fSteps at he
    rw [show pl - (pl - k - 1 + 1) = k from by omega] at he
    have main : wX12_steps_L39 54 (nI w) R (nI w) (bI was) (nI k) (nI (fPl M' pl k)) u Q := by
      refine r_step39 hMu hKu hRu (by omega) hw (fun st' hF' hR' => ⟨fun q => ?_, fun q => ?_⟩)
      · rw [if_pos q] at he
        have := h st' (hF.tr hF')
        rw [← he] at this
        exact this hR'
      · rw [if_neg q] at he
        exact hR2 _ ⟨st', _, _, rfl, hF.tr hF', hR', hMu.step1 (by omega), by rw [show pl - (k + 1) = pl - k - 1 from by omega]; exact he⟩
    unfold fPl at main
    simp (disch := omega) only [hKu.2.1, e0, li0, li1, li2, li3, li4, li5, li6, li7, li8, li9, li10, li11, li12, li13, li14, li15, li16, li17, li18, li19, li20, li21, li22, li23, li24, li25, li26, li27, li28, li29, li30, li31, li32, li40, li48, li50, li57, li60, li97, li99, li100, li112, li119, li120, li122, li127, li128, li200, li201, li202, li203, li204, li205, li206, li207, li208, li209, li210, li211, li212, li213, li214, li215, li216, li217, li218, li219, li225, li255, li300, li301, li400, li512, li600, li999, li1000, li1600, li1000000, nI_add, pk_mul, Nat.add_right_cancel_iff, pk_sub, nI_leI, nI_ltI, nI_eq, nI_clamp, vin_iff, ne_m1, m1_ne, lt_m1, le_m1, m1_lt, m1_le, bI0, bI1, Nat.reduceAdd, Nat.reduceSub, Nat.reduceMul, forall_eq, gI_uI, gI_uJ, gI_sI, Nat.add_left_cancel_iff, Nat.reduceEqDiff, and_true, true_and, and_false, false_and, not_true_eq_false, not_false_eq_true, true_implies, false_implies, implies_true, if_true, if_false, ite_true, ite_false, reduceIte, Bool.true_eq_false, Bool.false_eq_true, Nat.reduceLT, Nat.reduceLeDiff, decide_true, decide_false]
    refine ⟨fun q => absurd q (by omega), fun _ => ⟨fun q => ?_, fun q => ?_⟩⟩
    · rw [if_neg q] at main; exact main
    · rw [if_pos q] at main; exact main
  · rintro s ⟨u, was, M', rfl, hF, hRu, hMu, he⟩ R
    show wX12_steps_L4 54 (nI w) R (nI w) (bI was) (nI pl) u Q
    unfold wX12_steps_L4
    have hKu := hK.p hF
    rw [Nat.sub_self] at he
    unfold fSteps at he
    have := h u hF
    rw [← he] at this
    simp (disch := omega) only [hKu.2.1, li0, li1, li2, li3, li4, li5, li6, li7, li8, li9, li10, li11, li12, li13, li14, li15, li16, li17, li18, li19, li20, li21, li22, li23, li24, li25, li26, li27, li28, li29, li30, li31, li32, li40, li48, li50, li57, li60, li97, li99, li100, li112, li119, li120, li122, li127, li128, li200, li201, li202, li203, li204, li205, li206, li207, li208, li209, li210, li211, li212, li213, li214, li215, li216, li217, li218, li219, li225, li255, li300, li301, li400, li512, li600, li999, li1000, li1600, li1000000, nI_add, pk_mul, Nat.add_right_cancel_iff, pk_sub, nI_leI, nI_ltI, nI_eq, nI_clamp, vin_iff, ne_m1, m1_ne, lt_m1, le_m1, m1_lt, m1_le, bI0, bI1, Nat.reduceAdd, Nat.reduceSub, Nat.reduceMul, forall_eq, gI_uI, gI_uJ, gI_sI, Nat.add_left_cancel_iff, Nat.reduceEqDiff, and_true, true_and, and_false, false_and, not_true_eq_false, not_false_eq_true, true_implies, false_implies, implies_true, if_true, if_false, ite_true, ite_false, reduceIte, Bool.true_eq_false, Bool.false_eq_true, Nat.reduceLT, Nat.reduceLeDiff, decide_true, decide_false]
    exact ⟨fun _ => this hRu, fun q => absurd (Nat.le_refl _) q⟩
end RB3

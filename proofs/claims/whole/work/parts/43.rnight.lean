/-! the reference's bridge, on: the night, the crossing -/
theorem RM.sr {st : St} {M : Nat → Nat} (h : RM st M) {k s r : Nat} : RM (uI (uI st 56 (16 + k) (nI s)) 56 (28 + k) (nI r)) (sru M k s r) := fun j hj => by
  rw [gI_uI, gI_uI]
  unfold sru
  by_cases e : j = 28 + k
  · rw [if_pos ⟨rfl, e⟩, if_pos e]
  · rw [if_neg (fun q => e q.2), if_neg e]
    by_cases e2 : j = 16 + k
    · rw [if_pos ⟨rfl, e2⟩, if_pos e2]
    · rw [if_neg (fun q => e2 q.2), if_neg e2]; exact h j hj
theorem RM.s1 {st : St} {M : Nat → Nat} (h : RM st M) {k s : Nat} : RM (uI st 56 (16 + k) (nI s)) (sru M k s (M (28 + k))) := fun j hj => by
  rw [gI_uI]
  unfold sru
  by_cases e2 : j = 16 + k
  · rw [if_pos ⟨rfl, e2⟩, if_neg (by omega), if_pos e2]
  · rw [if_neg (fun q => e2 q.2)]
    by_cases e : j = 28 + k
    · rw [if_pos e, ← e]; exact h j hj
    · rw [if_neg e, if_neg e2]; exact h j hj
theorem RM.r1 {st : St} {M : Nat → Nat} (h : RM st M) {k r : Nat} : RM (uI st 56 (28 + k) (nI r)) (sru M k (M (16 + k)) r) := fun j hj => by
  rw [gI_uI]
  unfold sru
  by_cases e2 : j = 28 + k
  · rw [if_pos ⟨rfl, e2⟩, if_pos e2]
  · rw [if_neg (fun q => e2 q.2), if_neg e2]
    by_cases e : j = 16 + k
    · rw [if_pos e, ← e]; exact h j hj
    · rw [if_neg e]; exact h j hj
theorem sru_st {M : Nat → Nat} {k s r : Nat} : sru M k s r (16 + k) = s := by unfold sru; rw [if_neg (by omega), if_pos rfl]
theorem sru_ro {M : Nat → Nat} {k s r : Nat} : sru M k s r (28 + k) = r := by unfold sru; rw [if_pos rfl]
theorem sru_ne {M : Nat → Nat} {k s r j : Nat} (h : j < 16 ∨ 40 ≤ j) (hk : k < 12) : sru M k s r j = M j := by unfold sru; rw [if_neg (by omega), if_neg (by omega)]
theorem MB.rot1 {t k : Nat} {M : Nat → Nat} (h : MB t M) (hk : k < 12) : MB t (fRot1 k M) := by
  unfold fRot1
  split
  · exact h
  · next q =>
    have b1 := h.st hk
    have b2 := h.ro hk
    have b3 := h.2 k hk (by omega)
    refine h.sr hk (by omega) (by split <;> omega) (fun e => ?_)
    split at e <;> omega
theorem fRot1_ne {k j : Nat} {M : Nat → Nat} (hk : k < 12) (hj : j < 16 ∨ 40 ≤ j) : fRot1 k M j = M j := by
  unfold fRot1
  split
  · rfl
  · exact sru_ne hj hk
theorem MB.rot {t : Nat} {M : Nat → Nat} (h : MB t M) : ∀ {k : Nat}, k ≤ 12 → MB t (fRot M k) := by
  intro k
  induction k with
  | zero => exact fun _ => h
  | succ k ih => exact fun hk => (ih (by omega)).rot1 (by omega)
theorem fRot_ne {M : Nat → Nat} {j : Nat} (hj : j < 16 ∨ 40 ≤ j) : ∀ {k : Nat}, k ≤ 12 → fRot M k j = M j := by
  intro k
  induction k with
  | zero => exact fun _ => rfl
  | succ k ih => exact fun hk => (fRot1_ne (by omega) hj).trans (ih (by omega))
theorem fWst_pos {M : Nat → Nat} {snd : Bool} : ∀ {k j : Nat}, fWst M snd k = some j → M (16 + j) ≠ 0 := by
  intro k
  induction k with
  | zero => intro j h; cases h
  | succ k ih =>
    intro j h
    unfold fWst at h
    split at h
    · exact ih h
    · next q =>
      split at h
      · cases h; exact fun e => q (Or.inl e)
      · next i hi =>
        have := ih hi
        split at h <;> cases h
        · exact fun e => q (Or.inl e)
        · exact this
theorem MB.mark {t pl : Nat} {M : Nat → Nat} (h : MB t M) (hp : pl ≤ 12) : MB t (fMark M pl) := by
  unfold fMark
  split
  · split
    · exact h
    · next w hw =>
      have := fWst_lt pl hw
      have h2 := fWst_pos hw
      exact h.sr (by omega) (h.st (by omega)) (by omega) (fun _ => by omega)
  · exact h
theorem fMark_ne {M : Nat → Nat} {pl j : Nat} (hp : pl ≤ 12) (hj : j < 16 ∨ 40 ≤ j) : fMark M pl j = M j := by
  unfold fMark
  split
  · cases hw : fWst M true pl with
    | none => rfl
    | some w =>
      have := fWst_lt pl hw
      exact sru_ne hj (by omega)
  · rfl
theorem MB.night {t pl : Nat} {M : Nat → Nat} (h : MB t M) (hp : pl ≤ 12) : MB t (fNight pl M) := by
  unfold fNight
  refine (MB.rot ?_ hp).mark hp
  refine (h.up ?_ (by omega)).up ?_ (by omega)
  · unfold Bd; refine ⟨?_, ?_, ?_, ?_, ?_, ?_⟩ <;> intros <;> omega
  · unfold Bd; refine ⟨?_, ?_, ?_, ?_, ?_, ?_⟩ <;> intros <;> omega
theorem fNight_ne {pl j : Nat} {M : Nat → Nat} (hp : pl ≤ 12) (hj : j < 16 ∨ 40 ≤ j) (h1 : j ≠ 1) (h2 : j ≠ 2) : fNight pl M j = M j := by
  unfold fNight
  rw [fMark_ne hp hj, fRot_ne hj hp, up_a, if_neg h1, up_a, if_neg h2]
section RB2
variable {nw pl t : Nat} {wt mi : Nat → Nat} {M : Nat → Nat} {st : St} {Q : Int32 → St → Prop} {Qv : St → Prop}
theorem r_nightOn (hB : BB nw pl wt mi) (hM : MB t M) (hK : KB nw pl wt mi st) (hR : RM st M) (h : ∀ st', FI P56 st st' → RM st' (fNight pl M) → Qv st') : wX12_nightOn 54 st Qv := by
  have hp := hB.2.1
  unfold wX12_nightOn
  have e2 := hR 2 (by omega)
  simp (disch := omega) only [e2, li0, li1, li2, li3, li4, li5, li6, li7, li8, li9, li10, li11, li12, li13, li14, li15, li16, li17, li18, li19, li20, li21, li22, li23, li24, li25, li26, li27, li28, li29, li30, li31, li32, li40, li48, li50, li57, li60, li97, li99, li100, li112, li119, li120, li122, li127, li128, li200, li201, li202, li203, li204, li205, li206, li207, li208, li209, li210, li211, li212, li213, li214, li215, li216, li217, li218, li219, li225, li255, li300, li301, li400, li512, li600, li999, li1000, li1600, li1000000, nI_add, pk_mul, Nat.add_right_cancel_iff, pk_sub, nI_leI, nI_ltI, nI_eq, nI_clamp, vin_iff, ne_m1, m1_ne, lt_m1, le_m1, m1_lt, m1_le, bI0, bI1, Nat.reduceAdd, Nat.reduceSub, Nat.reduceMul, forall_eq, gI_uI, gI_uJ, gI_sI, Nat.add_left_cancel_iff, Nat.reduceEqDiff, and_true, true_and, and_false, false_and, not_true_eq_false, not_false_eq_true, true_implies, false_implies, implies_true, if_true, if_false, ite_true, ite_false, reduceIte, Bool.true_eq_false, Bool.false_eq_true, Nat.reduceLT, Nat.reduceLeDiff, decide_true, decide_false]
  have hF1 : FI P56 st (uI (uI st 56 2 (nI (M 2 + 1))) 56 1 (nI 60)) := (FI.u (P := P56) rfl).tr (FI.u (P := P56) rfl)
  have hR1 : RM (uI (uI st 56 2 (nI (M 2 + 1))) 56 1 (nI 60)) (up (up M 2 (M 2 + 1)) 1 60) := (hR.u).u
  have hM1 : MB t (up (up M 2 (M 2 + 1)) 1 60) := by
    refine (hM.up ?_ (by omega)).up ?_ (by omega)
    · unfold Bd; refine ⟨?_, ?_, ?_, ?_, ?_, ?_⟩ <;> intros <;> omega
    · unfold Bd; refine ⟨?_, ?_, ?_, ?_, ?_, ?_⟩ <;> intros <;> omega
  have h' : ∀ st', FI P56 st st' → RM st' (fMark (fRot (up (up M 2 (M 2 + 1)) 1 60) pl) pl) → Qv st' := h
  generalize up (up M 2 (M 2 + 1)) 1 60 = M1 at h' hR1 hM1
  refine lp_inv (n := pl) (I := fun k s => ∃ u, s = (nI k, u) ∧ FI P56 st u ∧ RM u (fRot M1 k)) ?_ ?_ ⟨_, rfl, hF1, hR1⟩
  · rintro k s hk ⟨u, rfl, hF, hRu⟩ R hR2
    show wX12_nightOn_L20 54 R (nI k) u Qv
    unfold wX12_nightOn_L20 wX12_nightOn_L81
    have hKu := hK.p hF
    have hMk : MB t (fRot M1 k) := hM1.rot (by omega)
    have e16 := hRu (16 + k) (by omega)
    have e28 := hRu (28 + k) (by omega)
    have b1 := hMk.st (k := k) (by omega)
    have b2 := hMk.ro (k := k) (by omega)
    have b3 := hMk.2 k (by omega)
    have hgo : ∀ u', FI P56 st u' → RM u' (fRot1 k (fRot M1 k)) → R (nI (k + 1), u') := fun u' a b => hR2 _ ⟨u', rfl, a, b⟩
    unfold fRot1 at hgo
    by_cases hz : fRot M1 k (28 + k) = 0
    · rw [if_pos hz] at hgo
      simp (disch := omega) only [hKu.2.1, e16, e28, hz, li0, li1, li2, li3, li4, li5, li6, li7, li8, li9, li10, li11, li12, li13, li14, li15, li16, li17, li18, li19, li20, li21, li22, li23, li24, li25, li26, li27, li28, li29, li30, li31, li32, li40, li48, li50, li57, li60, li97, li99, li100, li112, li119, li120, li122, li127, li128, li200, li201, li202, li203, li204, li205, li206, li207, li208, li209, li210, li211, li212, li213, li214, li215, li216, li217, li218, li219, li225, li255, li300, li301, li400, li512, li600, li999, li1000, li1600, li1000000, nI_add, pk_mul, Nat.add_right_cancel_iff, pk_sub, nI_leI, nI_ltI, nI_eq, nI_clamp, vin_iff, ne_m1, m1_ne, lt_m1, le_m1, m1_lt, m1_le, bI0, bI1, Nat.reduceAdd, Nat.reduceSub, Nat.reduceMul, forall_eq, gI_uI, gI_uJ, gI_sI, Nat.add_left_cancel_iff, Nat.reduceEqDiff, and_true, true_and, and_false, false_and, not_true_eq_false, not_false_eq_true, true_implies, false_implies, implies_true, if_true, if_false, ite_true, ite_false, reduceIte, Bool.true_eq_false, Bool.false_eq_true, Nat.reduceLT, Nat.reduceLeDiff, decide_true, decide_false]
      exact ⟨fun q => absurd q (by omega), fun _ => ⟨by omega, hgo u hF hRu⟩⟩
    · rw [if_neg hz] at hgo
      have b4 := b3 (by omega)
      simp (disch := omega) only [hKu.2.1, e16, e28, hz, li0, li1, li2, li3, li4, li5, li6, li7, li8, li9, li10, li11, li12, li13, li14, li15, li16, li17, li18, li19, li20, li21, li22, li23, li24, li25, li26, li27, li28, li29, li30, li31, li32, li40, li48, li50, li57, li60, li97, li99, li100, li112, li119, li120, li122, li127, li128, li200, li201, li202, li203, li204, li205, li206, li207, li208, li209, li210, li211, li212, li213, li214, li215, li216, li217, li218, li219, li225, li255, li300, li301, li400, li512, li600, li999, li1000, li1600, li1000000, nI_add, pk_mul, Nat.add_right_cancel_iff, pk_sub, nI_leI, nI_ltI, nI_eq, nI_clamp, vin_iff, ne_m1, m1_ne, lt_m1, le_m1, m1_lt, m1_le, bI0, bI1, Nat.reduceAdd, Nat.reduceSub, Nat.reduceMul, forall_eq, gI_uI, gI_uJ, gI_sI, Nat.add_left_cancel_iff, Nat.reduceEqDiff, and_true, true_and, and_false, false_and, not_true_eq_false, not_false_eq_true, true_implies, false_implies, implies_true, if_true, if_false, ite_true, ite_false, reduceIte, Bool.true_eq_false, Bool.false_eq_true, Nat.reduceLT, Nat.reduceLeDiff, decide_true, decide_false]
      refine ⟨fun q => absurd q (by omega), fun _ => ?_⟩
      repeat refine ⟨by omega, ?_⟩
      refine ⟨fun q => ?_, fun q => ?_⟩
      · rw [if_neg (by omega)] at hgo
        refine hgo _ (hF.tr (FI.u rfl)) ?_
        have := hRu.s1 (k := k) (s := fRot M1 k (16 + k) - 1)
        rw [show fRot M1 k (28 + k) = 1 from by omega] at this
        exact this
      · rw [if_pos (by omega)] at hgo
        refine ⟨by omega, ?_⟩
        exact hgo _ ((hF.tr (FI.u rfl)).tr (FI.u rfl)) hRu.sr
  · rintro s ⟨u, rfl, hF, hRu⟩ R
    show wX12_nightOn_L20 54 R (nI pl) u Qv
    unfold wX12_nightOn_L20 wX12_nightOn_L103
    have hKu := hK.p hF
    have hMk : MB t (fRot M1 pl) := hM1.rot hp
    simp (disch := omega) only [hKu.2.1, li0, li1, li2, li3, li4, li5, li6, li7, li8, li9, li10, li11, li12, li13, li14, li15, li16, li17, li18, li19, li20, li21, li22, li23, li24, li25, li26, li27, li28, li29, li30, li31, li32, li40, li48, li50, li57, li60, li97, li99, li100, li112, li119, li120, li122, li127, li128, li200, li201, li202, li203, li204, li205, li206, li207, li208, li209, li210, li211, li212, li213, li214, li215, li216, li217, li218, li219, li225, li255, li300, li301, li400, li512, li600, li999, li1000, li1600, li1000000, nI_add, pk_mul, Nat.add_right_cancel_iff, pk_sub, nI_leI, nI_ltI, nI_eq, nI_clamp, vin_iff, ne_m1, m1_ne, lt_m1, le_m1, m1_lt, m1_le, bI0, bI1, Nat.reduceAdd, Nat.reduceSub, Nat.reduceMul, forall_eq, gI_uI, gI_uJ, gI_sI, Nat.add_left_cancel_iff, Nat.reduceEqDiff, and_true, true_and, and_false, false_and, not_true_eq_false, not_false_eq_true, true_implies, false_implies, implies_true, if_true, if_false, ite_true, ite_false, reduceIte, Bool.true_eq_false, Bool.false_eq_true, Nat.reduceLT, Nat.reduceLeDiff, decide_true, decide_false]
    refine ⟨fun _ => r_isWeak hRu ?_, fun q => absurd (Nat.le_refl _) q⟩
    unfold fMark at h'
    cases hw : fWeak (fRot M1 pl)
    · simp (disch := omega) only [li0, li1, li2, li3, li4, li5, li6, li7, li8, li9, li10, li11, li12, li13, li14, li15, li16, li17, li18, li19, li20, li21, li22, li23, li24, li25, li26, li27, li28, li29, li30, li31, li32, li40, li48, li50, li57, li60, li97, li99, li100, li112, li119, li120, li122, li127, li128, li200, li201, li202, li203, li204, li205, li206, li207, li208, li209, li210, li211, li212, li213, li214, li215, li216, li217, li218, li219, li225, li255, li300, li301, li400, li512, li600, li999, li1000, li1600, li1000000, nI_add, pk_mul, Nat.add_right_cancel_iff, pk_sub, nI_leI, nI_ltI, nI_eq, nI_clamp, vin_iff, ne_m1, m1_ne, lt_m1, le_m1, m1_lt, m1_le, bI0, bI1, Nat.reduceAdd, Nat.reduceSub, Nat.reduceMul, forall_eq, gI_uI, gI_uJ, gI_sI, Nat.add_left_cancel_iff, Nat.reduceEqDiff, and_true, true_and, and_false, false_and, not_true_eq_false, not_false_eq_true, true_implies, false_implies, implies_true, if_true, if_false, ite_true, ite_false, reduceIte, Bool.true_eq_false, Bool.false_eq_true, Nat.reduceLT, Nat.reduceLeDiff, decide_true, decide_false]
      simp only [hw] at h'
      exact h' u hF hRu
    · simp (disch := omega) only [li0, li1, li2, li3, li4, li5, li6, li7, li8, li9, li10, li11, li12, li13, li14, li15, li16, li17, li18, li19, li20, li21, li22, li23, li24, li25, li26, li27, li28, li29, li30, li31, li32, li40, li48, li50, li57, li60, li97, li99, li100, li112, li119, li120, li122, li127, li128, li200, li201, li202, li203, li204, li205, li206, li207, li208, li209, li210, li211, li212, li213, li214, li215, li216, li217, li218, li219, li225, li255, li300, li301, li400, li512, li600, li999, li1000, li1600, li1000000, nI_add, pk_mul, Nat.add_right_cancel_iff, pk_sub, nI_leI, nI_ltI, nI_eq, nI_clamp, vin_iff, ne_m1, m1_ne, lt_m1, le_m1, m1_lt, m1_le, bI0, bI1, Nat.reduceAdd, Nat.reduceSub, Nat.reduceMul, forall_eq, gI_uI, gI_uJ, gI_sI, Nat.add_left_cancel_iff, Nat.reduceEqDiff, and_true, true_and, and_false, false_and, not_true_eq_false, not_false_eq_true, true_implies, false_implies, implies_true, if_true, if_false, ite_true, ite_false, reduceIte, Bool.true_eq_false, Bool.false_eq_true, Nat.reduceLT, Nat.reduceLeDiff, decide_true, decide_false]
      rw [if_pos hw] at h'
      refine r_weakest (snd := true) hB hMk hKu hRu ?_
      cases hf : fWst (fRot M1 pl) true pl with
      | none =>
        simp only [hf] at h'
        simp (disch := omega) only [oI_none, li0, li1, li2, li3, li4, li5, li6, li7, li8, li9, li10, li11, li12, li13, li14, li15, li16, li17, li18, li19, li20, li21, li22, li23, li24, li25, li26, li27, li28, li29, li30, li31, li32, li40, li48, li50, li57, li60, li97, li99, li100, li112, li119, li120, li122, li127, li128, li200, li201, li202, li203, li204, li205, li206, li207, li208, li209, li210, li211, li212, li213, li214, li215, li216, li217, li218, li219, li225, li255, li300, li301, li400, li512, li600, li999, li1000, li1600, li1000000, nI_add, pk_mul, Nat.add_right_cancel_iff, pk_sub, nI_leI, nI_ltI, nI_eq, nI_clamp, vin_iff, ne_m1, m1_ne, lt_m1, le_m1, m1_lt, m1_le, bI0, bI1, Nat.reduceAdd, Nat.reduceSub, Nat.reduceMul, forall_eq, gI_uI, gI_uJ, gI_sI, Nat.add_left_cancel_iff, Nat.reduceEqDiff, and_true, true_and, and_false, false_and, not_true_eq_false, not_false_eq_true, true_implies, false_implies, implies_true, if_true, if_false, ite_true, ite_false, reduceIte, Bool.true_eq_false, Bool.false_eq_true, Nat.reduceLT, Nat.reduceLeDiff, decide_true, decide_false]
        exact h' u hF hRu
      | some w =>
        have hlt := fWst_lt pl hf
        simp only [hf] at h'
        simp (disch := omega) only [oI_some, li0, li1, li2, li3, li4, li5, li6, li7, li8, li9, li10, li11, li12, li13, li14, li15, li16, li17, li18, li19, li20, li21, li22, li23, li24, li25, li26, li27, li28, li29, li30, li31, li32, li40, li48, li50, li57, li60, li97, li99, li100, li112, li119, li120, li122, li127, li128, li200, li201, li202, li203, li204, li205, li206, li207, li208, li209, li210, li211, li212, li213, li214, li215, li216, li217, li218, li219, li225, li255, li300, li301, li400, li512, li600, li999, li1000, li1600, li1000000, nI_add, pk_mul, Nat.add_right_cancel_iff, pk_sub, nI_leI, nI_ltI, nI_eq, nI_clamp, vin_iff, ne_m1, m1_ne, lt_m1, le_m1, m1_lt, m1_le, bI0, bI1, Nat.reduceAdd, Nat.reduceSub, Nat.reduceMul, forall_eq, gI_uI, gI_uJ, gI_sI, Nat.add_left_cancel_iff, Nat.reduceEqDiff, and_true, true_and, and_false, false_and, not_true_eq_false, not_false_eq_true, true_implies, false_implies, implies_true, if_true, if_false, ite_true, ite_false, reduceIte, Bool.true_eq_false, Bool.false_eq_true, Nat.reduceLT, Nat.reduceLeDiff, decide_true, decide_false]
        exact ⟨by omega, h' _ (hF.tr (FI.u rfl)) hRu.r1⟩
end RB2

/-! the class's bridge: the whole crossing, mending, notes; a bridge begun, a bridge copied -/
theorem xor_nI (a b : Nat) : nI a ^^^ nI b = nI (a ^^^ b) := by
  apply Int32.toBitVec_inj.1
  show BitVec.ofNat 32 a ^^^ BitVec.ofNat 32 b = BitVec.ofNat 32 (a ^^^ b)
  apply BitVec.eq_of_getLsbD_eq
  intro i hi
  simp [hi]
theorem shl_nI : ∀ k, k < 9 → nI 1 <<< (nI k &&& nI 31) = nI (2 ^ k) := by decide +kernel
theorem SBt.flip {nw one S : Nat} {M M' : Nat → Nat} (h : SBt nw M S) (hw : nw ≤ 8) (h1 : one < nw) (hm : ∀ k, k < nw → k ≠ one → M' (8 + k) = M (8 + k)) (ho : (M' (8 + one) = 0) ↔ ¬ M (8 + one) = 0) : SBt nw M' (S ^^^ 2 ^ one) := by
  refine ⟨?_, fun k => ?_⟩
  · have : 2 ^ one < 2 ^ 8 := Nat.pow_lt_pow_right (by omega) (by omega)
    exact Nat.xor_lt_two_pow (n := 8) h.1 this
  · rw [Nat.testBit_xor, h.2 k, Nat.testBit_two_pow]
    by_cases q : k < nw
    · rw [decide_eq_true q, Bool.true_and, Bool.true_and]
      by_cases e : k = one
      · subst e
        by_cases z : M (8 + k) = 0
        · have : ¬ M' (8 + k) = 0 := fun a => (ho.mp a) z
          simp [z, this]
        · have : M' (8 + k) = 0 := ho.mpr z
          simp [z, this]
      · rw [hm k q e, decide_eq_false (p := one = k) (fun a => e a.symm)]
        simp
    · rw [decide_eq_false q, decide_eq_false (p := one = k) (fun a => q (by omega))]
      simp
section CBG
variable {b nw pl t : Nat} {wt mi : Nat → Nat} {M M' : Nat → Nat} {st st' : St} {Q : Int32 → St → Prop} {Qv : St → Prop}
theorem fOver_one {one : Nat} {other : Option Nat} : fOver one other M (8 + one) = 1 - M 0 := by
  unfold fOver
  rw [if_neg (by omega), if_pos rfl]
theorem SBt.over {one S : Nat} {other : Option Nat} (hB : BB nw pl wt mi) (hM : MB t M) (h : SBt nw M S) (hO : OK2 nw one other) (h1 : fThere M (some one) = true) (h2 : fThere M other = true) : SBt nw (fOver one other M) (S ^^^ 2 ^ one ^^^ (match other with | none => 0 | some o => 2 ^ o)) := by
  have h8 := hB.1
  have b0 := hM.la
  have e1 : M (8 + one) = M 0 := of_decide_eq_true h1
  cases other with
  | none =>
    show SBt nw _ (S ^^^ 2 ^ one ^^^ 0)
    rw [Nat.xor_zero]
    refine h.flip h8 hO.1 (fun k hk hne => ?_) ?_
    · unfold fOver
      rw [if_neg (by omega), if_neg (by omega), if_neg (fun ⟨o, e, _⟩ => by cases e), if_neg (by omega)]
    · rw [fOver_one, e1]; omega
  | some o =>
    have e2 : M (8 + o) = M 0 := of_decide_eq_true h2
    have ho := hO.2 o rfl
    show SBt nw _ (S ^^^ 2 ^ one ^^^ 2 ^ o)
    refine SBt.flip (M := fOver one none M) (h.flip h8 hO.1 (fun k hk hne => ?_) ?_) h8 ho.1 (fun k hk hne => ?_) ?_
    · unfold fOver
      rw [if_neg (by omega), if_neg (by omega), if_neg (fun ⟨o, e, _⟩ => by cases e), if_neg (by omega)]
    · rw [fOver_one, e1]; omega
    · unfold fOver
      by_cases q0 : 8 + k = 8 + one
      · rw [if_neg (by omega), if_pos q0, if_neg (by omega), if_pos q0]
      · rw [if_neg (by omega), if_neg q0, if_neg (fun ⟨o', e, e3⟩ => by cases e; omega), if_neg (by omega), if_neg (by omega), if_neg q0, if_neg (fun ⟨o, e, _⟩ => by cases e)]
    · have a1 : fOver one (some o) M (8 + o) = 1 - M 0 := by
        unfold fOver
        rw [if_neg (by omega), if_neg (by have := ho.2; omega), if_pos ⟨o, rfl, rfl⟩]
      have a2 : fOver one none M (8 + o) = M 0 := by
        unfold fOver
        rw [if_neg (by omega), if_neg (by have := ho.2; omega), if_neg (fun ⟨o, e, _⟩ => by cases e), if_neg (by omega), e2]
      rw [a1, a2]; omega
theorem BR.over {one S : Nat} {other : Option Nat} (h : BR b nw pl st M) (hB : BB nw pl wt mi) (hM : MB t M) (hO : OK2 nw one other) (hS : SBt nw (fOver one other M) S) (h3 : gI st' b 3 = nI S) (h7 : gI st' b 7 = nI (M 0)) (h11 : gI st' b 11 = nI (M 4 + 1)) (hj : ∀ j, j ≠ 3 → j ≠ 7 → j ≠ 11 → gI st' b j = gI st b j) (hr : ∀ d j, d = b + 3 ∨ d = b + 4 ∨ d = b + 5 → gI st' d j = gI st d j) : BR b nw pl st' (fOver one other M) := by
  obtain ⟨a1, -, a5, a6, a7, a8⟩ := h
  have h8 := hO.lt hB
  have b0 := hM.la
  have hn : ∀ j, 16 ≤ j ∨ (1 ≤ j ∧ j < 8 ∧ j ≠ 4) → fOver one other M j = M j := fun j hj => fOver_ne hj h8.1 h8.2
  have f0 : fOver one other M 0 = 1 - M 0 := if_pos rfl
  have f4 : fOver one other M 4 = M 4 + 1 := by
    unfold fOver
    rw [if_neg (by omega), if_neg (by omega), if_neg (fun ⟨o, _, e⟩ => by omega), if_pos rfl]
  refine ⟨fun j hj2 => ?_, ⟨S, h3, hS⟩, fun k hk => ?_, fun k hk => ?_, fun k hk => ?_, fun k hk hk2 => ?_⟩
  · have hs : scv nw pl (fOver one other M) j = if j = 7 then 1 - (1 - M 0) else if j = 11 then M 4 + 1 else scv nw pl M j := by
      unfold scv
      rw [f0, f4, hn 1 (by omega), hn 2 (by omega), hn 3 (by omega), hn 5 (by omega), hn 6 (by omega)]
      (repeat' split) <;> first | rfl | omega
    rw [hs]
    by_cases q7 : j = 7
    · rw [if_pos q7, q7, h7, show 1 - (1 - M 0) = M 0 from by omega]
    rw [if_neg q7]
    by_cases q11 : j = 11
    · rw [if_pos q11, q11, h11]
    rw [if_neg q11, hj j (by omega) q7 q11]
    exact a1 j hj2
  · rw [hr _ _ (Or.inl rfl), hn _ (by omega)]; exact a5 k hk
  · rw [hr _ _ (Or.inr (Or.inl rfl)), hn _ (by omega)]; exact a6 k hk
  · rw [hr _ _ (Or.inr (Or.inl rfl))]; exact a7 k hk
  · rw [hn 6 (by omega)] at hk2 ⊢
    rw [hr _ _ (Or.inr (Or.inr rfl)), hn _ (by omega)]; exact a8 k hk hk2
theorem fCan_all {one : Nat} {other : Option Nat} (h : fCan pl mi one other M = true) : fThere M (some one) = true ∧ fThere M other = true ∧ fTakes mi one other ≤ M 1 := by
  unfold fCan at h
  rw [Bool.and_eq_true, Bool.and_eq_true, Bool.and_eq_true, Bool.and_eq_true] at h
  exact ⟨h.1, h.2.1, of_decide_eq_true h.2.2.2.1⟩
theorem fThere_steps {w : Nat} {x : Option Nat} (hp : pl ≤ 12) (hx : ∀ o, x = some o → o < 8) (h : fThere M x = true) : fThere (fSteps w pl pl false M).2 x = true := by
  cases x with
  | none => rfl
  | some o =>
    have := hx o rfl
    unfold fThere at h ⊢
    simp only at h ⊢
    rw [fSteps_ne hp (by omega) (Nat.le_refl _), fSteps_ne hp (by omega) (Nat.le_refl _)]
    exact h
theorem c_go {one : Nat} {other : Option Nat} (hB : BB nw pl wt mi) (hM : MB 120 M) (hC : CB b nw wt mi st) (h : BR b nw pl st M) (hO : OK2 nw one other) (hc : fCan pl mi one other M = true) (hq : ∀ st', FI (PM b) st st' → BR b nw pl st' (fCross pl wt mi one other M).2 → Q (bI (fCross pl wt mi one other M).1) st') : wX2_go b (nI one) (oI other) st Q := by
  unfold wX2_go
  have h1 := (hO.lt hB).1
  have h2 := (hO.lt hB).2
  have bt := fTakes_le (one := one) (other := other) hB
  have bl := fLoad_le (one := one) (other := other) hB
  obtain ⟨ht1, ht2, hm⟩ := fCan_all hc
  have hMs := hM.steps (w := fLoad wt one other) (was := false) hB.2.1 (Nat.le_refl pl)
  have hs1 : (fSteps (fLoad wt one other) pl pl false M).2 1 = M 1 := fSteps_ne hB.2.1 (by omega) (Nat.le_refl pl)
  have hu1 := fThere_steps (w := fLoad wt one other) hB.2.1 (fun o e => by cases e; exact h1) ht1
  have hu2 := fThere_steps (w := fLoad wt one other) hB.2.1 h2 ht2
  have h87 : ∀ (ok : Bool) (u : St) (M1 : Nat → Nat), FI (PM b) st u → BR b nw pl u M1 → MB 120 M1 → fTakes mi one other ≤ M1 1 → (∀ st', FI (PM b) st st' → BR b nw pl st' (fGo pl (fTakes mi one other) (up M1 1 (M1 1 - fTakes mi one other))).2 → Q (bI ok) st') → wX2_go_L87 b (nI one) (oI other) (nI one) (oI other) (bI ok) u Q := by
    intro ok u M1 hF hRu hMu hmu hq
    unfold wX2_go_L87
    refine c_minutes hB (hC.fi hF) hRu hO ?_
    have e8 := hRu.oi
    have bo := hMu.oi
    simp (disch := omega) only [e8, li0, li1, li2, li3, li4, li5, li6, li7, li8, li9, li10, li11, li12, li13, li14, li15, li16, li17, li18, li19, li20, li21, li22, li23, li24, li25, li26, li27, li28, li29, li30, li31, li32, li40, li48, li50, li57, li60, li97, li99, li100, li112, li119, li120, li122, li127, li128, li200, li201, li202, li203, li204, li205, li206, li207, li208, li209, li210, li211, li212, li213, li214, li215, li216, li217, li218, li219, li225, li255, li300, li301, li400, li512, li600, li999, li1000, li1600, li1000000, eb1, eb2, eb3, eb4, eb5, be1, be2, be3, be4, be5, nI_add, pk_mul, Nat.add_right_cancel_iff, pk_sub, nI_leI, nI_ltI, nI_eq, nI_clamp, vin_iff, ne_m1, m1_ne, lt_m1, le_m1, m1_lt, m1_le, bI0, bI1, Nat.reduceAdd, Nat.reduceSub, Nat.reduceMul, forall_eq, gI_uI, gI_uJ, gI_sI, Nat.add_left_cancel_iff, Nat.reduceEqDiff, and_true, true_and, and_false, false_and, not_true_eq_false, not_false_eq_true, true_implies, false_implies, implies_true, if_true, if_false, ite_true, ite_false, reduceIte, Bool.true_eq_false, Bool.false_eq_true, Nat.reduceLT, Nat.reduceLeDiff, decide_true, decide_false]
    refine c_letGo (M := up M1 1 (M1 1 - fTakes mi one other)) hB (hMu.up (bd_oil (by omega)) (by omega)) (by omega) (hRu.sc (i := 1) hB.1 (by omega) (by omega)) (fun st' hF' hR' => ⟨bI_bz, hq st' ((hF.tr (FI.u pm0)).tr hF') hR'⟩)
  refine c_weight hB hC h hO ?_
  unfold fCross fAft fMid at hq
  refine c_tread hB hM h bl (fun st' hF hR' => ?_)
  generalize fSteps (fLoad wt one other) pl pl false M = z at hq hR' hMs hs1 hu1 hu2 ⊢
  obtain ⟨ok, M1⟩ := z
  simp only at hq hR' hMs hs1 hu1 hu2 ⊢
  refine ⟨fun q => ?_, fun q => ?_⟩
  · rw [bI0.mp q] at hq ⊢
    have e12 := hR'.fe
    simp (disch := omega) only [e12, li0, li1, li2, li3, li4, li5, li6, li7, li8, li9, li10, li11, li12, li13, li14, li15, li16, li17, li18, li19, li20, li21, li22, li23, li24, li25, li26, li27, li28, li29, li30, li31, li32, li40, li48, li50, li57, li60, li97, li99, li100, li112, li119, li120, li122, li127, li128, li200, li201, li202, li203, li204, li205, li206, li207, li208, li209, li210, li211, li212, li213, li214, li215, li216, li217, li218, li219, li225, li255, li300, li301, li400, li512, li600, li999, li1000, li1600, li1000000, eb1, eb2, eb3, eb4, eb5, be1, be2, be3, be4, be5, nI_add, pk_mul, Nat.add_right_cancel_iff, pk_sub, nI_leI, nI_ltI, nI_eq, nI_clamp, vin_iff, ne_m1, m1_ne, lt_m1, le_m1, m1_lt, m1_le, bI0, bI1, Nat.reduceAdd, Nat.reduceSub, Nat.reduceMul, forall_eq, gI_uI, gI_uJ, gI_sI, Nat.add_left_cancel_iff, Nat.reduceEqDiff, and_true, true_and, and_false, false_and, not_true_eq_false, not_false_eq_true, true_implies, false_implies, implies_true, if_true, if_false, ite_true, ite_false, reduceIte, Bool.true_eq_false, Bool.false_eq_true, Nat.reduceLT, Nat.reduceLeDiff, decide_true, decide_false]
    refine h87 false _ (up M1 5 (M1 5 + 1)) (hF.tr (FI.u pm0)) (hR'.sc (i := 5) hB.1 (by omega) (by omega)) (hMs.up (bd_free (by omega)) (by omega)) (by rw [up_a, if_neg (by omega), hs1]; exact hm) (fun st2 hF2 hR2 => hq st2 hF2 ?_)
    rw [up_a, if_neg (by omega)] at hR2
    exact hR2
  · rw [(Bool.not_eq_false _).mp (fun e => q (bI0.mpr e))] at hq ⊢
    have ho1 : fOver one other M1 1 = M1 1 := fOver_ne (by omega) h1 h2
    have hov : ∀ u : St, FI (PM b) st u → BR b nw pl u (fOver one other M1) → wX2_go_L87 b (nI one) (oI other) (nI one) (oI other) (bI true) u Q := by
      intro u hFu hRu
      refine h87 true u _ hFu hRu (hMs.over h1 h2) (by rw [ho1, hs1]; exact hm) (fun st2 hF2 hR2 => hq st2 hF2 ?_)
      rw [ho1] at hR2
      exact hR2
    obtain ⟨S, eS, hS⟩ := hR'.2.1
    have hSo := hS.over hB hMs hO hu1 hu2
    have b0 := hMs.la
    have e7 := hR'.la
    have e11 := hR'.ov
    have es1 := shl_nI one (by omega)
    have h44 : ∀ x : Nat, SBt nw (fOver one other M1) (S ^^^ 2 ^ one ^^^ x) → wX2_go_L44 b (nI one) (oI other) (nI one) (oI other) (bI true) (nI x) (nI (S ^^^ 2 ^ one)) (uI st' b 3 (nI (S ^^^ 2 ^ one))) Q := by
      intro x hx
      unfold wX2_go_L44 wX2_go_L61
      simp (disch := omega) only [xor_nI, e7, e11, li0, li1, li2, li3, li4, li5, li6, li7, li8, li9, li10, li11, li12, li13, li14, li15, li16, li17, li18, li19, li20, li21, li22, li23, li24, li25, li26, li27, li28, li29, li30, li31, li32, li40, li48, li50, li57, li60, li97, li99, li100, li112, li119, li120, li122, li127, li128, li200, li201, li202, li203, li204, li205, li206, li207, li208, li209, li210, li211, li212, li213, li214, li215, li216, li217, li218, li219, li225, li255, li300, li301, li400, li512, li600, li999, li1000, li1600, li1000000, eb1, eb2, eb3, eb4, eb5, be1, be2, be3, be4, be5, nI_add, pk_mul, Nat.add_right_cancel_iff, pk_sub, nI_leI, nI_ltI, nI_eq, nI_clamp, vin_iff, ne_m1, m1_ne, lt_m1, le_m1, m1_lt, m1_le, bI0, bI1, Nat.reduceAdd, Nat.reduceSub, Nat.reduceMul, forall_eq, gI_uI, gI_uJ, gI_sI, Nat.add_left_cancel_iff, Nat.reduceEqDiff, and_true, true_and, and_false, false_and, not_true_eq_false, not_false_eq_true, true_implies, false_implies, implies_true, if_true, if_false, ite_true, ite_false, reduceIte, Bool.true_eq_false, Bool.false_eq_true, Nat.reduceLT, Nat.reduceLeDiff, decide_true, decide_false]
      refine ⟨fun q0 => ?_, fun q0 => ?_⟩
      · refine ⟨Or.inl rfl, hov _ ((((hF.tr (FI.u pm0)).tr (FI.u pm0)).tr (FI.u pm0)).tr (FI.u pm0)) (hR'.over hB hMs hO hx ?_ ?_ ?_ (fun j a1 a2 a3 => ?_) (fun d j hd => ?_))⟩
        · simp [gI_uI]
        · simp [gI_uI]; congr 1; omega
        · simp [gI_uI]
        · simp [gI_uI, a1, a2, a3]
        · have : d ≠ b := by omega
          simp [gI_uI, this]
      · refine ⟨Or.inr rfl, hov _ ((((hF.tr (FI.u pm0)).tr (FI.u pm0)).tr (FI.u pm0)).tr (FI.u pm0)) (hR'.over hB hMs hO hx ?_ ?_ ?_ (fun j a1 a2 a3 => ?_) (fun d j hd => ?_))⟩
        · simp [gI_uI]
        · simp [gI_uI]; congr 1; omega
        · simp [gI_uI]
        · simp [gI_uI, a1, a2, a3]
        · have : d ≠ b := by omega
          simp [gI_uI, this]
    cases other with
    | none =>
      simp (disch := omega) only [oI_none, eS, xor_nI, es1, li0, li1, li2, li3, li4, li5, li6, li7, li8, li9, li10, li11, li12, li13, li14, li15, li16, li17, li18, li19, li20, li21, li22, li23, li24, li25, li26, li27, li28, li29, li30, li31, li32, li40, li48, li50, li57, li60, li97, li99, li100, li112, li119, li120, li122, li127, li128, li200, li201, li202, li203, li204, li205, li206, li207, li208, li209, li210, li211, li212, li213, li214, li215, li216, li217, li218, li219, li225, li255, li300, li301, li400, li512, li600, li999, li1000, li1600, li1000000, eb1, eb2, eb3, eb4, eb5, be1, be2, be3, be4, be5, nI_add, pk_mul, Nat.add_right_cancel_iff, pk_sub, nI_leI, nI_ltI, nI_eq, nI_clamp, vin_iff, ne_m1, m1_ne, lt_m1, le_m1, m1_lt, m1_le, bI0, bI1, Nat.reduceAdd, Nat.reduceSub, Nat.reduceMul, forall_eq, gI_uI, gI_uJ, gI_sI, Nat.add_left_cancel_iff, Nat.reduceEqDiff, and_true, true_and, and_false, false_and, not_true_eq_false, not_false_eq_true, true_implies, false_implies, implies_true, if_true, if_false, ite_true, ite_false, reduceIte, Bool.true_eq_false, Bool.false_eq_true, Nat.reduceLT, Nat.reduceLeDiff, decide_true, decide_false]
      exact h44 0 hSo
    | some o =>
      have ho := h2 o rfl
      have es2 := shl_nI o (by omega)
      simp (disch := omega) only [oI_some, eS, xor_nI, es1, es2, li0, li1, li2, li3, li4, li5, li6, li7, li8, li9, li10, li11, li12, li13, li14, li15, li16, li17, li18, li19, li20, li21, li22, li23, li24, li25, li26, li27, li28, li29, li30, li31, li32, li40, li48, li50, li57, li60, li97, li99, li100, li112, li119, li120, li122, li127, li128, li200, li201, li202, li203, li204, li205, li206, li207, li208, li209, li210, li211, li212, li213, li214, li215, li216, li217, li218, li219, li225, li255, li300, li301, li400, li512, li600, li999, li1000, li1600, li1000000, eb1, eb2, eb3, eb4, eb5, be1, be2, be3, be4, be5, nI_add, pk_mul, Nat.add_right_cancel_iff, pk_sub, nI_leI, nI_ltI, nI_eq, nI_clamp, vin_iff, ne_m1, m1_ne, lt_m1, le_m1, m1_lt, m1_le, bI0, bI1, Nat.reduceAdd, Nat.reduceSub, Nat.reduceMul, forall_eq, gI_uI, gI_uJ, gI_sI, Nat.add_left_cancel_iff, Nat.reduceEqDiff, and_true, true_and, and_false, false_and, not_true_eq_false, not_false_eq_true, true_implies, false_implies, implies_true, if_true, if_false, ite_true, ite_false, reduceIte, Bool.true_eq_false, Bool.false_eq_true, Nat.reduceLT, Nat.reduceLeDiff, decide_true, decide_false]
      exact h44 (2 ^ o) hSo
theorem c_mend {v : Nat} (hB : BB nw pl wt mi) (hM : MB t M) (h : BR b nw pl st M) (hv : v < 2 ^ 31) (hq : ∀ st', FI (PM b) st st' → BR b nw pl st' (fMend pl v M).2 → Q (bI (fMend pl v M).1) st') : wX2_mendFirst b (nI v) st Q := by
  unfold wX2_mendFirst
  have hp := hB.2.1
  unfold fMend at hq
  by_cases hv1 : 1 ≤ v ∧ v ≤ 30
  · rw [if_pos hv1] at hq
    have a1 : ¬ v < 1 := by omega
    have a2 : v ≤ 30 := by omega
    simp (disch := omega) only [a1, a2, li0, li1, li2, li3, li4, li5, li6, li7, li8, li9, li10, li11, li12, li13, li14, li15, li16, li17, li18, li19, li20, li21, li22, li23, li24, li25, li26, li27, li28, li29, li30, li31, li32, li40, li48, li50, li57, li60, li97, li99, li100, li112, li119, li120, li122, li127, li128, li200, li201, li202, li203, li204, li205, li206, li207, li208, li209, li210, li211, li212, li213, li214, li215, li216, li217, li218, li219, li225, li255, li300, li301, li400, li512, li600, li999, li1000, li1600, li1000000, eb1, eb2, eb3, eb4, eb5, be1, be2, be3, be4, be5, nI_add, pk_mul, Nat.add_right_cancel_iff, pk_sub, nI_leI, nI_ltI, nI_eq, nI_clamp, vin_iff, ne_m1, m1_ne, lt_m1, le_m1, m1_lt, m1_le, bI0, bI1, Nat.reduceAdd, Nat.reduceSub, Nat.reduceMul, forall_eq, gI_uI, gI_uJ, gI_sI, Nat.add_left_cancel_iff, Nat.reduceEqDiff, and_true, true_and, and_false, false_and, not_true_eq_false, not_false_eq_true, true_implies, false_implies, implies_true, if_true, if_false, ite_true, ite_false, reduceIte, Bool.true_eq_false, Bool.false_eq_true, Nat.reduceLT, Nat.reduceLeDiff, decide_true, decide_false]
    refine lp_inv (n := pl) (I := fun k s => s = (nI v, nI k, st) ∧ fF0 M k = none) ?_ ?_ ⟨rfl, rfl⟩
    · rintro k s hk ⟨rfl, hno⟩ R hR2
      show wX2_mendFirst_L15 b (nI v) R (nI v) (nI k) st Q
      unfold wX2_mendFirst_L15
      have e4 := h.p4
      have e := h.ss hk
      have b1 := hM.st (k := k) (by omega)
      simp (disch := omega) only [e4, e, li0, li1, li2, li3, li4, li5, li6, li7, li8, li9, li10, li11, li12, li13, li14, li15, li16, li17, li18, li19, li20, li21, li22, li23, li24, li25, li26, li27, li28, li29, li30, li31, li32, li40, li48, li50, li57, li60, li97, li99, li100, li112, li119, li120, li122, li127, li128, li200, li201, li202, li203, li204, li205, li206, li207, li208, li209, li210, li211, li212, li213, li214, li215, li216, li217, li218, li219, li225, li255, li300, li301, li400, li512, li600, li999, li1000, li1600, li1000000, eb1, eb2, eb3, eb4, eb5, be1, be2, be3, be4, be5, nI_add, pk_mul, Nat.add_right_cancel_iff, pk_sub, nI_leI, nI_ltI, nI_eq, nI_clamp, vin_iff, ne_m1, m1_ne, lt_m1, le_m1, m1_lt, m1_le, bI0, bI1, Nat.reduceAdd, Nat.reduceSub, Nat.reduceMul, forall_eq, gI_uI, gI_uJ, gI_sI, Nat.add_left_cancel_iff, Nat.reduceEqDiff, and_true, true_and, and_false, false_and, not_true_eq_false, not_false_eq_true, true_implies, false_implies, implies_true, if_true, if_false, ite_true, ite_false, reduceIte, Bool.true_eq_false, Bool.false_eq_true, Nat.reduceLT, Nat.reduceLeDiff, decide_true, decide_false]
      have hst : fF0 M (k + 1) = if M (16 + k) = 0 then some k else none := by unfold fF0; rw [hno]
      refine ⟨fun q => absurd q (by omega), fun _ => ⟨by omega, fun q => ?_, fun q => ?_⟩⟩
      · rw [if_neg q] at hst
        exact hR2 _ ⟨rfl, hst⟩
      · rw [if_pos q] at hst
        rw [fF0_up hst (by omega)] at hq
        exact c_lay hB h hk (hq _ ((FI.u (P := PM b) pm3).tr (FI.u pm4)) (h.sr hB hk (by omega)))
    · rintro s ⟨rfl, hno⟩ R
      show wX2_mendFirst_L15 b (nI v) R (nI v) (nI pl) st Q
      unfold wX2_mendFirst_L15
      have e4 := h.p4
      rw [hno] at hq
      simp (disch := omega) only [e4, li0, li1, li2, li3, li4, li5, li6, li7, li8, li9, li10, li11, li12, li13, li14, li15, li16, li17, li18, li19, li20, li21, li22, li23, li24, li25, li26, li27, li28, li29, li30, li31, li32, li40, li48, li50, li57, li60, li97, li99, li100, li112, li119, li120, li122, li127, li128, li200, li201, li202, li203, li204, li205, li206, li207, li208, li209, li210, li211, li212, li213, li214, li215, li216, li217, li218, li219, li225, li255, li300, li301, li400, li512, li600, li999, li1000, li1600, li1000000, eb1, eb2, eb3, eb4, eb5, be1, be2, be3, be4, be5, nI_add, pk_mul, Nat.add_right_cancel_iff, pk_sub, nI_leI, nI_ltI, nI_eq, nI_clamp, vin_iff, ne_m1, m1_ne, lt_m1, le_m1, m1_lt, m1_le, bI0, bI1, Nat.reduceAdd, Nat.reduceSub, Nat.reduceMul, forall_eq, gI_uI, gI_uJ, gI_sI, Nat.add_left_cancel_iff, Nat.reduceEqDiff, and_true, true_and, and_false, false_and, not_true_eq_false, not_false_eq_true, true_implies, false_implies, implies_true, if_true, if_false, ite_true, ite_false, reduceIte, Bool.true_eq_false, Bool.false_eq_true, Nat.reduceLT, Nat.reduceLeDiff, decide_true, decide_false]
      exact ⟨fun _ => hq st FI.rf h, fun q => absurd (Nat.le_refl _) q⟩
  · rw [if_neg hv1] at hq
    have hq := hq st FI.rf h
    simp (disch := omega) only [li0, li1, li2, li3, li4, li5, li6, li7, li8, li9, li10, li11, li12, li13, li14, li15, li16, li17, li18, li19, li20, li21, li22, li23, li24, li25, li26, li27, li28, li29, li30, li31, li32, li40, li48, li50, li57, li60, li97, li99, li100, li112, li119, li120, li122, li127, li128, li200, li201, li202, li203, li204, li205, li206, li207, li208, li209, li210, li211, li212, li213, li214, li215, li216, li217, li218, li219, li225, li255, li300, li301, li400, li512, li600, li999, li1000, li1600, li1000000, eb1, eb2, eb3, eb4, eb5, be1, be2, be3, be4, be5, nI_add, pk_mul, Nat.add_right_cancel_iff, pk_sub, nI_leI, nI_ltI, nI_eq, nI_clamp, vin_iff, ne_m1, m1_ne, lt_m1, le_m1, m1_lt, m1_le, bI0, bI1, Nat.reduceAdd, Nat.reduceSub, Nat.reduceMul, forall_eq, gI_uI, gI_uJ, gI_sI, Nat.add_left_cancel_iff, Nat.reduceEqDiff, and_true, true_and, and_false, false_and, not_true_eq_false, not_false_eq_true, true_implies, false_implies, implies_true, if_true, if_false, ite_true, ite_false, reduceIte, Bool.true_eq_false, Bool.false_eq_true, Nat.reduceLT, Nat.reduceLeDiff, decide_true, decide_false]
    exact ⟨fun _ => hq, fun _ => ⟨fun _ => by omega, fun _ => hq⟩⟩
theorem c_write {v : Nat} (hB : BB nw pl wt mi) (h : BR b nw pl st M) (hn : M 6 < 2 ^ 30) (hq : ∀ st', FI (PM b) st st' → BR b nw pl st' (fWrite v M) → Qv st') : wX2_writeNote b (nI v) st Qv := by
  unfold wX2_writeNote wX2_writeNote_L19
  have e13 := h.no
  have er := pk_rem (a := M 6) (d := 10) (by omega) (by omega) (by omega)
  have hlt := Nat.mod_lt (M 6) (show 10 > 0 by omega)
  simp (disch := omega) only [e13, er, li0, li1, li2, li3, li4, li5, li6, li7, li8, li9, li10, li11, li12, li13, li14, li15, li16, li17, li18, li19, li20, li21, li22, li23, li24, li25, li26, li27, li28, li29, li30, li31, li32, li40, li48, li50, li57, li60, li97, li99, li100, li112, li119, li120, li122, li127, li128, li200, li201, li202, li203, li204, li205, li206, li207, li208, li209, li210, li211, li212, li213, li214, li215, li216, li217, li218, li219, li225, li255, li300, li301, li400, li512, li600, li999, li1000, li1600, li1000000, eb1, eb2, eb3, eb4, eb5, be1, be2, be3, be4, be5, nI_add, pk_mul, Nat.add_right_cancel_iff, pk_sub, nI_leI, nI_ltI, nI_eq, nI_clamp, vin_iff, ne_m1, m1_ne, lt_m1, le_m1, m1_lt, m1_le, bI0, bI1, Nat.reduceAdd, Nat.reduceSub, Nat.reduceMul, forall_eq, gI_uI, gI_uJ, gI_sI, Nat.add_left_cancel_iff, Nat.reduceEqDiff, and_true, true_and, and_false, false_and, not_true_eq_false, not_false_eq_true, true_implies, false_implies, implies_true, if_true, if_false, ite_true, ite_false, reduceIte, Bool.true_eq_false, Bool.false_eq_true, Nat.reduceLT, Nat.reduceLeDiff, decide_true, decide_false]
  refine ⟨fun q => absurd q (by omega), fun _ => ⟨by omega, hq _ ((FI.u (P := PM b) pm5).tr (FI.u pm0)) ?_⟩⟩
  obtain ⟨a1, ⟨S, a2, a3, a4⟩, a5, a6, a7, a8⟩ := h
  have h8 := hB.1
  have hp := hB.2.1
  have hf : ∀ j, j < 40 → j ≠ 6 → fWrite v M j = M j := fun j h1 h2 => by unfold fWrite; rw [if_neg (by omega), if_neg (by omega), if_neg h2]
  have f6 : fWrite v M 6 = M 6 + 1 := by unfold fWrite; rw [if_neg (by omega), if_neg (by omega), if_pos rfl]
  refine ⟨fun j hj => ?_, ⟨S, by rw [gI_uI, if_neg (by omega), gI_uI, if_neg (by omega)]; exact a2, a3, fun k => ?_⟩, fun k hk => ?_, fun k hk => ?_, fun k hk => ?_, fun k hk hk2 => ?_⟩
  · rw [gI_uI]
    by_cases e : j = 13
    · rw [if_pos ⟨rfl, e⟩, e]
      show _ = nI (fWrite v M 6)
      rw [f6]
    · rw [if_neg (by omega), gI_uI, if_neg (by omega), a1 j hj]
      congr 1
      unfold scv
      rw [hf 0 (by omega) (by omega), hf 1 (by omega) (by omega), hf 2 (by omega) (by omega), hf 3 (by omega) (by omega), hf 4 (by omega) (by omega), hf 5 (by omega) (by omega)]
      (repeat' split) <;> first | rfl | omega
  · rw [a4 k]
    by_cases q : k < nw
    · rw [hf (8 + k) (by omega) (by omega)]
    · rw [decide_eq_false q]; rfl
  · rw [gI_uI, if_neg (by omega), gI_uI, if_neg (by omega), hf _ (by omega) (by omega)]; exact a5 k hk
  · rw [gI_uI, if_neg (by omega), gI_uI, if_neg (by omega), hf _ (by omega) (by omega)]; exact a6 k hk
  · rw [gI_uI, if_neg (by omega), gI_uI, if_neg (by omega)]; exact a7 k hk
  · rw [f6] at hk2 ⊢
    rw [gI_uI, if_neg (by omega), gI_uI]
    unfold fWrite
    by_cases q : k = 0
    · subst q
      rw [if_pos ⟨rfl, by omega⟩, if_pos rfl]
    · rw [if_neg (by rintro ⟨-, e⟩; omega), if_neg (by omega), if_pos (by omega)]
      have := a8 (k - 1) (by omega) (by omega)
      rw [show M 6 - 1 - (k - 1) = M 6 + 1 - 1 - k from by omega] at this
      rw [this]
      congr 2; omega
theorem c_read {k : Nat} (h : BR b nw pl st M) (hn : M 6 < 2 ^ 30) (hk : k < 10) (hk2 : k < M 6) (hq : Q (nI (M (40 + k))) st) : wX2_readNote b (nI k) st Q := by
  unfold wX2_readNote
  have e13 := h.no
  have er := pk_rem (a := M 6 - 1 - k) (d := 10) (by omega) (by omega) (by omega)
  have hlt := Nat.mod_lt (M 6 - 1 - k) (show 10 > 0 by omega)
  have en := h.2.2.2.2.2 k hk hk2
  simp (disch := omega) only [e13, er, en, li0, li1, li2, li3, li4, li5, li6, li7, li8, li9, li10, li11, li12, li13, li14, li15, li16, li17, li18, li19, li20, li21, li22, li23, li24, li25, li26, li27, li28, li29, li30, li31, li32, li40, li48, li50, li57, li60, li97, li99, li100, li112, li119, li120, li122, li127, li128, li200, li201, li202, li203, li204, li205, li206, li207, li208, li209, li210, li211, li212, li213, li214, li215, li216, li217, li218, li219, li225, li255, li300, li301, li400, li512, li600, li999, li1000, li1600, li1000000, eb1, eb2, eb3, eb4, eb5, be1, be2, be3, be4, be5, nI_add, pk_mul, Nat.add_right_cancel_iff, pk_sub, nI_leI, nI_ltI, nI_eq, nI_clamp, vin_iff, ne_m1, m1_ne, lt_m1, le_m1, m1_lt, m1_le, bI0, bI1, Nat.reduceAdd, Nat.reduceSub, Nat.reduceMul, forall_eq, gI_uI, gI_uJ, gI_sI, Nat.add_left_cancel_iff, Nat.reduceEqDiff, and_true, true_and, and_false, false_and, not_true_eq_false, not_false_eq_true, true_implies, false_implies, implies_true, if_true, if_false, ite_true, ite_false, reduceIte, Bool.true_eq_false, Bool.false_eq_true, Nat.reduceLT, Nat.reduceLeDiff, decide_true, decide_false]
  exact ⟨fun q => absurd q (by omega), fun _ => ⟨by omega, hq⟩⟩
end CBG

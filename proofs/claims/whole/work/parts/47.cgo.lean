/-! the class's bridge: bits counted, two walkers, planks worn -/
def bcf (p1 : Int32) : Int32 :=
  let x1 := (p1 - ((((p1 : Int32).toUInt32 >>> ((1 : Int32).toUInt32 &&& Int32.toUInt32 31)).toInt32) &&& 1431655765))
  let x2 := ((x1 &&& 858993459) + ((((x1 : Int32).toUInt32 >>> ((2 : Int32).toUInt32 &&& Int32.toUInt32 31)).toInt32) &&& 858993459))
  let x3 := ((x2 + (((x2 : Int32).toUInt32 >>> ((4 : Int32).toUInt32 &&& Int32.toUInt32 31)).toInt32)) &&& 252645135)
  let x4 := (x3 + (((x3 : Int32).toUInt32 >>> ((8 : Int32).toUInt32 &&& Int32.toUInt32 31)).toInt32))
  let x5 := (x4 + (((x4 : Int32).toUInt32 >>> ((16 : Int32).toUInt32 &&& Int32.toUInt32 31)).toInt32))
  x5 &&& 63
def pc8 (S : Nat) : Nat := S % 2 + S / 2 % 2 + S / 4 % 2 + S / 8 % 2 + S / 16 % 2 + S / 32 % 2 + S / 64 % 2 + S / 128 % 2
set_option maxRecDepth 100000 in
theorem bcf_pc : ∀ S, S < 256 → bcf (nI S) = nI (pc8 S) := by decide +kernel
theorem c_bits {p : Int32} {st : St} {Q : Int32 → St → Prop} (h : Q (bcf p) st) : wJ6_bitCount_0f7a4 p st Q := by
  unfold wJ6_bitCount_0f7a4
  rintro _ rfl _ rfl _ rfl _ rfl _ rfl
  exact h
theorem pc8_near {nw S t : Nat} {M : Nat → Nat} (hw : nw ≤ 8) (hM : MB t M) (h : SBt nw M S) : pc8 S = fNear M nw := by
  have hb : ∀ k, k < 8 → S / 2 ^ k % 2 = if k < nw then 1 - M (8 + k) else 0 := by
    intro k hk
    have h1 := h.2 k
    rw [Nat.testBit_eq_decide_div_mod_eq] at h1
    have h2 : S / 2 ^ k % 2 < 2 := Nat.mod_lt _ (by omega)
    have h3 := hM.si hk
    by_cases q : k < nw
    · rw [if_pos q]
      rw [decide_eq_true q, Bool.true_and] at h1
      have h4 := decide_eq_decide.mp h1
      omega
    · rw [if_neg q]
      rw [decide_eq_false q, Bool.false_and] at h1
      have := of_decide_eq_false h1
      omega
  have b0 := hb 0 (by omega); have b1 := hb 1 (by omega); have b2 := hb 2 (by omega); have b3 := hb 3 (by omega)
  have b4 := hb 4 (by omega); have b5 := hb 5 (by omega); have b6 := hb 6 (by omega); have b7 := hb 7 (by omega)
  simp only [Nat.pow_zero, Nat.div_one, Nat.reducePow, Nat.pow_one] at b0 b1 b2 b3 b4 b5 b6 b7
  unfold pc8
  rw [b0, b1, b2, b3, b4, b5, b6, b7]
  have hn : nw = 0 ∨ nw = 1 ∨ nw = 2 ∨ nw = 3 ∨ nw = 4 ∨ nw = 5 ∨ nw = 6 ∨ nw = 7 ∨ nw = 8 := by omega
  rcases hn with rfl | rfl | rfl | rfl | rfl | rfl | rfl | rfl | rfl <;> simp [fNear]
section CBW
variable {b nw pl t : Nat} {wt mi : Nat → Nat} {M M' : Nat → Nat} {st st' : St} {Q : Int32 → St → Prop} {Qv : St → Prop}
theorem c_countNear (hB : BB nw pl wt mi) (hM : MB t M) (h : BR b nw pl st M) (hq : Q (nI (fNear M nw)) st) : wX2_countNear b st Q := by
  unfold wX2_countNear
  obtain ⟨S, eS, hS⟩ := h.2.1
  refine c_bits ?_
  rw [eS, bcf_pc S hS.1, pc8_near hB.1 hM hS]
  exact hq
theorem c_countFar (hB : BB nw pl wt mi) (hM : MB t M) (h : BR b nw pl st M) (hq : Q (nI (nw - fNear M nw)) st) : wX2_countFar b st Q := by
  unfold wX2_countFar
  obtain ⟨S, eS, hS⟩ := h.2.1
  refine c_bits ?_
  have h1 := fNear_le (M := M) (k := nw)
  rw [eS, bcf_pc S hS.1, pc8_near hB.1 hM hS, h.w0, pk_sub h1]
  exact hq
theorem c_hasO {x : Option Nat} (hB : BB nw pl wt mi) (h : BR b nw pl st M) (hx : ∀ o, x = some o → o < nw) (hq : Q (bI x.isSome) st) : wX2_hasWalker b (oI x) st Q := by
  cases x with
  | none => exact c_hasN hq
  | some o => exact c_has hB h (hx o rfl) hq
theorem c_minutes {one : Nat} {other : Option Nat} (hB : BB nw pl wt mi) (hC : CB b nw wt mi st) (h : BR b nw pl st M) (hO : OK2 nw one other) (hq : Q (nI (fTakes mi one other)) st) : wX2_minutesFor b (nI one) (oI other) st Q := by
  unfold wX2_minutesFor wX2_minutesFor_L18
  have h8 := hB.1
  have h1 := hO.1
  refine c_has hB h hO.1 ?_
  have e1 := hC.2 one hO.1
  have b1 := (hB.2.2 one).2
  simp (disch := omega) only [e1, li0, li1, li2, li3, li4, li5, li6, li7, li8, li9, li10, li11, li12, li13, li14, li15, li16, li17, li18, li19, li20, li21, li22, li23, li24, li25, li26, li27, li28, li29, li30, li31, li32, li40, li48, li50, li57, li60, li97, li99, li100, li112, li119, li120, li122, li127, li128, li200, li201, li202, li203, li204, li205, li206, li207, li208, li209, li210, li211, li212, li213, li214, li215, li216, li217, li218, li219, li225, li255, li300, li301, li400, li512, li600, li999, li1000, li1600, li1000000, eb1, eb2, eb3, eb4, eb5, be1, be2, be3, be4, be5, nI_add, pk_mul, Nat.add_right_cancel_iff, pk_sub, nI_leI, nI_ltI, nI_eq, nI_clamp, vin_iff, ne_m1, m1_ne, lt_m1, le_m1, m1_lt, m1_le, bI0, bI1, Nat.reduceAdd, Nat.reduceSub, Nat.reduceMul, forall_eq, gI_uI, gI_uJ, gI_sI, Nat.add_left_cancel_iff, Nat.reduceEqDiff, and_true, true_and, and_false, false_and, not_true_eq_false, not_false_eq_true, true_implies, false_implies, implies_true, if_true, if_false, ite_true, ite_false, reduceIte, Bool.true_eq_false, Bool.false_eq_true, Nat.reduceLT, Nat.reduceLeDiff, decide_true, decide_false]
  refine ⟨by omega, c_hasO hB h (fun o e => (hO.2 o e).1) ?_⟩
  cases other with
  | none => exact ⟨fun _ => hq, fun q => absurd rfl q⟩
  | some o =>
    have ho := hO.2 o rfl
    have e2 := hC.2 o ho.1
    have b2 := (hB.2.2 o).2
    refine ⟨fun q => absurd (show nI 1 = nI 0 from q) (by decide), fun _ => ?_⟩
    unfold fTakes at hq
    simp only at hq
    simp (disch := omega) only [oI_some, e2, li0, li1, li2, li3, li4, li5, li6, li7, li8, li9, li10, li11, li12, li13, li14, li15, li16, li17, li18, li19, li20, li21, li22, li23, li24, li25, li26, li27, li28, li29, li30, li31, li32, li40, li48, li50, li57, li60, li97, li99, li100, li112, li119, li120, li122, li127, li128, li200, li201, li202, li203, li204, li205, li206, li207, li208, li209, li210, li211, li212, li213, li214, li215, li216, li217, li218, li219, li225, li255, li300, li301, li400, li512, li600, li999, li1000, li1600, li1000000, eb1, eb2, eb3, eb4, eb5, be1, be2, be3, be4, be5, nI_add, pk_mul, Nat.add_right_cancel_iff, pk_sub, nI_leI, nI_ltI, nI_eq, nI_clamp, vin_iff, ne_m1, m1_ne, lt_m1, le_m1, m1_lt, m1_le, bI0, bI1, Nat.reduceAdd, Nat.reduceSub, Nat.reduceMul, forall_eq, gI_uI, gI_uJ, gI_sI, Nat.add_left_cancel_iff, Nat.reduceEqDiff, and_true, true_and, and_false, false_and, not_true_eq_false, not_false_eq_true, true_implies, false_implies, implies_true, if_true, if_false, ite_true, ite_false, reduceIte, Bool.true_eq_false, Bool.false_eq_true, Nat.reduceLT, Nat.reduceLeDiff, decide_true, decide_false]
    refine ⟨by omega, fun q => ?_, fun q => ⟨by omega, ?_⟩⟩
    · rw [if_neg (by omega)] at hq; exact hq
    · rw [if_pos (by omega)] at hq; exact hq
theorem c_weight {one : Nat} {other : Option Nat} (hB : BB nw pl wt mi) (hC : CB b nw wt mi st) (h : BR b nw pl st M) (hO : OK2 nw one other) (hq : Q (nI (fLoad wt one other)) st) : wX2_weightFor b (nI one) (oI other) st Q := by
  unfold wX2_weightFor wX2_weightFor_L18
  have h8 := hB.1
  have h1 := hO.1
  refine c_has hB h hO.1 ?_
  have e1 := hC.1 one hO.1
  have b1 := (hB.2.2 one).1
  simp (disch := omega) only [e1, li0, li1, li2, li3, li4, li5, li6, li7, li8, li9, li10, li11, li12, li13, li14, li15, li16, li17, li18, li19, li20, li21, li22, li23, li24, li25, li26, li27, li28, li29, li30, li31, li32, li40, li48, li50, li57, li60, li97, li99, li100, li112, li119, li120, li122, li127, li128, li200, li201, li202, li203, li204, li205, li206, li207, li208, li209, li210, li211, li212, li213, li214, li215, li216, li217, li218, li219, li225, li255, li300, li301, li400, li512, li600, li999, li1000, li1600, li1000000, eb1, eb2, eb3, eb4, eb5, be1, be2, be3, be4, be5, nI_add, pk_mul, Nat.add_right_cancel_iff, pk_sub, nI_leI, nI_ltI, nI_eq, nI_clamp, vin_iff, ne_m1, m1_ne, lt_m1, le_m1, m1_lt, m1_le, bI0, bI1, Nat.reduceAdd, Nat.reduceSub, Nat.reduceMul, forall_eq, gI_uI, gI_uJ, gI_sI, Nat.add_left_cancel_iff, Nat.reduceEqDiff, and_true, true_and, and_false, false_and, not_true_eq_false, not_false_eq_true, true_implies, false_implies, implies_true, if_true, if_false, ite_true, ite_false, reduceIte, Bool.true_eq_false, Bool.false_eq_true, Nat.reduceLT, Nat.reduceLeDiff, decide_true, decide_false]
  refine ⟨by omega, c_hasO hB h (fun o e => (hO.2 o e).1) ?_⟩
  cases other with
  | none => exact ⟨fun _ => hq, fun q => absurd rfl q⟩
  | some o =>
    have ho := hO.2 o rfl
    have e2 := hC.1 o ho.1
    have b2 := (hB.2.2 o).1
    refine ⟨fun q => absurd (show nI 1 = nI 0 from q) (by decide), fun _ => ?_⟩
    simp (disch := omega) only [oI_some, e2, li0, li1, li2, li3, li4, li5, li6, li7, li8, li9, li10, li11, li12, li13, li14, li15, li16, li17, li18, li19, li20, li21, li22, li23, li24, li25, li26, li27, li28, li29, li30, li31, li32, li40, li48, li50, li57, li60, li97, li99, li100, li112, li119, li120, li122, li127, li128, li200, li201, li202, li203, li204, li205, li206, li207, li208, li209, li210, li211, li212, li213, li214, li215, li216, li217, li218, li219, li225, li255, li300, li301, li400, li512, li600, li999, li1000, li1600, li1000000, eb1, eb2, eb3, eb4, eb5, be1, be2, be3, be4, be5, nI_add, pk_mul, Nat.add_right_cancel_iff, pk_sub, nI_leI, nI_ltI, nI_eq, nI_clamp, vin_iff, ne_m1, m1_ne, lt_m1, le_m1, m1_lt, m1_le, bI0, bI1, Nat.reduceAdd, Nat.reduceSub, Nat.reduceMul, forall_eq, gI_uI, gI_uJ, gI_sI, Nat.add_left_cancel_iff, Nat.reduceEqDiff, and_true, true_and, and_false, false_and, not_true_eq_false, not_false_eq_true, true_implies, false_implies, implies_true, if_true, if_false, ite_true, ite_false, reduceIte, Bool.true_eq_false, Bool.false_eq_true, Nat.reduceLT, Nat.reduceLeDiff, decide_true, decide_false]
    exact ⟨by omega, hq⟩
theorem there_la {k : Nat} (hM : MB t M) (hk : k < 8) : (bI (decide (M (8 + k) = 0)) = nI (1 - M 0)) ↔ fThere M (some k) = true := by
  have h1 := hM.si hk
  have h0 := hM.la
  unfold fThere
  rw [decide_eq_true_iff]
  by_cases q : M (8 + k) = 0
  · rw [decide_eq_true q]
    show nI 1 = _ ↔ _
    rw [nI_eq (by omega) (by omega)]; omega
  · rw [decide_eq_false q]
    show nI 0 = _ ↔ _
    rw [nI_eq (by omega) (by omega)]; omega
theorem c_canGo {one : Nat} {other : Option Nat} (hB : BB nw pl wt mi) (hM : MB 120 M) (hC : CB b nw wt mi st) (h : BR b nw pl st M) (hO : OK2 nw one other) (hq : Q (bI (fCan pl mi one other M)) st) : wX2_canGo b (nI one) (oI other) st Q := by
  unfold wX2_canGo wX2_canGo_L52
  have h8 := hB.1
  have h1 := hO.1
  have e7 := h.la
  have bo := hM.oi
  have bm := hM.mi
  have bt := fTakes_le (one := one) (other := other) hB
  refine c_minutes hB hC h hO ?_
  refine c_has hB h hO.1 ?_
  refine ⟨fun q => absurd q (by decide), fun _ => ?_⟩
  refine c_near hB h hO.1 ?_
  rw [e7, there_la hM (by omega)]
  unfold fCan at hq
  refine ⟨fun q => ?_, fun q => ?_⟩
  · rw [(Bool.not_eq_true _).mp q] at hq; exact hq
  rw [q, Bool.true_and] at hq
  have tail : fThere M other = true → wX2_canBePassed b st (fun r12 st11 => ((r12 = 0 → Q 0 st11) ∧ (¬ r12 = 0 → (((gI st11 b 8) < nI (fTakes mi one other) → Q 0 st11) ∧ (¬ (gI st11 b 8) < nI (fTakes mi one other) → ((120 < ((gI st11 b 10) + nI (fTakes mi one other)) → Q 0 st11) ∧ (¬ 120 < ((gI st11 b 10) + nI (fTakes mi one other)) → Q 1 st11))))))) := by
    intro q2
    rw [q2, Bool.true_and] at hq
    refine c_pass hB hM h ?_
    refine ⟨fun q => ?_, fun q => ?_⟩
    · rw [bI0.mp q] at hq; exact hq
    rw [(Bool.not_eq_false _).mp (fun e => q (bI0.mpr e)), Bool.true_and] at hq
    have e8 := h.oi
    have e10 := h.m10
    simp (disch := omega) only [e8, e10, li0, li1, li2, li3, li4, li5, li6, li7, li8, li9, li10, li11, li12, li13, li14, li15, li16, li17, li18, li19, li20, li21, li22, li23, li24, li25, li26, li27, li28, li29, li30, li31, li32, li40, li48, li50, li57, li60, li97, li99, li100, li112, li119, li120, li122, li127, li128, li200, li201, li202, li203, li204, li205, li206, li207, li208, li209, li210, li211, li212, li213, li214, li215, li216, li217, li218, li219, li225, li255, li300, li301, li400, li512, li600, li999, li1000, li1600, li1000000, eb1, eb2, eb3, eb4, eb5, be1, be2, be3, be4, be5, nI_add, pk_mul, Nat.add_right_cancel_iff, pk_sub, nI_leI, nI_ltI, nI_eq, nI_clamp, vin_iff, ne_m1, m1_ne, lt_m1, le_m1, m1_lt, m1_le, bI0, bI1, Nat.reduceAdd, Nat.reduceSub, Nat.reduceMul, forall_eq, gI_uI, gI_uJ, gI_sI, Nat.add_left_cancel_iff, Nat.reduceEqDiff, and_true, true_and, and_false, false_and, not_true_eq_false, not_false_eq_true, true_implies, false_implies, implies_true, if_true, if_false, ite_true, ite_false, reduceIte, Bool.true_eq_false, Bool.false_eq_true, Nat.reduceLT, Nat.reduceLeDiff, decide_true, decide_false]
    refine ⟨fun q => ?_, fun q => ⟨fun q2 => ?_, fun q2 => ?_⟩⟩
    · rw [decide_eq_false (by omega)] at hq; exact hq
    · rw [decide_eq_true (by omega), decide_eq_false (by omega)] at hq; exact hq
    · rw [decide_eq_true (by omega), decide_eq_true (by omega)] at hq; exact hq
  cases other with
  | none => exact ⟨fun _ => tail rfl, fun q => absurd rfl q⟩
  | some o =>
    have ho := hO.2 o rfl
    refine ⟨fun q => ((ne_m1 (by omega)).mp q).elim, fun _ => ?_⟩
    refine c_has hB h ho.1 ?_
    refine ⟨fun q => absurd q (by decide), fun _ => ?_⟩
    refine c_near hB h ho.1 ?_
    rw [e7, there_la hM (by omega)]
    refine ⟨fun q => ?_, fun q => ?_⟩
    · rw [(Bool.not_eq_true _).mp q] at hq; exact hq
    · exact tail q
/-- the cells that a bridge at b writes when it moves -/
def PM (b : Nat) (d : Nat) : Prop := d = b ∨ d = b + 3 ∨ d = b + 4 ∨ d = b + 5
theorem CB.fi (hC : CB b nw wt mi st) (hF : FI (PM b) st st') : CB b nw wt mi st' := ⟨fun k hk => (hF.gI (by unfold PM; omega)).trans (hC.1 k hk), fun k hk => (hF.gI (by unfold PM; omega)).trans (hC.2 k hk)⟩
theorem scv_eq (hm : ∀ j, j < 16 ∨ 40 ≤ j → M' j = M j) (j : Nat) : scv nw pl M' j = scv nw pl M j := by
  unfold scv
  rw [hm 0 (by omega), hm 1 (by omega), hm 2 (by omega), hm 3 (by omega), hm 4 (by omega), hm 5 (by omega), hm 6 (by omega)]
theorem BR.keep (h : BR b nw pl st M) (hw : nw ≤ 8) (h1 : ∀ j, gI st' b j = gI st b j) (hm : ∀ j, j < 16 ∨ 40 ≤ j → M' j = M j) (h3 : ∀ k, k < pl → gI st' (b + 3) k = nI (M' (16 + k))) (h4 : ∀ k, k < pl → gI st' (b + 4) k = nI (M' (28 + k))) (h5 : ∀ k, k < 12 → bz (gI st' (b + 4) k)) (h6 : ∀ j, gI st' (b + 5) j = gI st (b + 5) j) : BR b nw pl st' M' := by
  obtain ⟨a1, ⟨S, a2, a3, a4⟩, -, -, -, a6⟩ := h
  refine ⟨fun j hj => by rw [h1, scv_eq hm]; exact a1 j hj, ⟨S, by rw [h1]; exact a2, a3, fun k => ?_⟩, h3, h4, h5, fun k hk hk2 => ?_⟩
  · rw [a4 k]
    by_cases q : k < nw
    · rw [hm (8 + k) (by omega)]
    · rw [decide_eq_false q]; rfl
  · rw [hm 6 (by omega)] at hk2 ⊢
    rw [h6, hm (40 + k) (by omega)]
    exact a6 k hk hk2
theorem sru16 {k s r j : Nat} (hj : j < 12) : sru M k s r (16 + j) = if j = k then s else M (16 + j) := by
  unfold sru
  rw [if_neg (by omega)]
  by_cases e : j = k
  · rw [if_pos (by omega), if_pos e]
  · rw [if_neg (by omega), if_neg e]
theorem sru28 {k s r j : Nat} (hk : k < 12) : sru M k s r (28 + j) = if j = k then r else M (28 + j) := by
  unfold sru
  by_cases e : j = k
  · rw [if_pos (by omega), if_pos e]
  · rw [if_neg (by omega), if_neg (by omega), if_neg e]
theorem BR.sr (h : BR b nw pl st M) (hB : BB nw pl wt mi) {k s r : Nat} (hk : k < pl) (hr : r ≤ 1) : BR b nw pl (uI (uI st (b + 3) k (nI s)) (b + 4) k (nI r)) (sru M k s r) := by
  have hp := hB.2.1
  refine h.keep hB.1 (fun j => ?_) (fun j hj => sru_ne hj (by omega)) (fun j hj => ?_) (fun j hj => ?_) (fun j hj => ?_) (fun j => ?_)
  · rw [gI_uI, gI_uI, if_neg (by omega), if_neg (by omega)]
  · rw [gI_uI, if_neg (by omega), gI_uI, sru16 (by omega)]
    by_cases e : j = k
    · rw [if_pos ⟨rfl, e⟩, if_pos e]
    · rw [if_neg (fun q => e q.2), if_neg e]; exact h.ss hj
  · rw [gI_uI, sru28 (by omega)]
    by_cases e : j = k
    · rw [if_pos ⟨rfl, e⟩, if_pos e]
    · rw [if_neg (fun q => e q.2), if_neg e, gI_uI, if_neg (by omega)]; exact h.rr hj
  · rw [gI_uI]
    split
    · have : r = 0 ∨ r = 1 := by omega
      rcases this with rfl | rfl
      · exact Or.inl rfl
      · exact Or.inr rfl
    · rw [gI_uI, if_neg (by omega)]; exact h.bz9 hj
  · rw [gI_uI, gI_uI, if_neg (by omega), if_neg (by omega)]
theorem BR.s1 (h : BR b nw pl st M) (hB : BB nw pl wt mi) {k s : Nat} (hk : k < pl) : BR b nw pl (uI st (b + 3) k (nI s)) (sru M k s (M (28 + k))) := by
  have hp := hB.2.1
  refine h.keep hB.1 (fun j => ?_) (fun j hj => sru_ne hj (by omega)) (fun j hj => ?_) (fun j hj => ?_) (fun j hj => ?_) (fun j => ?_)
  · rw [gI_uI, if_neg (by omega)]
  · rw [gI_uI, sru16 (by omega)]
    by_cases e : j = k
    · rw [if_pos ⟨rfl, e⟩, if_pos e]
    · rw [if_neg (fun q => e q.2), if_neg e]; exact h.ss hj
  · rw [gI_uI, if_neg (by omega), sru28 (by omega)]
    by_cases e : j = k
    · rw [if_pos e, ← e]; exact h.rr hj
    · rw [if_neg e]; exact h.rr hj
  · rw [gI_uI, if_neg (by omega)]; exact h.bz9 hj
  · rw [gI_uI, if_neg (by omega)]
theorem BR.r1 (h : BR b nw pl st M) (hB : BB nw pl wt mi) {k r : Nat} (hk : k < pl) (hr : r ≤ 1) : BR b nw pl (uI st (b + 4) k (nI r)) (sru M k (M (16 + k)) r) := by
  have hp := hB.2.1
  refine h.keep hB.1 (fun j => ?_) (fun j hj => sru_ne hj (by omega)) (fun j hj => ?_) (fun j hj => ?_) (fun j hj => ?_) (fun j => ?_)
  · rw [gI_uI, if_neg (by omega)]
  · rw [gI_uI, if_neg (by omega), sru16 (by omega)]
    by_cases e : j = k
    · rw [if_pos e, ← e]; exact h.ss hj
    · rw [if_neg e]; exact h.ss hj
  · rw [gI_uI, sru28 (by omega)]
    by_cases e : j = k
    · rw [if_pos ⟨rfl, e⟩, if_pos e]
    · rw [if_neg (fun q => e q.2), if_neg e]; exact h.rr hj
  · rw [gI_uI]
    split
    · have : r = 0 ∨ r = 1 := by omega
      rcases this with rfl | rfl
      · exact Or.inl rfl
      · exact Or.inr rfl
    · exact h.bz9 hj
  · rw [gI_uI, if_neg (by omega)]
/-- one of the plain numbers -/
theorem BR.sc (h : BR b nw pl st M) (hw : nw ≤ 8) {i v : Nat} (h1 : 1 ≤ i) (h5 : i ≤ 5) : BR b nw pl (uI st b (i + 7) (nI v)) (up M i v) := by
  obtain ⟨a1, ⟨S, a2, a3, a4⟩, a5, a6, a7, a8⟩ := h
  refine ⟨fun j hj => ?_, ⟨S, by rw [gI_uI, if_neg (by omega)]; exact a2, a3, fun k => ?_⟩, fun k hk => ?_, fun k hk => ?_, fun k hk => ?_, fun k hk hk2 => ?_⟩
  · rw [gI_uI]
    have hi : i = 1 ∨ i = 2 ∨ i = 3 ∨ i = 4 ∨ i = 5 := by omega
    by_cases e : j = i + 7
    · rw [if_pos ⟨rfl, e⟩, e]
      rcases hi with rfl | rfl | rfl | rfl | rfl <;> rfl
    · rw [if_neg (by omega), a1 j hj]
      congr 1
      unfold scv
      simp only [up_a]
      rcases hi with rfl | rfl | rfl | rfl | rfl <;> (repeat' split) <;> first | rfl | omega
  · rw [a4 k]
    by_cases q : k < nw
    · rw [up_a, if_neg (by omega)]
    · rw [decide_eq_false q]; rfl
  · rw [gI_uI, if_neg (by omega), up_a, if_neg (by omega)]; exact a5 k hk
  · rw [gI_uI, if_neg (by omega), up_a, if_neg (by omega)]; exact a6 k hk
  · rw [gI_uI, if_neg (by omega)]; exact a7 k hk
  · rw [up_a, if_neg (by omega)] at hk2
    rw [gI_uI, if_neg (by omega), up_a, if_neg (by omega), up_a, if_neg (by omega)]
    exact a8 k hk hk2
end CBW

/-! the start, and all cases of the law -/
def A0 : Bk := fun r k => if r = 0 ∧ k = 1 then 4 else if r = 3 ∧ k < 4 then 10 else 0
def PC0 (st : St) : Prop := CB 4 0 (A0 1) (A0 2) st ∧ BR 4 0 4 st (fBeg (A0 3)) ∧ gI st 20 9 = nI 0 ∧ gI st 20 15 = nI 0 ∧ gI st 32 4 = nI 0 ∧ gI st 18 2 = nI 0 ∧ gI st 1 1 = nI 0 ∧ gI st 0 8 = -nI 1 ∧ st.2 = stC0.2
def PM0 (st : St) : Prop := RM st (fBeg (A0 3)) ∧ gI st 60 0 = nI 0 ∧ gI st 60 1 = nI 4 ∧ gI st 60 2 = nI 0 ∧ gI st 54 2 = nI 0 ∧ gI st 54 3 = -nI 1 ∧ st.2 = stM0.2
theorem A0_3 (k : Nat) : A0 3 k = if k < 4 then 10 else 0 := by
  unfold A0
  rw [if_neg (by omega)]
  by_cases q : k < 4
  · rw [if_pos ⟨rfl, q⟩, if_pos q]
  · rw [if_neg (fun w => q w.2), if_neg q]
theorem A0_12 {r k : Nat} (h : r ≠ 0 ∧ r ≠ 3) : A0 r k = 0 := by
  unfold A0
  rw [if_neg (by omega), if_neg (by omega)]
def P2024 (d : Nat) : Prop := d = 20 ∨ d = 24
theorem init_c : wX9_init stC0 PC0 := by
  unfold wX9_init
  refine ⟨rfl, ?_⟩
  intro c1 ec
  have ec : c1 = 20 := ec
  subst ec
  unfold wX1_becomeFirst wX1_clear
  intro s1 e1 s2 e2 s3 e3 s4 e4
  have F4 : FI P2024 stC0 s4 := by
    rw [e4, e3, e2, e1]
    exact (((FI.u (P := P2024) (Or.inl rfl)).tr (FI.u (P := P2024) (Or.inl rfl))).tr (FI.u (P := P2024) (Or.inl rfl))).tr (FI.u (P := P2024) (Or.inl rfl))
  have z4 : ∀ i, i = 4 ∨ i = 6 ∨ i = 9 ∨ i = 15 → gI s4 20 i = nI 0 := by
    intro i hi
    rw [e4, gI_uI, e3, gI_uI, e2, gI_uI, e1, gI_uI]
    rcases hi with rfl | rfl | rfl | rfl <;> simp <;> rfl
  refine lp_inv (n := 4) (I := fun k s => ∃ u, s = (nI k, u) ∧ FI P2024 stC0 u ∧ gI u 20 4 = nI 0 ∧ gI u 20 6 = nI k ∧ gI u 20 9 = nI 0 ∧ gI u 20 15 = nI 0 ∧ ∀ i, i < k → gI u 24 i = nI 10) ?_ ?_ ⟨s4, rfl, F4, z4 4 (by omega), z4 6 (by omega), z4 9 (by omega), z4 15 (by omega), fun i hi => absurd hi (by omega)⟩
  · rintro k s hk ⟨u, rfl, hF, h4, h6, h9, h15, hs⟩ R hR2
    show wX1_becomeFirst_L6 20 R (nI k) u _
    unfold wX1_becomeFirst_L6 wX1_addPlank
    rw [h6, nI_clamp (by omega)]
    refine ⟨fun q => absurd ((nI_leI (a := 4) (by omega) (by omega)).mp q) (by omega), fun _ => ⟨fun q => absurd ((nI_leI (a := 12) (by omega) (by omega)).mp q) (by omega), fun _ => ⟨(vin_iff (by omega)).mpr (by omega), ?_⟩⟩⟩
    intro t1 f1 t2 f2
    have f1 : t1 = uI u 24 k (nI 10) := f1
    have g6 : gI t1 20 6 = nI k := by rw [f1, gI_uI, if_neg (by omega)]; exact h6
    rw [g6, nI_1] at f2
    rw [nI_1]
    rintro _ rfl
    have o : ∀ i, i ≠ 6 → gI t2 20 i = gI u 20 i := fun i hi => by rw [f2, gI_uI, if_neg (by omega), f1, gI_uI, if_neg (by omega)]
    refine hR2 _ ⟨t2, rfl, hF.tr (by rw [f2, f1]; exact (FI.u (P := P2024) (Or.inr rfl)).tr (FI.u (P := P2024) (Or.inl rfl))), (o 4 (by omega)).trans h4, by rw [f2, gI_uI, if_pos ⟨rfl, rfl⟩], (o 9 (by omega)).trans h9, (o 15 (by omega)).trans h15, fun i hi => ?_⟩
    rw [f2, gI_uI, if_neg (by omega), f1, gI_uI]
    by_cases q : i = k
    · rw [if_pos ⟨rfl, q⟩]
    · rw [if_neg (fun w => q w.2)]; exact hs i (by omega)
  · rintro s ⟨u, rfl, hF, h4, h6, h9, h15, hs⟩ R
    show wX1_becomeFirst_L6 20 R (nI 4) u _
    unfold wX1_becomeFirst_L6
    refine ⟨fun _ => ?_, fun q => absurd (nI_le (a := 4) (Nat.le_refl 4) (by omega)) q⟩
    have r6 : gR u 0 6 = 20 := hF.gR
    show kd (gR u 0 6) = 1 ∧ ∀ c3, c3 = gR u 0 6 → wX2_begin 4 c3 u (fun st4 => PC0 st4)
    rw [r6]
    refine ⟨rfl, ?_⟩
    rintro _ rfl
    refine c_begin (b := 4) (nw := 0) (pl := 4) (wt := A0 1) (mi := A0 2) (sg := A0 3) (by omega) (by omega) (by omega) h4 h6 (fun k hk => absurd hk (by omega)) (fun k hk => absurd hk (by omega)) (fun k hk => ?_) (fun st' hF' hC hB => ?_)
    · rw [A0_3, if_pos hk]; exact hs k hk
    · have np : ∀ d, 10 ≤ d ∨ d < 4 → ¬ PB 4 d := fun d hd => by unfold PB; omega
      have nq : ∀ d, d ≠ 20 → d ≠ 24 → ¬ P2024 d := fun d w1 w2 => by unfold P2024; omega
      refine ⟨hC, hB, (hF'.gI (np _ (by omega))).trans h9, (hF'.gI (np _ (by omega))).trans h15, (hF'.gI (np _ (by omega))).trans (hF.gI (nq _ (by omega) (by omega))), (hF'.gI (np _ (by omega))).trans (hF.gI (nq _ (by omega) (by omega))), (hF'.gI (np _ (by omega))).trans (hF.gI (nq _ (by omega) (by omega))), (hF'.gI (np _ (by omega))).trans (hF.gI (nq _ (by omega) (by omega))), hF'.1.trans hF.1⟩
def P6063 (d : Nat) : Prop := d = 60 ∨ d = 63
theorem init_m : wX12_init stM0 PM0 := by
  unfold wX12_init
  intro s1 e1
  have F1 : FI P6063 stM0 s1 := by rw [e1]; exact FI.u (P := P6063) (Or.inl rfl)
  refine lp_inv (n := 4) (I := fun k s => ∃ u, s = (nI k, u) ∧ FI P6063 stM0 u ∧ gI u 60 0 = nI 0 ∧ gI u 60 1 = nI 4 ∧ gI u 60 2 = nI 0 ∧ ∀ i, gI u 63 i = if i < k then nI 10 else nI 0) ?_ ?_ ⟨s1, rfl, F1, by rw [e1, gI_uI, if_neg (by omega)]; rfl, by rw [e1, gI_uI, if_pos ⟨rfl, rfl⟩]; rfl, by rw [e1, gI_uI, if_neg (by omega)]; rfl, fun i => by rw [if_neg (by omega), e1, gI_uI, if_neg (by omega)]; rfl⟩
  · rintro k s hk ⟨u, rfl, hF, h0, h1, h2, hs⟩ R hR2
    show wX12_init_L72 R (nI k) u PM0
    unfold wX12_init_L72
    rw [nI_clamp (by omega)]
    refine ⟨fun q => absurd ((nI_leI (a := 4) (by omega) (by omega)).mp q) (by omega), fun _ => ⟨(vin_iff (by omega)).mpr (by omega), ?_⟩⟩
    intro t3 f3
    have f3 : t3 = uI u 63 k (nI 10) := f3
    rw [nI_1]
    rintro _ rfl
    refine hR2 _ ⟨t3, rfl, hF.tr (by rw [f3]; exact FI.u (P := P6063) (Or.inr rfl)), by rw [f3, gI_uI, if_neg (by omega)]; exact h0, by rw [f3, gI_uI, if_neg (by omega)]; exact h1, by rw [f3, gI_uI, if_neg (by omega)]; exact h2, fun i => ?_⟩
    rw [f3, gI_uI]
    by_cases q : i = k
    · rw [if_pos ⟨rfl, q⟩, if_pos (by omega)]
    · rw [if_neg (fun w => q w.2), hs]
      by_cases w : i < k
      · rw [if_pos w, if_pos (by omega)]
      · rw [if_neg w, if_neg (by omega)]
  · rintro s ⟨u, rfl, hF, h0, h1, h2, hs⟩ R
    show wX12_init_L72 R (nI 4) u PM0
    unfold wX12_init_L72
    refine ⟨fun _ => ?_, fun q => absurd (nI_le (a := 4) (Nat.le_refl 4) (by omega)) q⟩
    refine r_begin (sg := A0 3) (fun k hk => ?_) (fun st' hF' hM => ?_)
    · rw [hs, A0_3]
      by_cases q : k < 4
      · rw [if_pos q, if_pos q]
      · rw [if_neg q, if_neg q]
    · have nq : ∀ d, d = 54 → ¬ P6063 d := fun d w => by unfold P6063; omega
      refine ⟨hM, (hF'.gI (by unfold P56; omega)).trans h0, (hF'.gI (by unfold P56; omega)).trans h1, (hF'.gI (by unfold P56; omega)).trans h2, (hF'.gI (by unfold P56; omega)).trans (hF.gI (nq _ rfl)), (hF'.gI (by unfold P56; omega)).trans (hF.gI (nq _ rfl)), hF'.1.trans hF.1⟩
theorem stC0_R (c i : Nat) : gR stC0 c i < 54 ∧ (54 ≤ c → gR stC0 c i = 0) := by
  show (if c = 0 then (if i = 6 then 20 else if i = 7 then 37 else 0) else if c = 3 then (if i = 0 then 49 else if i = 1 then 37 else 0) else if c = 16 then (if i = 0 then 20 else if i = 1 then 4 else 0) else 0) < 54 ∧ (54 ≤ c → (if c = 0 then (if i = 6 then 20 else if i = 7 then 37 else 0) else if c = 3 then (if i = 0 then 49 else if i = 1 then 37 else 0) else if c = 16 then (if i = 0 then 20 else if i = 1 then 4 else 0) else 0) = 0)
  refine ⟨?_, fun h => ?_⟩
  · (repeat' split) <;> omega
  · rw [if_neg (by omega), if_neg (by omega), if_neg (by omega)]
theorem PC0.R {s1 : St} (h : s1.2 = stC0.2) (c i : Nat) : gR s1 c i = gR stC0 c i := congrArg (fun z : (Nat → Nat → Int64) × (Nat → Nat → Option Nat) × (Nat → Nat → Nat) => z.2.2 c i) h
theorem jn_fp {s1 s2 : St} (h1 : s1.2 = stC0.2) (h2 : s2.2 = stM0.2) : FP (fun d => 54 ≤ d) s1 (jn s1 s2) := by
  refine ⟨fun d hd => ?_, fun d i _ => ?_⟩
  · have hd : d < 54 := Nat.lt_of_not_le hd
    exact ⟨funext (fun _ => if_pos hd), funext (fun _ => if_pos hd), funext (fun _ => if_pos hd), funext (fun _ => if_pos hd)⟩
  · show (if d < 54 then gR s1 d i else if d < 67 then gR s2 d i else 0) = gR s1 d i
    by_cases q : d < 54
    · rw [if_pos q]
    · rw [if_neg q, PC0.R h1, (stC0_R d i).2 (by omega)]
      have : gR s2 d i = 0 := congrArg (fun z : (Nat → Nat → Int64) × (Nat → Nat → Option Nat) × (Nat → Nat → Nat) => z.2.2 d i) h2
      rw [this]
      split <;> rfl
theorem jn_gI {s1 s2 : St} {c i : Nat} (h : 54 ≤ c) (h2 : c < 67) : gI (jn s1 s2) c i = gI s2 c i := by
  show (if c < 54 then s1.1 c i else if c < 67 then s2.1 c i else 0) = _
  rw [if_neg (by omega), if_pos h2]; rfl
theorem inv_0 {s1 s2 : St} (hc : PC0 s1) (hm : PM0 s2) : Inv 0 (jn s1 s2) := by
  obtain ⟨c1, c2, c3, c4, c5, c6, c7, c8, c9⟩ := hc
  obtain ⟨m1, m2, m3, m4, m5, m6, m7⟩ := hm
  have F := jn_fp c9 m7
  have np : ∀ d, d < 54 → ¬ 54 ≤ d := fun d h => by omega
  have rr : ∀ c i, gR (jn s1 s2) c i = gR stC0 c i := fun c i => by
    show (if c < 54 then gR s1 c i else if c < 67 then gR s2 c i else 0) = _
    by_cases q : c < 54
    · rw [if_pos q, PC0.R c9]
    · rw [if_neg q, (stC0_R c i).2 (by omega)]
      have : gR s2 c i = 0 := congrArg (fun z : (Nat → Nat → Int64) × (Nat → Nat → Option Nat) × (Nat → Nat → Nat) => z.2.2 c i) m7
      rw [this]
      split <;> rfl
  have k0 : A0 0 0 = 0 := rfl
  have k1 : A0 0 1 = 4 := rfl
  have k2 : A0 0 2 = 0 := rfl
  have k3 : A0 0 3 = 0 := rfl
  have k4 : A0 0 4 = 0 := rfl
  refine ⟨A0, fBeg (A0 3), 0, fun _ => 0, 20, 37, -nI 1, ⟨⟨by omega, by omega, by omega, by omega, by omega, fun p hp => absurd hp (by omega), fun a ha => absurd ha (by omega)⟩, ⟨by omega, by omega, fun k => by rw [A0_12 (by omega), A0_12 (by omega)]; omega⟩, fun k hk => absurd hk (by omega), by omega, MB.beg (fun k _ => by rw [A0_3]; split <;> omega), ?_, fun q => ?_⟩, Or.inl ⟨rfl, rfl⟩, ⟨rr 0 6, rr 0 7, ⟨?_, ?_, fun p hp => absurd hp (by omega), fun a ha => absurd ha (by omega), ?_, fun i hi => absurd hi (by omega)⟩, ?_, ?_, Or.inl ?_, ⟨?_, by omega, fun i hi => absurd hi (by omega), fun _ => Nat.zero_lt_succ 255⟩, ?_⟩, ⟨fun k hk => ?_, ⟨?_, ?_, fun k hk => absurd hk (by omega), fun k hk => absurd hk (by omega)⟩, ?_, ⟨fun p hp => absurd hp (by omega), fun a ha => absurd ha (by omega)⟩, ⟨?_, by omega, fun i hi => absurd hi (by omega), fun _ => Nat.zero_lt_succ 255⟩, ?_⟩, fun c i => ?_⟩
  · unfold MC fBeg
    refine ⟨?_, ?_, ?_, ?_⟩ <;> (rw [if_neg (by omega), if_neg (by omega)]; omega)
  · unfold fBeg at q
    rw [if_neg (by omega), if_neg (by omega)] at q
    cases q
  · exact (F.gI (np _ (by omega))).trans c3
  · exact (F.gI (np _ (by omega))).trans c4
  · exact (F.gI (np _ (by omega))).trans c5
  · exact c1.fp F (np _ (by omega)) (np _ (by omega))
  · exact c2.fp F (fun d w1 w2 => np d (by omega))
  · exact (F.gI (np _ (by omega))).trans c6
  · exact (F.gI (np _ (by omega))).trans c7
  · exact (F.gI (np _ (by omega))).trans c8
  · rw [jn_gI (by omega) (by omega)]; exact m1 k hk
  · rw [jn_gI (by omega) (by omega)]; exact m2
  · rw [jn_gI (by omega) (by omega)]; exact m3
  · rw [jn_gI (by omega) (by omega)]; exact m4
  · rw [jn_gI (by omega) (by omega)]; exact m5
  · rw [jn_gI (by omega) (by omega)]; exact m6
  · rw [rr]
    have := (stC0_R c i).1
    omega
theorem law_cases : LawCases Inv := by
  refine ⟨fun j st h => h.up, fun j st hj h a1 a2 a3 a4 a5 => ?_⟩
  obtain ⟨A, M, n, tp, B, B2, e, hr⟩ := h.rel
  exact ⟨lc_0 hr, lc_1 hr, lc_2 hr, lc_3 hr, lc_4 hr, lc_5 hr, lc_6 hr, lc_7 hr, lc_8 hr, lc_9 hr, lc_10 hr, lc_11 hr, lc_12 hr, lc_13 hr, lc_14 hr, lc_15 hr, lc_16 hr, lc_17 hr, lc_18 hr, lc_19 hr, lc_20 hr, lc_21 hr, lc_22 hr, lc_23 hr, lc_24 hr, lc_25 hr, lc_26 hr, lc_27 hj hr, lc_28 hr, lc_29 hr, lc_30 hr, lc_31 hj hr, lc_32 hr, lc_33 hr, lc_34 hr, lc_35 hr, lc_36 hr, lc_37 hj hr, lc_38 hj hr, lc_39 hj hr, lc_40 hj hr, lc_41 hr, lc_42 hj hr⟩
theorem law_nums : ∃ (PC PM : St → Prop) (Inv : Nat → St → Prop), wX9_init stC0 PC ∧ wX12_init stM0 PM ∧ (∀ st, PC st → ∀ c, c < 54 → ∀ j, gR st c j < 54) ∧ (∀ s1 s2, PC s1 → PM s2 → Inv 0 (jn s1 s2)) ∧ LawCases Inv :=
  ⟨PC0, PM0, Inv, init_c, init_m, fun st h c _ i => by rw [PC0.R h.2.2.2.2.2.2.2.2]; exact (stC0_R c i).1, fun _ _ hc hm => inv_0 hc hm, law_cases⟩

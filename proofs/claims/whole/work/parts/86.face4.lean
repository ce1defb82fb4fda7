/-! the law's cases: plans run, tried, compared -/
section FA4
variable {j n B B2 nw pl : Nat} {tp wt mi M M' : Nat → Nat} {A : Bk} {e : Int32} {st st' s1 : St} {P : Nat → Prop} {Q : Int32 → St → Prop} {Qv R : St → Prop} {X : String → St → Prop}
theorem SP.runP {k : Nat} (h : SP j A M) (hk : k < A 0 2) : SP (j + 1) A (fRunP A k M).2 := by
  obtain ⟨a, b, c⟩ := fRunP_ok (K := 1000 * j) h.1 h.2.1 hk h.2.2.2.2.1 h.2.2.2.2.2.1
  exact ⟨h.1, h.2.1, h.2.2.1, h.2.2.2.1, a, b.mo (by omega), h.2.2.2.2.2.2.runP h.1 h.2.1 hk⟩
theorem rOK.run {br : Nat} (h : rOK st) (hB : B < 60) (hb : br < 60) (hg : ∀ c i, gR st' c i = if c = 16 ∧ i = 1 then br else if c = 16 ∧ i = 0 then B else gR st c i) : rOK st' := fun c i => by
  rw [hg]
  split
  · exact hb
  split
  · exact hB
  · exact h c i
theorem Rel.B60 (h : Rel j A M n tp B B2 e st) : B < 60 := by rcases h.2.1 with ⟨q, _⟩ | ⟨q, _⟩ <;> omega
theorem P568_60 {d : Nat} (h : P568 d) : 56 ≤ d ∧ d < 60 := by unfold P568 at h; omega
theorem lc_27 {a1 a2 a3 a4 a5 : Int32} (hj : j < 512) (h : Rel j A M n tp B B2 e st) : wLc_27 a1 a2 a3 a4 a5 st (Inv (j + 1)) := by
  show wL_runPlan 0 a1 67 st (KI j (wX12_runPlan 54 a1))
  unfold wL_runPlan wX9_runPlan
  have n8 := h.n8
  rcases i_rng (A 0 2) (by omega) a1 with ⟨k, hk, rfl⟩ | ho
  · refine c_rlT h.r6 h.kB.1 h.ck.1 hk (by omega) ?_
    rw [h.r6]
    refine ⟨h.kB.1, ?_⟩
    intro c2 e2
    rw [e2]
    refine c_perform (br := 4) (K := 1000 * j) h.kB.1 rfl (by omega) h.kB.2 h.ob h.bb h.mb h.mc (by omega) h.ck h.cb h.br hk (fun st2 hG hb2 hg => ?_)
    have h2 := h.step (hG.fp (Or.inl rfl)) (fun d q => by unfold PR PM at q; omega) hb2 (h.1.runP hk) (h.2.2.2.2.run h.B60 (by omega) hg)
    refine p_ok2 h2 (fun s4 h4 g4 => ?_)
    show wX12_runPlan 54 (nI k) s4 (LkI j 0)
    unfold wX12_runPlan wX12_isPlan
    intro s1 e1
    have h1 := h4.z e1
    have pl1 := h1.2.2.2.2.1.2.2.1
    refine r_inT (m := A 0 2) (by omega) hk (by rw [pl1]) ⟨fun q => absurd q (by decide), fun _ => ?_⟩
    refine r_run (K := 1000 * j) h.ob h1.bb h1.mb h.mc (by omega) h1.kb h1.rm h1.2.2.2.2.1.2.2.2.1 hk (fun s9 hF9 hM9 => ?_)
    refine LkI.in (h1.fin hF9 (fun d q => P568_60 q) hM9) ?_ ?_
    · rw [hF9.gI (by unfold P568; omega)]; exact z54 e1
    · rw [hF9.gJ, z67 e1, g4]
  · refine c_rlF h.r6 h.kB.1 h.ck.1 ho ⟨rfl, ?_⟩
    show wX12_runPlan 54 a1 st (LkI j 1)
    unfold wX12_runPlan wX12_isPlan
    intro s1 e1
    have h1 := h.z e1
    refine r_inF (m := A 0 2) (by omega) ho (by rw [h1.pl]) ⟨fun _ => ?_, fun q => absurd rfl q⟩
    unfold wX12_fail
    intro s2 e2
    exact LkI.bad h1 (by decide) e2
/-- a plan tried on the trial bridge -/
theorem t_run {k : Nat} (hj : j < 512) (h : Rel j A M n tp B B2 e st) (hk : k < A 0 2) (hq : ∀ st', Rel j A M n tp B B2 e st' → BR 10 (A 0 0) (A 0 1) st' (fRunP A k M).2 → Q (nI (fRunP A k M).1) st') :
    wX2_copyFrom 10 4 st (fun st2 => kd (gR st2 0 6) = 1 ∧ ∀ c3, c3 = gR st2 0 6 → wX5_perform 16 c3 10 (nI k) st2 Q) := by
  refine c_copy (b := 10) (p := 4) (by omega) h.bb h.mb h.cb h.br (fun st3 hF3 hc3 hb3 => ?_)
  have hF3' := hF3.mo (P2 := fun d => 10 ≤ d ∧ d < 18) (fun d q => by unfold PB at q; omega)
  have h3 : Rel j A M n tp B B2 e st3 := ⟨h.1, h.2.1, h.2.2.1.fp h.2.1 hF3'.fp (fun d q => Or.inl q), h.2.2.2.1.fp hF3'.fp (fun d q => by have q : 10 ≤ d ∧ d < 18 := q; omega), h.2.2.2.2.fi hF3'⟩
  rw [h3.r6]
  refine ⟨h3.kB.1, ?_⟩
  intro c2 e2
  rw [e2]
  refine c_perform (br := 10) (K := 1000 * j) h3.kB.1 rfl (by omega) h3.kB.2 h3.ob h3.bb h3.mb h3.mc (by omega) h3.ck hc3 hb3 hk (fun st2 hG hb2 hg => ?_)
  have hF := (hG.fp (Or.inl rfl)).mo (P2 := fun d => 10 ≤ d ∧ d < 18) (fun d q => by unfold PR PM at q; omega)
  exact hq st2 ⟨h3.1, h3.2.1, h3.2.2.1.fp h3.2.1 hF (fun d q => Or.inl q), h3.2.2.2.1.fp hF (fun d q => by have q : 10 ≤ d ∧ d < 18 := q; omega), h3.2.2.2.2.run h3.B60 (by omega) hg⟩ hb2
theorem lc_37 {a1 a2 a3 a4 a5 : Int32} (hj : j < 512) (h : Rel j A M n tp B B2 e st) : wLc_37 a1 a2 a3 a4 a5 st (Inv (j + 1)) := by
  show wL_actsOfPlan 0 a1 67 st (KI j (wX12_actsOfPlan 54 a1))
  unfold wL_actsOfPlan wX9_actsOfPlan
  have n8 := h.n8
  rcases i_rng (A 0 2) (by omega) a1 with ⟨k, hk, rfl⟩ | ho
  · refine c_rlT h.r6 h.kB.1 h.ck.1 hk (by omega) (t_run hj h hk (fun s2 h2 hb2 => ?_))
    refine p_ok h2 (fun s4 h4 g4 => ?_)
    show wX12_actsOfPlan 54 (nI k) s4 (LkI j 0)
    unfold wX12_actsOfPlan wX12_isPlan
    intro s1 e1
    have h1 := h4.z e1
    refine r_inT (m := A 0 2) (by omega) hk (by rw [h1.pl]) ⟨fun _ => ?_, fun q => absurd q (by decide)⟩
    refine r_keep h1.rm (fun s5 hF5 hM5 hK5 => ?_)
    have h5 := h1.rf hF5 (fun d q => by have q : d = 57 := q; omega) hM5
    refine r_run (K := 1000 * j) h5.ob h5.bb h5.mb h5.mc (by omega) h5.kb h5.rm h5.go hk (fun s6 hF6 hM6 => ?_)
    have hK6 : RK s6 M := fun i hi => (hF6.gI (by unfold P568; omega)).trans (hK5 i hi)
    refine r_back hK6 (fun s7 hF7 hM7 _ => ?_)
    have F67 : FI P568 s5 s7 := hF6.tr (hF7.mo (fun d q => Or.inl q))
    refine LkI.ok (h5.rf F67 (fun d q => P568_60 q) hM7) ?_ ?_
    · rw [F67.gI (by unfold P568; omega), hF5.gI (show ¬ (54 : Nat) = 57 by omega)]; exact z54 e1
    · rw [F67.gJ, hF5.gJ, z67 e1, g4]
  · refine c_rlF h.r6 h.kB.1 h.ck.1 ho ⟨rfl, ?_⟩
    show wX12_actsOfPlan 54 a1 st (LkI j 1)
    unfold wX12_actsOfPlan wX12_isPlan
    intro s1 e1
    have h1 := h.z e1
    refine r_inF (m := A 0 2) (by omega) ho (by rw [h1.pl]) ⟨fun q => absurd rfl q, fun _ => ?_⟩
    unfold wX12_fail
    intro s2 e2
    exact LkI.bad h1 (by decide) e2
theorem far_sub {m : Nat} (h : nw ≤ 8) : nI nw - nI (fNear M nw) = nI (nw - fNear M nw) := pk_sub (fNear_le)
theorem lc_38 {a1 a2 a3 a4 a5 : Int32} (hj : j < 512) (h : Rel j A M n tp B B2 e st) : wLc_38 a1 a2 a3 a4 a5 st (Inv (j + 1)) := by
  show wL_farBehindPlan 0 a1 67 st (KI j (wX12_farBehindPlan 54 a1))
  unfold wL_farBehindPlan wX9_farBehindPlan
  have n8 := h.n8
  rcases i_rng (A 0 2) (by omega) a1 with ⟨k, hk, rfl⟩ | ho
  · have ok := fRunP_ok (K := 1000 * j) h.ob h.bb hk h.mb h.mc
    refine c_rlT h.r6 h.kB.1 h.ck.1 hk (by omega) (t_run hj h hk (fun s2 h2 hb2 => ?_))
    refine c_countFar (b := 10) h2.bb ok.1 hb2 ?_
    refine p_ok h2 (fun s4 h4 g4 => ?_)
    show wX12_farBehindPlan 54 (nI k) s4 (LkI j 0)
    unfold wX12_farBehindPlan wX12_isPlan
    intro s1 e1
    have h1 := h4.z e1
    refine r_inT (m := A 0 2) (by omega) hk (by rw [h1.pl]) ⟨fun _ => ?_, fun q => absurd q (by decide)⟩
    refine r_keep h1.rm (fun s5 hF5 hM5 hK5 => ?_)
    have h5 := h1.rf hF5 (fun d q => by have q : d = 57 := q; omega) hM5
    refine r_run (K := 1000 * j) h5.ob h5.bb h5.mb h5.mc (by omega) h5.kb h5.rm h5.go hk (fun s6 hF6 hM6 => ?_)
    have hK6 : RK s6 M := fun i hi => (hF6.gI (by unfold P568; omega)).trans (hK5 i hi)
    have kb6 : KB (A 0 0) (A 0 1) (A 1) (A 2) s6 := h5.kb.fi hF6 (by unfold P568; omega) (by unfold P568; omega) (by unfold P568; omega)
    refine r_near h5.bb ok.1 kb6 hM6 ?_
    intro x9 ex9
    rw [kb6.1, pk_sub fNear_le] at ex9
    refine r_back hK6 (fun s7 hF7 hM7 _ => ?_)
    have F67 : FI P568 s5 s7 := hF6.tr (hF7.mo (fun d q => Or.inl q))
    refine LkI.ok (h5.rf F67 (fun d q => P568_60 q) hM7) ?_ ?_
    · rw [F67.gI (by unfold P568; omega), hF5.gI (show ¬ (54 : Nat) = 57 by omega)]; exact z54 e1
    · rw [F67.gJ, hF5.gJ, z67 e1, g4, ex9]
  · refine c_rlF h.r6 h.kB.1 h.ck.1 ho ⟨rfl, ?_⟩
    show wX12_farBehindPlan 54 a1 st (LkI j 1)
    unfold wX12_farBehindPlan wX12_isPlan
    intro s1 e1
    have h1 := h.z e1
    refine r_inF (m := A 0 2) (by omega) ho (by rw [h1.pl]) ⟨fun q => absurd rfl q, fun _ => ?_⟩
    unfold wX12_fail
    intro s2 e2
    exact LkI.bad h1 (by decide) e2
/-- the minutes of a state -/
def aM (M : Nat → Nat) : Int32 := (120 : Int32) * nI (M 2) + nI (M 3)
theorem c_all {b : Nat} (hb : BR b nw pl st M) (hq : Q (aM M) st) : wX2_minutesInAll b st Q := by
  unfold wX2_minutesInAll
  rw [hb.ni, hb.m10]
  unfold aM at hq
  rw [Int32.mul_comm] at hq
  exact hq
theorem r_all (hr : RM st M) (hq : Q (aM M) st) : wX12_allMinutes 54 st Q := by
  unfold wX12_allMinutes
  refine ⟨v50 (k := 2) (by omega), v50 (k := 3) (by omega), ?_⟩
  rw [show gI st (54 + 2) ((2 : Int32).toNatClampNeg) = nI (M 2) from hr 2 (by omega), show gI st (54 + 2) ((3 : Int32).toNatClampNeg) = nI (M 3) from hr 3 (by omega)]
  exact hq
theorem lc_39 {a1 a2 a3 a4 a5 : Int32} (hj : j < 512) (h : Rel j A M n tp B B2 e st) : wLc_39 a1 a2 a3 a4 a5 st (Inv (j + 1)) := by
  show wL_minutesOfPlan 0 a1 67 st (KI j (wX12_minutesOfPlan 54 a1))
  unfold wL_minutesOfPlan wX9_minutesOfPlan
  have n8 := h.n8
  rcases i_rng (A 0 2) (by omega) a1 with ⟨k, hk, rfl⟩ | ho
  · refine c_rlT h.r6 h.kB.1 h.ck.1 hk (by omega) (t_run hj h hk (fun s2 h2 hb2 => ?_))
    refine c_all (b := 10) hb2 (c_all (b := 4) h2.br ?_)
    refine p_ok h2 (fun s4 h4 g4 => ?_)
    show wX12_minutesOfPlan 54 (nI k) s4 (LkI j 0)
    unfold wX12_minutesOfPlan wX12_isPlan
    intro s1 e1
    have h1 := h4.z e1
    refine r_inT (m := A 0 2) (by omega) hk (by rw [h1.pl]) ⟨fun _ => ?_, fun q => absurd q (by decide)⟩
    refine r_keep h1.rm (fun s5 hF5 hM5 hK5 => ?_)
    have h5 := h1.rf hF5 (fun d q => by have q : d = 57 := q; omega) hM5
    refine r_all h5.rm ?_
    refine r_run (K := 1000 * j) h5.ob h5.bb h5.mb h5.mc (by omega) h5.kb h5.rm h5.go hk (fun s6 hF6 hM6 => ?_)
    have hK6 : RK s6 M := fun i hi => (hF6.gI (by unfold P568; omega)).trans (hK5 i hi)
    refine r_all hM6 ?_
    intro x11 ex11
    refine r_back hK6 (fun s7 hF7 hM7 _ => ?_)
    have F67 : FI P568 s5 s7 := hF6.tr (hF7.mo (fun d q => Or.inl q))
    refine LkI.ok (h5.rf F67 (fun d q => P568_60 q) hM7) ?_ ?_
    · rw [F67.gI (by unfold P568; omega), hF5.gI (show ¬ (54 : Nat) = 57 by omega)]; exact z54 e1
    · rw [F67.gJ, hF5.gJ, z67 e1, g4, ex11]
  · refine c_rlF h.r6 h.kB.1 h.ck.1 ho ⟨rfl, ?_⟩
    show wX12_minutesOfPlan 54 a1 st (LkI j 1)
    unfold wX12_minutesOfPlan wX12_isPlan
    intro s1 e1
    have h1 := h.z e1
    refine r_inF (m := A 0 2) (by omega) ho (by rw [h1.pl]) ⟨fun q => absurd rfl q, fun _ => ?_⟩
    unfold wX12_fail
    intro s2 e2
    exact LkI.bad h1 (by decide) e2
/-! the best plan -/
def pF (A : Bk) (M : Nat → Nat) (k : Nat) : Int32 := nI (A 0 0 - fNear (fRunP A k M).2 (A 0 0))
def pM (A : Bk) (M : Nat → Nat) (k : Nat) : Int32 := aM (fRunP A k M).2 - aM M
def bst (A : Bk) (M : Nat → Nat) (v0 : Int32) : Nat → Int32 × Int32 × Int32
  | 0 => (v0, -1, 0)
  | k + 1 => if (bst A M v0 k).2.1 < pF A M k ∨ (pF A M k = (bst A M v0 k).2.1 ∧ pM A M k < (bst A M v0 k).2.2) then (nI k, pF A M k, pM A M k) else bst A M v0 k
theorem bst_1 {v0 : Int32} (h8 : A 0 0 ≤ 8) : bst A M v0 1 = (nI 0, pF A M 0, pM A M 0) := by
  have lt : (-1 : Int32) < pF A M 0 := Int32.lt_of_lt_of_le (show (-1 : Int32) < 0 by decide) (Int32.not_lt.mp (nI_pos (by omega)))
  exact if_pos (Or.inl lt)
theorem bst_eq {v w : Int32} (h8 : A 0 0 ≤ 8) : ∀ k, bst A M v (k + 1) = bst A M w (k + 1) := by
  intro k
  induction k with
  | zero => rw [bst_1 h8, bst_1 h8]
  | succ k ih =>
    show (if _ then _ else bst A M v (k + 1)) = (if _ then _ else bst A M w (k + 1))
    rw [ih]
theorem bst_t {v0 : Int32} {k : Nat} (q : (bst A M v0 k).2.1 < pF A M k ∨ (pF A M k = (bst A M v0 k).2.1 ∧ pM A M k < (bst A M v0 k).2.2)) : bst A M v0 (k + 1) = (nI k, pF A M k, pM A M k) := if_pos q
theorem bst_f {v0 : Int32} {k : Nat} (q : ¬ ((bst A M v0 k).2.1 < pF A M k ∨ (pF A M k = (bst A M v0 k).2.1 ∧ pM A M k < (bst A M v0 k).2.2))) : bst A M v0 (k + 1) = bst A M v0 k := if_neg q
theorem lc_40 {a1 a2 a3 a4 a5 : Int32} (hj : j < 512) (h : Rel j A M n tp B B2 e st) : wLc_40 a1 a2 a3 a4 a5 st (Inv (j + 1)) := by
  show wL_bestPlan 0 67 st (KI j (wX12_bestPlan 54))
  unfold wL_bestPlan wX9_bestPlan
  have n8 := h.n8
  rw [h.r6]
  refine ⟨h.kB.1, ?_⟩
  intro c1 e1
  rw [e1, h.ck.1]
  have z : (nI (A 0 2) = 0) ↔ A 0 2 = 0 := nI_eq (b := 0) (by omega) (by omega)
  rw [z]
  refine ⟨fun h0 => ?_, fun h0 => ⟨rfl, ?_⟩⟩
  · obtain ⟨m, em⟩ : ∃ m, A 0 2 = m + 1 := ⟨A 0 2 - 1, by omega⟩
    refine lp_inv (n := A 0 2) (I := fun k s => ∃ u, s = ((bst A M 0 k).1, (bst A M 0 k).2.1, (bst A M 0 k).2.2, nI k, u) ∧ Rel j A M n tp B B2 e u) ?_ ?_ ⟨st, rfl, h⟩
    · rintro k s hk ⟨u, rfl, hu⟩ R hR2
      show wX9_bestPlan_L29 0 R (bst A M 0 k).1 (bst A M 0 k).2.1 (bst A M 0 k).2.2 (nI k) u _ _
      unfold wX9_bestPlan_L29
      rw [hu.r6]
      refine ⟨hu.kB.1, ?_⟩
      intro c2 e2
      rw [e2, hu.ck.1]
      refine ⟨fun q => absurd ((nI_leI (by omega) (by omega)).mp q) (by omega), fun _ => ?_⟩
      refine t_run hj hu hk (fun s5 h5 hb5 => ?_)
      have ok := fRunP_ok (K := 1000 * j) h.ob h.bb hk h.mb h.mc
      refine c_countFar (b := 10) h5.bb ok.1 hb5 ?_
      refine c_all (b := 10) hb5 (c_all (b := 4) h5.br ?_)
      intro x13 ex13
      have ex13 : x13 = pM A M k := ex13
      rw [show nI (A 0 0 - fNear (fRunP A k M).2 (A 0 0)) = pF A M k from rfl, ex13]
      have go : ∀ t : Int32 × Int32 × Int32, bst A M 0 (k + 1) = t → ∀ x14 : Int32, x14 = nI k + 1 → R (t.1, t.2.1, t.2.2, x14, s5) := by
        rintro _ rfl x14 e14
        rw [e14, nI_1]
        exact hR2 _ ⟨s5, rfl, h5⟩
      refine ⟨fun q => ?_, fun q => ⟨fun q2 => ?_, fun q2 => ⟨fun q3 => ?_, fun q3 => ?_⟩⟩⟩
      · exact go _ (bst_t (Or.inl q))
      · exact go _ (bst_f (fun w => w.elim q (fun w => q2 w.1)))
      · exact go _ (bst_f (fun w => w.elim q (fun w => absurd q3 (Int32.not_le.mpr w.2))))
      · exact go _ (bst_t (Or.inr ⟨q2, Int32.not_le.mp q3⟩))
    · rintro s ⟨u, rfl, hu⟩ R
      show wX9_bestPlan_L29 0 R (bst A M 0 (A 0 2)).1 (bst A M 0 (A 0 2)).2.1 (bst A M 0 (A 0 2)).2.2 (nI (A 0 2)) u _ _
      unfold wX9_bestPlan_L29
      rw [hu.r6]
      refine ⟨hu.kB.1, ?_⟩
      intro c2 e2
      rw [e2, hu.ck.1]
      refine ⟨fun _ => ?_, fun q => absurd (nI_le (Nat.le_refl _) (by omega)) q⟩
      refine p_ok hu (fun s4 h4 g4 => ?_)
      rw [em, bst_eq (w := -1) n8.1 m, ← em] at g4
      show wX12_bestPlan 54 s4 (LkI j 0)
      unfold wX12_bestPlan
      intro s1 e1
      have h1 := h4.z e1
      rw [h1.pl, z]
      refine ⟨fun _ => ?_, fun q => absurd q h0⟩
      refine r_keep h1.rm (fun s5 hF5 hM5 hK5 => ?_)
      have h5 := h1.rf hF5 (fun d q => by have q : d = 57 := q; omega) hM5
      have z5 : gI s5 54 0 = 0 := by rw [hF5.gI (show ¬ (54 : Nat) = 57 by omega)]; exact z54 e1
      have j5 : gJ s5 67 0 = gJ s4 67 0 := by rw [hF5.gJ, z67 e1]
      rw [← j5] at g4
      refine lp_inv (n := A 0 2) (I := fun k s => ∃ u, s = ((bst A M (-1) k).1, (bst A M (-1) k).2.1, (bst A M (-1) k).2.2, nI k, u) ∧ Rel j A M n tp B B2 e u ∧ RK u M ∧ gI u 54 0 = 0 ∧ gJ u 67 0 = gJ s5 67 0) ?_ ?_ ⟨s5, rfl, h5, hK5, z5, rfl⟩
      · rintro k s hk ⟨u, rfl, hu, hK, hz, hju⟩ R hR2
        show wX12_bestPlan_L34 54 R (bst A M (-1) k).1 (bst A M (-1) k).2.1 (bst A M (-1) k).2.2 (nI k) u _
        unfold wX12_bestPlan_L34
        rw [hu.pl]
        refine ⟨fun q => absurd ((nI_leI (by omega) (by omega)).mp q) (by omega), fun _ => ?_⟩
        have ok := fRunP_ok (K := 1000 * j) h.ob h.bb hk h.mb h.mc
        refine r_all hu.rm ?_
        refine r_run (K := 1000 * j) hu.ob hu.bb hu.mb hu.mc (by omega) hu.kb hu.rm hu.go hk (fun s6 hF6 hM6 => ?_)
        have hK6 : RK s6 M := fun i hi => (hF6.gI (by unfold P568; omega)).trans (hK i hi)
        have kb6 : KB (A 0 0) (A 0 1) (A 1) (A 2) s6 := hu.kb.fi hF6 (by unfold P568; omega) (by unfold P568; omega) (by unfold P568; omega)
        refine r_near hu.bb ok.1 kb6 hM6 ?_
        intro x11 ex11
        rw [kb6.1, pk_sub fNear_le] at ex11
        have ex11 : x11 = pF A M k := ex11
        refine r_all hM6 ?_
        intro x14 ex14
        have ex14 : x14 = pM A M k := ex14
        refine r_back hK6 (fun s7 hF7 hM7 hK7 => ?_)
        have F67 : FI P568 u s7 := hF6.tr (hF7.mo (fun d q => Or.inl q))
        have h7 := hu.rf F67 (fun d q => P568_60 q) hM7
        have z7 : gI s7 54 0 = 0 := by rw [F67.gI (by unfold P568; omega)]; exact hz
        have j7 : gJ s7 67 0 = gJ s5 67 0 := by rw [F67.gJ]; exact hju
        rw [ex11, ex14]
        have go : ∀ t : Int32 × Int32 × Int32, bst A M (-1) (k + 1) = t → ∀ x16 : Int32, x16 = nI k + 1 → R (t.1, t.2.1, t.2.2, x16, s7) := by
          rintro _ rfl x16 e16
          rw [e16, nI_1]
          exact hR2 _ ⟨s7, rfl, h7, hK7, z7, j7⟩
        have ord : ∀ x y : Int32, ¬ x < y → ¬ x = y → y < x := fun x y h1 h2 => Int32.lt_of_le_of_ne (Int32.not_lt.mp h1) (fun w => h2 w.symm)
        refine ⟨fun q => ?_, fun q => ⟨fun q2 => ?_, fun q2 => ⟨fun q3 => ?_, fun q3 => ?_⟩⟩⟩
        · refine go _ (bst_f (fun w => ?_))
          rcases w with w | w
          · exact absurd (Int32.lt_trans w q) Int32.lt_irrefl
          · rw [w.1] at q; exact absurd q Int32.lt_irrefl
        · exact go _ (bst_t (Or.inl (ord _ _ q q2)))
        · exact go _ (bst_t (Or.inr ⟨q2, q3⟩))
        · refine go _ (bst_f (fun w => ?_))
          rcases w with w | w
          · rw [q2] at w; exact absurd w Int32.lt_irrefl
          · exact q3 w.2
      · rintro s ⟨u, rfl, hu, hK, hz, hju⟩ R
        show wX12_bestPlan_L34 54 R (bst A M (-1) (A 0 2)).1 (bst A M (-1) (A 0 2)).2.1 (bst A M (-1) (A 0 2)).2.2 (nI (A 0 2)) u _
        unfold wX12_bestPlan_L34
        rw [hu.pl]
        refine ⟨fun _ => ?_, fun q => absurd (nI_le (Nat.le_refl _) (by omega)) q⟩
        exact LkI.ok hu hz (hju.trans g4)
  · show wX12_bestPlan 54 st (LkI j 1)
    unfold wX12_bestPlan
    intro s1 e1
    have h1 := h.z e1
    rw [h1.pl, z]
    refine ⟨fun q => absurd h0 q, fun _ => ?_⟩
    unfold wX12_fail
    intro s2 e2
    exact LkI.bad h1 (by decide) e2
end FA4

/-! the law's cases: the tape -/
def byt (x : Int32) (s : Nat) : Nat := (dI x / 2 ^ s) % 256
theorem sb8 : ∀ v, v < 256 → (Int8.ofBitVec (BitVec.ofNat 8 v)).toInt32 = sb v := by decide +kernel
theorem t8u (x : Int32) (s : Nat) (hs : s = 0 ∨ s = 8 ∨ s = 16 ∨ s = 24) : (x.toUInt32 >>> UInt32.ofNat s).toInt32.toInt8 = Int8.ofBitVec (BitVec.ofNat 8 (byt x s)) := by
  apply Int8.toBitVec_inj.mp
  apply BitVec.eq_of_toNat_eq
  have lt := x.toBitVec.isLt
  rcases hs with rfl | rfl | rfl | rfl
  · show ((x.toBitVec >>> (0#32)).signExtend 8).toNat = _
    rw [BitVec.signExtend_eq_setWidth_of_le _ (by decide)]
    simp [byt, dI]
  · show ((x.toBitVec >>> (8#32)).signExtend 8).toNat = _
    rw [BitVec.signExtend_eq_setWidth_of_le _ (by decide)]
    simp [byt, dI, Nat.shiftRight_eq_div_pow]
  · show ((x.toBitVec >>> (16#32)).signExtend 8).toNat = _
    rw [BitVec.signExtend_eq_setWidth_of_le _ (by decide)]
    simp [byt, dI, Nat.shiftRight_eq_div_pow]
  · show ((x.toBitVec >>> (24#32)).signExtend 8).toNat = _
    rw [BitVec.signExtend_eq_setWidth_of_le _ (by decide)]
    simp [byt, dI, Nat.shiftRight_eq_div_pow]
theorem t8s (x : Int32) (s : Nat) (hs : s = 0 ∨ s = 8 ∨ s = 16 ∨ s = 24) : (x >>> nI s).toInt8 = Int8.ofBitVec (BitVec.ofNat 8 (byt x s)) := by
  rw [← t8u x s hs]
  apply Int8.toBitVec_inj.mp
  apply BitVec.eq_of_getLsbD_eq
  intro i hi
  rcases hs with rfl | rfl | rfl | rfl
  · show ((x.toBitVec.sshiftRight 0).signExtend 8).getLsbD i = ((x.toBitVec >>> (0#32)).signExtend 8).getLsbD i
    rw [BitVec.signExtend_eq_setWidth_of_le _ (by decide), BitVec.signExtend_eq_setWidth_of_le _ (by decide)]
    simp [BitVec.getLsbD_sshiftRight]
    try omega
  · show ((x.toBitVec.sshiftRight 8).signExtend 8).getLsbD i = ((x.toBitVec >>> (8#32)).signExtend 8).getLsbD i
    rw [BitVec.signExtend_eq_setWidth_of_le _ (by decide), BitVec.signExtend_eq_setWidth_of_le _ (by decide)]
    simp [BitVec.getLsbD_sshiftRight]
    rw [if_pos (by omega), decide_eq_false (by omega : ¬ 32 ≤ i)]; simp
  · show ((x.toBitVec.sshiftRight 16).signExtend 8).getLsbD i = ((x.toBitVec >>> (16#32)).signExtend 8).getLsbD i
    rw [BitVec.signExtend_eq_setWidth_of_le _ (by decide), BitVec.signExtend_eq_setWidth_of_le _ (by decide)]
    simp [BitVec.getLsbD_sshiftRight]
    rw [if_pos (by omega), decide_eq_false (by omega : ¬ 32 ≤ i)]; simp
  · show ((x.toBitVec.sshiftRight 24).signExtend 8).getLsbD i = ((x.toBitVec >>> (24#32)).signExtend 8).getLsbD i
    rw [BitVec.signExtend_eq_setWidth_of_le _ (by decide), BitVec.signExtend_eq_setWidth_of_le _ (by decide)]
    simp [BitVec.getLsbD_sshiftRight]
    rw [if_pos (by omega), decide_eq_false (by omega : ¬ 32 ≤ i)]; simp
theorem b_u (x : Int32) (s : Nat) (hs : s = 0 ∨ s = 8 ∨ s = 16 ∨ s = 24) : ((x.toUInt32 >>> UInt32.ofNat s).toInt32).toInt8.toInt32 = sb (byt x s) := by
  rw [t8u x s hs]
  exact sb8 _ (Nat.mod_lt _ (by omega))
theorem b_s (x : Int32) (s : Nat) (hs : s = 0 ∨ s = 8 ∨ s = 16 ∨ s = 24) : (x >>> nI s).toInt8.toInt32 = sb (byt x s) := by
  rw [t8s x s hs]
  exact sb8 _ (Nat.mod_lt _ (by omega))
def shv (k : Nat) : Int32 := if k = 0 then 24 else if k = 1 then 16 else if k = 2 then 8 else if k = 3 then 0 else -8
theorem shv_u : ∀ k, k < 4 → ((shv k).toUInt32 &&& Int32.toUInt32 31) = UInt32.ofNat (24 - 8 * k) ∧ ¬ shv k < 0 ∧ shv k + (-8) = shv (k + 1) := by decide +kernel
theorem shr_u : ∀ k, k < 20 → (nI k / 4 = nI (k / 4)) ∧ (((24 : Int32) - ((8 : Int32) * (nI k - nI k / 4 * 4))) &&& 31) = nI (24 - 8 * (k % 4)) := by decide +kernel
def tpx (n : Nat) (tp : Nat → Nat) (x : Int32) : Nat → Nat := fun i => if n ≤ i ∧ i < n + 4 then byt x (24 - 8 * (i - n)) else tp i
section FA5
variable {j n n' B B2 nw pl : Nat} {tp tp' wt mi M M' : Nat → Nat} {A : Bk} {e : Int32} {st st' s1 : St} {P : Nat → Prop} {Q : Int32 → St → Prop} {Qv R : St → Prop} {X : String → St → Prop}
theorem byt_lt {x : Int32} {s : Nat} : byt x s < 256 := Nat.mod_lt _ (by omega)
theorem sh4 {k : Nat} (hk : k < 4) : 24 - 8 * k = 0 ∨ 24 - 8 * k = 8 ∨ 24 - 8 * k = 16 ∨ 24 - 8 * k = 24 := by omega
def P12 (d : Nat) : Prop := d = 1 ∨ d = 2
theorem c_append {x : Int32} (h : TpC st n tp) (hn : n + 4 ≤ 1600) (hq : ∀ st', FI P12 st st' → TpC st' (n + 4) (tpx n tp x) → Qv st') : wX6_append 1 x st Qv := by
  unfold wX6_append
  obtain ⟨h1, h2, h3, h4⟩ := h
  refine lp_inv (n := 4) (I := fun k s => ∃ u, s = (x, shv k, u) ∧ FI P12 st u ∧ gI u 1 1 = nI (n + k) ∧ ∀ i, gI u 2 i = if n ≤ i ∧ i < n + k then sb (byt x (24 - 8 * (i - n))) else gI st 2 i) ?_ ?_ ⟨st, rfl, FI.rf, h1, fun i => by rw [if_neg (by omega)]⟩
  · rintro k s hk ⟨u, rfl, hF, hu1, hu2⟩ R hR2
    show wX6_append_L3 1 x R x (shv k) u Qv
    unfold wX6_append_L3
    obtain ⟨q1, q2, q3⟩ := shv_u k hk
    rw [hu1, q1, b_u x _ (sh4 hk), nI_clamp (by omega)]
    refine ⟨fun q => absurd q q2, fun _ => ⟨fun q => absurd q (nI_pos (by omega)), fun _ => ⟨fun q => absurd ((nI_leI (a := 1600) (by omega) (by omega)).mp q) (by omega), fun _ => ⟨(vin_iff (by omega)).mpr (by omega), ?_⟩⟩⟩⟩
    intro s1 e1 s2 e2
    unfold wX6_append_L47
    rw [q3]
    rintro _ rfl
    have g11 : gI s1 1 1 = nI (n + k) := by rw [e1, gI_uI, if_neg (by omega)]; exact hu1
    rw [g11, nI_1] at e2
    refine hR2 _ ⟨s2, rfl, hF.tr (by rw [e2, e1]; exact (FI.u (P := P12) (Or.inr rfl)).tr (FI.u (P := P12) (Or.inl rfl))), by rw [e2, gI_uI, if_pos ⟨rfl, rfl⟩]; rfl, fun i => ?_⟩
    rw [e2, gI_uI, if_neg (by omega), e1, gI_uI]
    by_cases q : i = n + k
    · rw [if_pos ⟨rfl, q⟩, if_pos (by omega), q, Nat.add_sub_cancel_left]
    · rw [if_neg (fun w => q w.2), hu2]
      by_cases w : n ≤ i ∧ i < n + k
      · rw [if_pos w, if_pos (by omega)]
      · rw [if_neg w, if_neg (by omega)]
  · rintro s ⟨u, rfl, hF, hu1, hu2⟩ R
    show wX6_append_L3 1 x R x (shv 4) u Qv
    unfold wX6_append_L3
    refine ⟨fun _ => hq u hF ⟨hu1, by omega, fun i hi => ?_, fun i => ?_⟩, fun q => absurd (by decide) q⟩
    · rw [hu2]
      unfold tpx
      by_cases w : n ≤ i ∧ i < n + 4
      · rw [if_pos w, if_pos w]
      · rw [if_neg w, if_neg w]; exact h3 i (by omega)
    · unfold tpx
      split
      · exact byt_lt
      · exact h4 i
theorem SC.tpe (h : SC A M n tp B B2 e st) (hS : S20 B B2) (hF : FP P st st') (hP : ∀ d, P d → d = 1 ∨ d = 2 ∨ 54 ≤ d) (ht : TpC st' n' tp') : SC A M n' tp' B B2 e st' := by
  obtain ⟨h1, h2, h3, h4, h5, h6, h7, h8⟩ := h
  have np : ∀ d, ¬ (d = 1 ∨ d = 2 ∨ 54 ≤ d) → ¬ P d := fun d w q => w (hP d q)
  exact ⟨(hF.gR (np _ (by omega))).trans h1, (hF.gR (np _ (by omega))).trans h2, h3.fp hF (fun d w1 w2 => np d (by unfold S20 at hS; omega)), h4.fp hF (np _ (by omega)) (np _ (by omega)), h5.fp hF (fun d w1 w2 => np d (by omega)), h6.fp hF (np _ (by omega)) (np _ (by omega)), ht, (hF.gI (np _ (by omega))).trans h8⟩
theorem SR.tpe (h : SR A M n tp e st) (hF : FP P st st') (hP : ∀ d, P d → d < 56 ∨ 67 ≤ d) (h3 : gI st' 54 3 = gI st 54 3) (ht : TpR st' n' tp') : SR A M n' tp' e st' := by
  obtain ⟨h1, h2, h4, h5, h6, h7⟩ := h
  have np : ∀ d, 56 ≤ d ∧ d < 67 → ¬ P d := fun d w q => by have := hP d q; omega
  have e65 : gI st' 65 = gI st 65 := funext (fun i => hF.gI (np _ (by omega)))
  have e66 : gI st' 66 = gI st 66 := funext (fun i => hF.gI (np _ (by omega)))
  have e64 : gI st' 64 = gI st 64 := funext (fun i => hF.gI (np _ (by omega)))
  exact ⟨h1.fp hF (np _ (by omega)), ⟨(hF.gI (np _ (by omega))).trans h2.1, (hF.gI (np _ (by omega))).trans h2.2.1, fun k hk => (hF.gI (np _ (by omega))).trans (h2.2.2.1 k hk), fun k hk => (hF.gI (np _ (by omega))).trans (h2.2.2.2 k hk)⟩, (hF.gI (np _ (by omega))).trans h4, by rw [e65, e66, e64]; exact h5, ht, h3.trans h7⟩
theorem lc_1 {a1 a2 a3 a4 a5 : Int32} (h : Rel j A M n tp B B2 e st) : wLc_1 a1 a2 a3 a4 a5 st (Inv (j + 1)) := by
  show wL_trim 0 a1 67 st (KI j (wX12_trim 54 a1))
  unfold wL_trim wX9_trim wX9_trim_L15
  have hn := h.tc.2.1
  have g1 : gI st (0 + 1) 1 = nI n := h.tc.1
  rw [g1]
  rcases i_rg2 0 n (by omega) (by omega) a1 with ⟨k, _, hk, rfl⟩ | ho
  · refine ⟨fun q => absurd q (nI_pos (by omega)), fun _ => ⟨fun _ => ?_, fun q => absurd (nI_le hk (by omega)) q⟩⟩
    intro s2 e2
    refine ⟨v01, ?_⟩
    intro s4 e4
    show wX12_trim 54 (nI k) s4 (LkI j 0)
    unfold wX12_trim
    intro s1 e1
    have F1 : FP (fun d => d = 1 ∨ d = 54 ∨ d = 67) st s1 := by
      rw [e1, e4, e2]
      exact ((FP.uI (P := fun d => d = 1 ∨ d = 54 ∨ d = 67) (Or.inl rfl)).tr (FP.uJ (P := fun d => d = 1 ∨ d = 54 ∨ d = 67) (Or.inr (Or.inr rfl)))).tr (FP.uI (P := fun d => d = 1 ∨ d = 54 ∨ d = 67) (Or.inr (Or.inl rfl)))
    have g542 : gI s1 54 2 = nI n := by rw [e1, gI_uI, if_neg (by omega), e4, gI_uJ, e2, gI_uI, if_neg (by omega)]; exact h.tr.1
    have g543 : gI s1 54 3 = gI st 54 3 := by rw [e1, gI_uI, if_neg (by omega), e4, gI_uJ, e2, gI_uI, if_neg (by omega)]
    rw [g542]
    refine r_in2T (lo := 0) (hi := n) (by omega) hk (by omega) ⟨fun _ => ?_, fun q => absurd q (by decide)⟩
    intro s5 e5
    have F5 : FP (fun d => d = 1 ∨ d = 54 ∨ d = 67) st s5 := F1.tr (by rw [e5]; exact FP.uI (P := fun d => d = 1 ∨ d = 54 ∨ d = 67) (Or.inr (Or.inl rfl)))
    have g11 : gI s5 1 1 = nI k := by rw [e5, gI_uI, if_neg (by omega), e1, gI_uI, if_neg (by omega), e4, gI_uJ, e2, gI_uI, if_pos ⟨rfl, rfl⟩]
    refine LkI.in ⟨A, M, k, tp, B, B2, e, h.1.up, h.2.1, h.2.2.1.tpe h.2.1 F5 (fun d q => by omega) ⟨g11, by omega, fun i hi => ?_, h.tc.2.2.2⟩, h.2.2.2.1.tpe F5 (fun d q => by omega) (by rw [e5, gI_uI, if_neg (by omega)]; exact g543) ⟨by rw [e5, gI_uI, if_pos ⟨rfl, rfl⟩], by omega, fun i hi => ?_, h.tr.2.2.2⟩, fun c i => ?_⟩ ?_ ?_
    · rw [F5.gI (by omega)]; exact h.tc.2.2.1 i (by omega)
    · rw [F5.gI (by omega)]; exact h.tr.2.2.1 i (by omega)
    · rw [e5, e1, e4, e2]; exact h.2.2.2.2 c i
    · rw [e5, gI_uI, if_neg (by omega)]; exact z54 e1
    · rw [e5, gJ_uI, z67 e1, e4, gJ_uJ, if_pos ⟨rfl, rfl⟩]
  · have bad : KI j (wX12_trim 54 a1) 1 st := by
      show wX12_trim 54 a1 st (LkI j 1)
      unfold wX12_trim
      intro s1 e1
      have h1 := h.z e1
      rw [h1.tr.1]
      refine r_in2F (lo := 0) (hi := n) ho ⟨fun q => absurd rfl q, fun _ => ?_⟩
      unfold wX12_fail
      intro s2 e2
      exact LkI.bad h1 (by decide) e2
    rcases ho with q | q
    · exact ⟨fun _ => ⟨rfl, bad⟩, fun w => absurd q w⟩
    · exact ⟨fun w => absurd w q.1, fun _ => ⟨fun w => absurd w q.2, fun _ => ⟨rfl, bad⟩⟩⟩
theorem tp5_at {a1 a2 a3 a4 a5 : Int32} {p : Nat → Int32} (h0 : p 0 = a1) (h1 : p 1 = a2) (h2 : p 2 = a3) (h3 : p 3 = a4) (h4 : p 4 = a5) {k : Nat} (hk : k < 20) : tpx (n + 4 + 4 + 4 + 4) (tpx (n + 4 + 4 + 4) (tpx (n + 4 + 4) (tpx (n + 4) (tpx n tp a1) a2) a3) a4) a5 (n + k) = byt (p (k / 4)) (24 - 8 * (k % 4)) := by
  have c : k / 4 = 0 ∨ k / 4 = 1 ∨ k / 4 = 2 ∨ k / 4 = 3 ∨ k / 4 = 4 := by omega
  unfold tpx
  rcases c with c | c | c | c | c
  · rw [if_neg (by omega), if_neg (by omega), if_neg (by omega), if_neg (by omega), if_pos (by omega), c, h0]; congr 1; omega
  · rw [if_neg (by omega), if_neg (by omega), if_neg (by omega), if_pos (by omega), c, h1]; congr 1; omega
  · rw [if_neg (by omega), if_neg (by omega), if_pos (by omega), c, h2]; congr 1; omega
  · rw [if_neg (by omega), if_pos (by omega), c, h3]; congr 1; omega
  · rw [if_pos (by omega), c, h4]; congr 1; omega
theorem tp5_lo {a1 a2 a3 a4 a5 : Int32} {i : Nat} (hi : i < n) : tpx (n + 4 + 4 + 4 + 4) (tpx (n + 4 + 4 + 4) (tpx (n + 4 + 4) (tpx (n + 4) (tpx n tp a1) a2) a3) a4) a5 i = tp i := by
  unfold tpx
  rw [if_neg (by omega), if_neg (by omega), if_neg (by omega), if_neg (by omega), if_neg (by omega)]
theorem lc_0 {a1 a2 a3 a4 a5 : Int32} (h : Rel j A M n tp B B2 e st) : wLc_0 a1 a2 a3 a4 a5 st (Inv (j + 1)) := by
  show wL_feed 0 a1 a2 a3 a4 a5 67 st (KI j (wX12_feed 54 a1 a2 a3 a4 a5))
  unfold wL_feed wX9_feed wX6_hasRoomFor
  have hn := h.tc.2.1
  have g1 : gI st (0 + 1) 1 = nI n := h.tc.1
  have e20 : nI n + 20 = nI (n + 20) := nI_add n 20
  rw [g1, e20]
  by_cases hr : n + 20 ≤ 1600
  · refine ⟨fun q => absurd ((nI_ltI (a := 1600) (by omega) (by omega)).mp q) (by omega), fun _ => ⟨fun _ => ?_, fun q => absurd q (by decide)⟩⟩
    refine c_append h.tc (by omega) (fun u1 F1 t1 => ?_)
    refine c_append t1 (by omega) (fun u2 F2 t2 => ?_)
    refine c_append t2 (by omega) (fun u3 F3 t3 => ?_)
    refine c_append t3 (by omega) (fun u4 F4 t4 => ?_)
    refine c_append t4 (by omega) (fun u5 F5 t5 => ?_)
    have FF : FI P12 st u5 := (((F1.tr F2).tr F3).tr F4).tr F5
    have hc : SC A M (n + 4 + 4 + 4 + 4 + 4) _ B B2 e u5 := h.2.2.1.tpe h.2.1 FF.fp (fun d q => by unfold P12 at q; omega) t5
    have hsr : SR A M n tp e u5 := h.2.2.2.1.fp FF.fp (fun d q => by unfold P12 at q; omega)
    have ho : rOK u5 := h.2.2.2.2.fi FF
    have gu : gI u5 (0 + 1) 1 = nI (n + 20) := t5.1
    rw [gu]
    refine ⟨v01, ?_⟩
    intro s4 e4
    show wX12_feed 54 a1 a2 a3 a4 a5 s4 (LkI j 0)
    have F4' : FP (fun d => d = 67) u5 s4 := by rw [e4]; exact FP.uJ (P := fun d => d = 67) rfl
    have hc4 := hc.fp h.2.1 F4' (fun d q => by have q : d = 67 := q; omega)
    have hr4 := hsr.fp F4' (fun d q => by have q : d = 67 := q; omega)
    have ho4 : rOK s4 := by rw [e4]; exact ho.uJ
    have j4 : gJ s4 67 0 = (nI (n + 20)).toInt64 := by rw [e4, gJ_uJ, if_pos ⟨rfl, rfl⟩]
    unfold wX12_feed
    intro s1 e1
    have hr1 := hr4.z e1
    have g2 := hr1.2.2.2.2.1.1
    rw [g2, e20]
    refine ⟨fun _ => ⟨by rw [e1]; exact ho4.uI, ?_⟩, fun q => absurd (nI_le (b := 1600) hr (by omega)) q⟩
    intro t2 f2
    refine ⟨(vin_iff (k := 0) (by omega)).mpr (by omega), ?_⟩
    intro t3 f3
    refine ⟨(vin_iff (k := 1) (by omega)).mpr (by omega), ?_⟩
    intro t4 f4
    refine ⟨(vin_iff (k := 2) (by omega)).mpr (by omega), ?_⟩
    intro t5' f5
    refine ⟨(vin_iff (k := 3) (by omega)).mpr (by omega), ?_⟩
    intro t6 f6
    refine ⟨(vin_iff (k := 4) (by omega)).mpr (by omega), ?_⟩
    intro t7 f7
    have f3 : t3 = uI t2 77 0 a1 := f3
    have f4 : t4 = uI t3 77 1 a2 := f4
    have f5 : t5' = uI t4 77 2 a3 := f5
    have f6 : t6 = uI t5' 77 3 a4 := f6
    have f7 : t7 = uI t6 77 4 a5 := f7
    have F7 : FI (fun d => d = 77) s1 t7 := by
      rw [f7, f6, f5, f4, f3, f2]
      exact (((((FI.s (P := fun d => d = 77) rfl).tr (FI.u (P := fun d => d = 77) rfl)).tr (FI.u (P := fun d => d = 77) rfl)).tr (FI.u (P := fun d => d = 77) rfl)).tr (FI.u (P := fun d => d = 77) rfl)).tr (FI.u (P := fun d => d = 77) rfl)
    have p0 : gI t7 77 0 = a1 := by rw [f7, gI_uI, if_neg (by omega), f6, gI_uI, if_neg (by omega), f5, gI_uI, if_neg (by omega), f4, gI_uI, if_neg (by omega), f3, gI_uI, if_pos ⟨rfl, rfl⟩]
    have p1 : gI t7 77 1 = a2 := by rw [f7, gI_uI, if_neg (by omega), f6, gI_uI, if_neg (by omega), f5, gI_uI, if_neg (by omega), f4, gI_uI, if_pos ⟨rfl, rfl⟩]
    have p2 : gI t7 77 2 = a3 := by rw [f7, gI_uI, if_neg (by omega), f6, gI_uI, if_neg (by omega), f5, gI_uI, if_pos ⟨rfl, rfl⟩]
    have p3 : gI t7 77 3 = a4 := by rw [f7, gI_uI, if_neg (by omega), f6, gI_uI, if_pos ⟨rfl, rfl⟩]
    have p4 : gI t7 77 4 = a5 := by rw [f7, gI_uI, if_pos ⟨rfl, rfl⟩]
    have g27 : gI t7 54 2 = nI n := (F7.gI (show ¬ (54 : Nat) = 77 by omega)).trans g2
    clear f2 f3 f4 f5 f6 f7
    refine lp_inv (n := 20) (I := fun k s => ∃ u, s = (nI k, u) ∧ FI (fun d => d = 55) t7 u ∧ ∀ i, gI u 55 i = if n ≤ i ∧ i < n + k then sb (byt (gI t7 77 ((i - n) / 4)) (24 - 8 * ((i - n) % 4))) else gI t7 55 i) ?_ ?_ ⟨t7, rfl, FI.rf, fun i => by rw [if_neg (by omega)]⟩
    · rintro k s hk ⟨u, rfl, hF, hu⟩ R hR2
      show wX12_feed_L54 54 a1 a2 a3 a4 a5 R (nI k) u (fun r u => rOK u ∧ LkI j 0 r u)
      unfold wX12_feed_L54
      obtain ⟨q1, q2⟩ := shr_u k hk
      have u77 : gI u 77 = gI t7 77 := funext (fun i => hF.gI (show ¬ (77 : Nat) = 55 by omega))
      have u542 : gI u 54 2 = nI n := (hF.gI (show ¬ (54 : Nat) = 55 by omega)).trans g27
      rw [q2, q1, u77, u542, nI_clamp (by omega), b_s _ _ (sh4 (by omega)), show nI n + nI k = nI (n + k) from nI_add n k, nI_clamp (by omega)]
      refine ⟨fun q => absurd ((nI_leI (a := 20) (by omega) (by omega)).mp q) (by omega), fun _ => ⟨(vin_iff (by omega)).mpr (by omega), (vin_iff (by omega)).mpr (by omega), ?_⟩⟩
      intro s11 e11
      rw [nI_1]
      rintro _ rfl
      refine hR2 _ ⟨s11, rfl, hF.tr (by rw [e11]; exact FI.u (P := fun d => d = 55) rfl), fun i => ?_⟩
      rw [e11, gI_uI]
      by_cases q : i = n + k
      · rw [if_pos ⟨rfl, q⟩, if_pos (by omega), q, Nat.add_sub_cancel_left]
      · rw [if_neg (fun w => q w.2), hu]
        by_cases w : n ≤ i ∧ i < n + k
        · rw [if_pos w, if_pos (by omega)]
        · rw [if_neg w, if_neg (by omega)]
    · rintro s ⟨u, rfl, hF, hu⟩ R
      show wX12_feed_L54 54 a1 a2 a3 a4 a5 R (nI 20) u (fun r u => rOK u ∧ LkI j 0 r u)
      unfold wX12_feed_L54
      refine ⟨fun _ => ?_, fun q => absurd (nI_le (a := 20) (Nat.le_refl 20) (by omega)) q⟩
      have u542 : gI u 54 2 = nI n := (hF.gI (show ¬ (54 : Nat) = 55 by omega)).trans g27
      rw [u542, e20]
      intro s10 e10
      have F10 : FP (fun d => d = 77 ∨ d = 55 ∨ d = 54) s1 s10 := ((F7.fp.mo (fun d q => Or.inl q)).tr (hF.fp.mo (fun d q => Or.inr (Or.inl q)))).tr (by rw [e10]; exact FP.uI (Or.inr (Or.inr rfl)))
      have FA : FP (fun d => 54 ≤ d) s4 s10 := (show FP (fun d => 54 ≤ d) s4 s1 by rw [e1]; exact FP.uI (P := fun d => 54 ≤ d) (Nat.le_refl 54)).tr (F10.mo (fun d q => by show 54 ≤ d; omega))
      have g10 : gI s10 54 2 = nI (n + 20) := by rw [e10, gI_uI, if_pos ⟨rfl, rfl⟩]
      have g103 : ∀ i, i ≠ 2 → gI s10 54 i = gI s1 54 i := fun i hi => by rw [e10, gI_uI, if_neg (by omega), hF.gI (show ¬ (54 : Nat) = 55 by omega), F7.gI (show ¬ (54 : Nat) = 77 by omega)]
      have ro : rOK s10 := by
        rw [e10]
        exact (((by rw [e1]; exact ho4.uI : rOK s1).fi F7).fi hF).uI
      rw [g10]
      refine ⟨ro, LkI.in ⟨A, M, n + 4 + 4 + 4 + 4 + 4, tpx (n + 4 + 4 + 4 + 4) (tpx (n + 4 + 4 + 4) (tpx (n + 4 + 4) (tpx (n + 4) (tpx n tp a1) a2) a3) a4) a5, B, B2, e, h.1.up, h.2.1, hc4.fp h.2.1 FA (fun d q => Or.inr q), hr1.tpe F10 (fun d q => by omega) (g103 3 (by omega)) ⟨g10, by omega, fun i hi => ?_, t5.2.2.2⟩, ro⟩ ?_ ?_⟩
      · rw [show gI s10 55 i = gI u 55 i from by rw [e10, gI_uI, if_neg (by omega)], hu]
        by_cases w : n ≤ i ∧ i < n + 20
        · rw [if_pos w]
          obtain ⟨d, rfl⟩ : ∃ d, i = n + d := ⟨i - n, by omega⟩
          rw [tp5_at p0 p1 p2 p3 p4 (by omega), Nat.add_sub_cancel_left]
        · rw [if_neg w, tp5_lo (by omega), F7.gI (show ¬ (55 : Nat) = 77 by omega)]
          exact hr1.2.2.2.2.1.2.2.1 i (by omega)
      · rw [g103 0 (by omega)]; exact z54 e1
      · rw [show gJ s10 67 0 = gJ u 67 0 from by rw [e10, gJ_uI], hF.gJ, F7.gJ, z67 e1, j4]
  · refine ⟨fun _ => ⟨fun q => absurd rfl q, fun _ => ⟨rfl, ?_⟩⟩, fun q => absurd (nI_lt (a := 1600) (by omega) (by omega)) q⟩
    show wX12_feed 54 a1 a2 a3 a4 a5 st (LkI j 1)
    unfold wX12_feed
    intro s1 e1
    have h1 := h.z e1
    rw [h1.tr.1, e20]
    refine ⟨fun q => absurd ((nI_leI (b := 1600) (by omega) (by omega)).mp q) hr, fun _ => ?_⟩
    unfold wX12_fail
    intro s2 e2
    exact LkI.bad h1 (by decide) e2
end FA5

/-! the class is taught a book, by the model -/
def dI (x : Int32) : Nat := x.toBitVec.toNat
theorem nI_dI (x : Int32) : nI (dI x) = x := by
  apply Int32.toBitVec_inj.mp
  show BitVec.ofNat 32 x.toBitVec.toNat = x.toBitVec
  exact BitVec.eq_of_toNat_eq (by rw [BitVec.toNat_ofNat]; exact Nat.mod_eq_of_lt x.toBitVec.isLt)
def od (x : Int32) : Nat := if x = -nI 1 then 0 else dI x + 1
theorem oN_od (x : Int32) : oN (od x) = x := by
  unfold od
  split
  · next h => rw [h]; rfl
  · exact nI_dI x
/-- where the reading begins -/
def Ini (n : Nat) (tp : Nat → Nat) (A : Bk) : Prop := 1 ≤ A 0 4 ∧ A 0 4 ≤ 401 ∧ (∀ k, k ≠ 4 → A 0 k = 0) ∧ ∀ i, i < A 0 4 → A 10 i = tkd n tp i ∧ A 14 i = twd n tp i ∧ A 15 i = tfr n tp i ∧ A 11 i = tnum n tp i + 1 ∧ (2 ≤ tkd n tp i ↔ i + 1 ≠ A 0 4)
def bk0 (n : Nat) (tp : Nat → Nat) (L B : Nat) (st : St) : Bk := fun r k =>
  if r = 0 then (if k = 4 then L + 1 else 0)
  else if r = 10 then tkd n tp k else if r = 14 then twd n tp k
  else if r = 11 then (if k ≤ L then tnum n tp k + 1 else od (gI st (B + 15) k))
  else if r = 15 then (if k ≤ L then tfr n tp k else dI (gI st (B + 14) k))
  else if r = 4 ∨ (6 ≤ r ∧ r ≤ 9) then od (gI st (lc B r k) k) else if r ≤ 9 then dI (gI st (lc B r k) k) else 0
/-- the walkers' and planks' rows, none behind the last -/
def fClip (A : Bk) : Bk := fun r k => if r = 1 then (if k < A 0 0 then A 1 k else 0) else if r = 2 then (if k < A 0 0 then A 2 k else 0) else if r = 3 then (if k < A 0 1 then A 3 k else 0) else A r k
/-- what a book read says -/
def okB (r : Bool × Bk) : Bool := r.1 && decide (r.2 10 (r.2 0 5) = 0)
def fEr (r : Bool × Bk) : Nat := if okB r = true then r.2 0 6 else 1
def fEp (r : Bool × Bk) : Int32 := if okB r = true then (if r.2 0 7 = 0 then -nI 1 else nI (r.2 15 (r.2 0 7 - 1))) else nI (r.2 15 (r.2 0 5))
section CTE
variable {B B2 n L : Nat} {tp : Nat → Nat} {s0 : St} {A : Bk} {st st' : St} {Q : Int32 → St → Prop} {Qv : St → Prop}
theorem c_open (hB : 20 ≤ B) (kB : kd B = 1) (k6 : kd (B + 12) = 6) (h : TpC st n tp) (hq : ∀ st' A, Ini n tp A → CP st B A st' → NF A → Qv st') : wX4_open 3 1 B st Qv := by
  unfold wX4_open
  intro s1 e1 s2 e2
  have r1 : gR s2 3 1 = B := by rw [e2, gR_uR, if_neg (by omega), e1, gR_uR, if_pos ⟨rfl, rfl⟩]
  have r0 : gR s2 3 0 = B + 12 := by rw [e2, gR_uR, if_pos ⟨rfl, rfl⟩]
  refine ⟨by rw [r1]; exact kB, ?_⟩
  intro c3 e3
  rw [e3, r1]
  unfold wX1_clear
  intro t1 f1 t2 f2 t3 f3 t4 f4
  have g0 : gR t4 3 0 = B + 12 := by rw [f4, f3, f2, f1]; exact r0
  have g1 : gR t4 3 1 = B := by rw [f4, f3, f2, f1]; exact r1
  refine ⟨by rw [g0]; exact k6, ?_⟩
  intro c5 e5
  rw [e5, g0]
  have F4 : FP (PQ B) st t4 := by
    rw [f4, f3, f2, f1, e2, e1]
    have p3 : PQ B 3 := Or.inl rfl
    have pB : PQ B B := Or.inr ⟨Nat.le_refl _, by omega⟩
    exact (((((FP.uR p3 (by unfold XR; omega)).tr (FP.uR p3 (by unfold XR; omega))).tr (FP.uI pB)).tr (FP.uI pB)).tr (FP.uI pB)).tr (FP.uI pB)
  have i4 : ∀ j, j = 4 ∨ j = 6 ∨ j = 9 ∨ j = 15 → gI t4 B j = nI 0 := by
    intro j hj
    rw [f4, gI_uI, f3, gI_uI, f2, gI_uI, f1, gI_uI]
    rcases hj with rfl | rfl | rfl | rfl <;> simp <;> rfl
  have T4 : TpC t4 n tp := h.fp F4 (by unfold PQ; omega) (by unfold PQ; omega)
  refine c_scan hB T4 (fun s6 L F6 h1 h2 h400 hL hT => ?_)
  intro s7 e7
  have q0 : gR s7 3 0 = B + 12 := by rw [e7]; exact (F6.gR (by unfold PTk; omega)).trans g0
  have q1 : gR s7 3 1 = B := by rw [e7]; exact (F6.gR (by unfold PTk; omega)).trans g1
  refine ⟨by rw [q0]; exact k6, ?_⟩
  intro c8 e8
  rw [e8, q0]
  unfold wX7_kindAt
  have hL7 : gI s7 (B + 12) 4 = nI (L + 1) := by rw [e7, gI_uI, if_neg (by omega)]; exact hL
  have k0 : gK s7 (B + 12 + 1) 0 = some (tkd n tp 0) := by rw [e7]; exact (hT 0 (by omega)).1
  have k37 : tkd n tp 0 < 37 := by have := tkd_rg (n := n) (tp := tp) (t := 0); omega
  refine ⟨fun q => absurd q (by decide), fun _ => ⟨fun _ => ⟨(vin_iff (k := 0) (by omega)).mpr (by omega), ?_⟩, fun q => absurd (by rw [hL7]; exact nI_lt (a := 0) (b := L + 1) (by omega) (by omega)) q⟩⟩
  rw [show ((0 : Int32).toNatClampNeg) = 0 from rfl, k0]
  rintro _ rfl
  refine ⟨fun _ => ⟨kin_l k37, ?_⟩, fun q => by cases q⟩
  intro s11 e11 s12 e12 s13 e13
  have iF : ∀ d j, gI s13 d j = if d = 3 ∧ j = 5 then -nI 1 else if d = 3 ∧ j = 4 then nI 0 else if d = 3 ∧ j = 2 then nI 0 else gI s6 d j := by
    intro d j
    rw [e13, gI_uI]
    split
    · rfl
    · rw [e12, gI_uI]
      split
      · rfl
      · rw [e11, show gI (uK s7 3 3 (some (tkd n tp 0))) d j = gI s7 d j from rfl, e7, gI_uI]
        rfl
  have F13 : FP (PQ B) st s13 := by
    have p3 : PQ B 3 := Or.inl rfl
    rw [e13, e12, e11, e7]
    exact (((F4.tr (F6.mo (fun d hd => by unfold PTk at hd; unfold PQ; omega))).tr (FP.uI p3)).tr (FP.uK p3)).tr ((FP.uI p3).tr (FP.uI p3))
  refine hq s13 (bk0 n tp L B s13) ?_ ?_ ?_
  · refine ⟨?_, ?_, ?_, ?_⟩
    · show 1 ≤ L + 1; omega
    · show L + 1 ≤ 401; omega
    · intro k hk
      show (if k = 4 then L + 1 else 0) = 0
      rw [if_neg hk]
    · intro i hi
      have hi : i < L + 1 := hi
      refine ⟨rfl, rfl, ?_, ?_, ?_⟩
      · show (if i ≤ L then tfr n tp i else _) = _
        rw [if_pos (by omega)]
      · show (if i ≤ L then tnum n tp i + 1 else _) = _
        rw [if_pos (by omega)]
      · show 2 ≤ tkd n tp i ↔ i + 1 ≠ L + 1
        by_cases e : i = L
        · subst e; exact ⟨fun q => by omega, fun q => absurd rfl q⟩
        · exact ⟨fun q => by omega, fun q => h1 i (by omega)⟩
  · refine ⟨?_, ?_, ?_, ?_, ?_, ?_, F13⟩
    · intro r k hv
      unfold ir at hv
      by_cases z0 : r = 0
      · subst z0
        have hk : k = 0 ∨ k = 1 ∨ k = 2 ∨ k = 3 ∨ k = 4 ∨ k = 5 ∨ k = 6 ∨ k = 7 := by omega
        have b4 : ∀ j, j = 4 ∨ j = 6 ∨ j = 9 ∨ j = 15 → gI s13 B j = nI 0 := fun j hj => by
          rw [iF, if_neg (by omega), if_neg (by omega), if_neg (by omega), F6.gI (by unfold PTk; omega)]
          exact i4 j hj
        rcases hk with rfl | rfl | rfl | rfl | rfl | rfl | rfl | rfl
        · exact b4 4 (by omega)
        · exact b4 6 (by omega)
        · exact b4 9 (by omega)
        · exact b4 15 (by omega)
        · show gI s13 (B + 12) 4 = nI (L + 1)
          rw [iF, if_neg (by omega), if_neg (by omega), if_neg (by omega)]; exact hL
        · show gI s13 3 2 = nI 0
          rw [iF, if_neg (by omega), if_neg (by omega), if_pos ⟨rfl, rfl⟩]
        · show gI s13 3 4 = nI 0
          rw [iF, if_neg (by omega), if_pos ⟨rfl, rfl⟩]
        · show gI s13 3 5 = oN 0
          rw [iF, if_pos ⟨rfl, rfl⟩]; rfl
      · have lje : lj r k = k := by unfold lj; rw [if_neg z0]
        rw [lje]
        by_cases z11 : r = 11
        · subst z11
          show gI s13 (B + 15) k = oN (if k ≤ L then tnum n tp k + 1 else od (gI s13 (B + 15) k))
          split
          · rw [iF, if_neg (by omega), if_neg (by omega), if_neg (by omega)]
            exact (hT k (by omega)).2.2.1
          · rw [oN_od]
        by_cases z15 : r = 15
        · subst z15
          show gI s13 (B + 14) k = nI (if k ≤ L then tfr n tp k else dI (gI s13 (B + 14) k))
          split
          · rw [iF, if_neg (by omega), if_neg (by omega), if_neg (by omega)]
            exact (hT k (by omega)).2.1
          · rw [nI_dI]
        have ha : bk0 n tp L B s13 r k = if r = 4 ∨ (6 ≤ r ∧ r ≤ 9) then od (gI s13 (lc B r k) k) else if r ≤ 9 then dI (gI s13 (lc B r k) k) else 0 := by
          unfold bk0
          rw [if_neg z0, if_neg (show ¬ r = 10 by omega), if_neg (show ¬ r = 14 by omega), if_neg z11, if_neg z15]
        rw [ha]
        by_cases z4 : r = 4 ∨ (6 ≤ r ∧ r ≤ 9)
        · unfold cv
          rw [if_pos z4, if_pos (show (r = 0 ∧ k = 7) ∨ r = 4 ∨ (6 ≤ r ∧ r ≤ 9) ∨ r = 11 by omega), oN_od]
        · unfold cv
          rw [if_neg z4, if_neg (show ¬ ((r = 0 ∧ k = 7) ∨ r = 4 ∨ (6 ≤ r ∧ r ≤ 9) ∨ r = 11) by omega), if_pos (show r ≤ 9 by omega), nI_dI]
    · refine ⟨fun i hi => ?_, fun k hk => absurd (show k < 0 from hk) (by omega), fun k hk => absurd (show k < 0 from hk) (by omega)⟩
      have hi : i < L + 1 := hi
      rw [e13, e12, e11, e7]
      exact (hT i hi).2.2.2
    · refine ⟨?_, fun i hi => ?_⟩
      · rw [e13, e12]
        show gK s11 3 3 = some (tkd n tp 0)
        rw [e11, gK_uK, if_pos ⟨rfl, rfl⟩]
      · have hi : i < L + 1 := hi
        rw [e13, e12]
        show gK s11 (B + 13) i = some (tkd n tp i)
        rw [e11, gK_uK, if_neg (by omega), e7]
        exact (hT i hi).1
    · refine ⟨Nat.zero_le _, Nat.zero_le _, Nat.zero_le _, Nat.zero_le _, ?_, ?_, Nat.zero_le _, ?_, ?_, fun k hk => absurd (show k < 0 from hk) (by omega), fun k hk => absurd (show k < 0 from hk) (by omega)⟩
      · show L + 1 ≤ 401; omega
      · show 0 < L + 1; omega
      · show 0 ≤ L + 1; omega
      · intro i hi
        have hi : i < L + 1 := hi
        refine ⟨by have := tkd_rg (n := n) (tp := tp) (t := i); show tkd n tp i < 37; omega, ?_, twd_vw⟩
        show 2 ≤ tkd n tp i ↔ i + 1 ≠ L + 1
        by_cases e : i = L
        · subst e; exact ⟨fun q => by omega, fun q => absurd rfl q⟩
        · exact ⟨fun q => by omega, fun q => h1 i (by omega)⟩
    · rw [e13, e12, e11]; exact q0
    · rw [e13, e12, e11]; exact q1
  · intro i _ hi
    have hi : i < L + 1 := hi
    show 1 ≤ (if i ≤ L then tnum n tp i + 1 else _) ∧ (if i ≤ L then tnum n tp i + 1 else _) ≤ 1000
    rw [if_pos (by omega)]
    have := tnum_lt (n := n) (tp := tp) (t := i)
    omega
theorem c_book (hB : 20 ≤ B) (kB : kd B = 1) (k6 : kd (B + 12) = 6) (h : CP s0 B A st) (hn : NF A) (hq : PO s0 B (fun x st' => wX9_teach_L50 0 x st' Q) (mBook A)) :
    wX4_readWalkers (0 + 3) st (fun r4 st3 => ((r4 = 0 → wX9_teach_L49 0 st3 Q) ∧ (¬ r4 = 0 → (wX4_readPlanks (0 + 3) st3 (fun r6 st5 => ((r6 = 0 → wX9_teach_L49 0 st5 Q) ∧ (¬ r6 = 0 → (wX4_readPlans (0 + 3) st5 (fun r8 st7 => ((r8 = 0 → wX9_teach_L49 0 st7 Q) ∧ (¬ r8 = 0 → wX9_teach_L50 0 1 st7 Q))))))))))) := by
  unfold mBook at hq
  rw [bd_as] at hq
  refine c_walkers hB kB k6 h hn (PO.b hq (fun s1 _ h1 n1 hq1 => ?_))
  refine c_planks hB kB k6 h1 n1 (PO.b hq1 (fun s2 _ h2 n2 hq2 => ?_))
  exact c_plans hB kB k6 h2 n2 hq2.e
/-- the end of a reading: the error and its place -/
def F01 (B : Nat) (p : Int32) (st s2 : St) : Prop := FP (fun d => PQ B d ∨ d = 0 ∨ d = 1) st s2 ∧ gI s2 0 8 = p ∧ (∀ j, j ≠ 8 → gI s2 0 j = gI st 0 j) ∧ gI s2 1 1 = nI 0 ∧ ∀ c j, c = 0 ∨ c = 1 → gR s2 c j = gR st c j
theorem F01.of {p : Int32} {s1 s2 : St} (h : FP (PQ B) st s1) (hB : 20 ≤ B) (e : s2 = uI (uI s1 0 8 p) 1 1 0) : F01 B p st s2 := by
  subst e
  have n0 : ¬ PQ B 0 := by unfold PQ; omega
  have n1 : ¬ PQ B 1 := by unfold PQ; omega
  refine ⟨((h.mo (fun d hd => Or.inl hd)).tr (FP.uI (P := fun d => PQ B d ∨ d = 0 ∨ d = 1) (Or.inr (Or.inl rfl)))).tr (FP.uI (P := fun d => PQ B d ∨ d = 0 ∨ d = 1) (Or.inr (Or.inr rfl))), ?_, fun j hj => ?_, ?_, ?_⟩
  · rw [gI_uI, if_neg (by omega), gI_uI, if_pos ⟨rfl, rfl⟩]
  · rw [gI_uI, if_neg (by omega), gI_uI, if_neg (by omega)]; exact h.gI n0
  · rw [gI_uI, if_pos ⟨rfl, rfl⟩]; rfl
  · rintro c j (rfl | rfl)
    · exact h.gR n0
    · exact h.gR n1
theorem c_posAt {i : Nat} {p : Int32} (h : gI st (B + 12) 4 = nI (A 0 4)) (hi : i < A 0 4) (h401 : A 0 4 ≤ 401) (hp : gI st (B + 12 + 2) i = p) (hq : Q p st) : wX7_positionAt (B + 12) (nI i) st Q := by
  unfold wX7_positionAt
  rw [h]
  refine ⟨fun q => absurd q (nI_pos (by omega)), fun _ => ⟨fun q => absurd ((nI_leI (by omega) (by omega)).mp q) (by omega), fun _ => ⟨(vin_iff (by omega)).mpr (by omega), ?_⟩⟩⟩
  rw [nI_clamp (by omega), hp]
  exact hq
theorem c_l50 {r : Bool × Bk} (hB : 20 ≤ B) (k6 : kd (B + 12) = 6) (h : CP s0 B r.2 st) (hq1 : ∀ s2, fEr r ≠ 0 → F01 B (fEp r) st s2 → (gR s2 3 0 = B + 12 ∧ gR s2 3 1 = B) → Q (nI (fEr r)) s2) (hq2 : ∀ s2, fEr r = 0 → s2 = uI (uI st 0 8 (fEp r)) 1 1 0 → kd (gR s2 0 6) = 1 ∧ kd (gR s2 0 7) = 1 ∧ wX2_begin 4 (gR s2 0 7) (uR (uR s2 0 6 (gR s2 0 7)) 0 7 (gR s2 0 6)) (fun st20 => wX8_forget 18 st20 (fun st21 => Q 0 st21))) : wX9_teach_L50 0 (bI r.1) st Q := by
  unfold wX9_teach_L50 wX4_close
  have hm := h.mi
  have h5 := hm.2.2.2.2.2.1
  have h401 := hm.2.2.2.2.1
  have h7 := hm.2.2.2.2.2.2.2.1
  have h6 := hm.2.2.2.2.2.2.1
  have bad : okB r = false → wX4_close_L14 3 (bI r.1) st (fun r10 st9 => (wX4_errorPosition 3 st9 (fun r12 st11 => (∀ st13, st13 = uI st11 0 8 r12 → (∀ st14, st14 = uI st13 1 1 0 → ((¬ r10 = 0 → Q r10 st14) ∧ (r10 = 0 → (kd (gR st14 0 6) = 1 ∧ ∀ c15, c15 = gR st14 0 6 → (kd (gR st14 0 7) = 1 ∧ ∀ c16, c16 = gR st14 0 7 → (∀ st17, st17 = uR st14 0 6 c16 → (∀ st18, st18 = uR st17 0 7 c15 → (kd (gR st18 0 6) = 1 ∧ ∀ c19, c19 = gR st18 0 6 → (wX2_begin 4 c19 st18 (fun st20 => (wX8_forget 18 st20 (fun st21 => Q r10 st21)))))))))))))))) := by
    intro hb
    unfold wX4_close_L14 wX4_errorPosition
    intro s2 e2 s3 e3
    have fe : fEr r = 1 := by unfold fEr; rw [if_neg (by rw [hb]; decide)]
    have fp : fEp r = nI (r.2 15 (r.2 0 5)) := by unfold fEp; rw [if_neg (by rw [hb]; decide)]
    have a2 : gI s2 3 2 = nI (r.2 0 5) := by rw [e2, gI_uI, if_neg (by omega)]; exact h.at
    rw [a2] at e3
    have i4 : gI s3 3 4 = nI 1 := by rw [e3, gI_uI, if_neg (by omega), e2, gI_uI, if_pos ⟨rfl, rfl⟩]; rfl
    have i5 : gI s3 3 5 = nI (r.2 0 5) := by rw [e3, gI_uI, if_pos ⟨rfl, rfl⟩]
    have g0 : gR s3 3 0 = B + 12 := by rw [e3, e2]; exact h.r0
    have t4 : gI s3 (B + 12) 4 = nI (r.2 0 4) := by rw [e3, gI_uI, if_neg (by omega), e2, gI_uI, if_neg (by omega)]; exact h.tc
    have tp4 : gI s3 (B + 12 + 2) (r.2 0 5) = nI (r.2 15 (r.2 0 5)) := by rw [e3, gI_uI, if_neg (by omega), e2, gI_uI, if_neg (by omega)]; exact h.po _
    have F3 : FP (PQ B) st s3 := by rw [e3, e2]; exact (FP.uI (Or.inl rfl)).tr (FP.uI (Or.inl rfl))
    rw [i4, i5]
    refine ⟨by rw [g0]; exact k6, ?_⟩
    rintro _ rfl
    rw [g0]
    refine c_posAt t4 h5 h401 tp4 ?_
    intro s13 e13 s14 e14
    refine ⟨fun _ => ?_, fun q => absurd q (by decide)⟩
    have := hq1 s14 (by rw [fe]; decide) (F01.of (s1 := s3) F3 hB (by rw [e14, e13, fp])) ⟨by rw [e14, e13, e3, e2]; exact h.r0, by rw [e14, e13, e3, e2]; exact h.r1⟩
    rw [fe] at this
    exact this
  refine ⟨fun q => bad (by unfold okB; rw [bI0.mp q]; rfl), fun q => ?_⟩
  have ht := bI_t q
  rw [h.kd]
  refine ⟨kin_l hm.k37, fun q2 => ?_, fun q2 => bad ?_⟩
  · have k0 := Option.some.inj q2
    have ob : okB r = true := by unfold okB; rw [ht, k0]; rfl
    have fe : fEr r = r.2 0 6 := by unfold fEr; rw [if_pos ob]
    have fp : fEp r = if r.2 0 7 = 0 then -nI 1 else nI (r.2 15 (r.2 0 7 - 1)) := by unfold fEp; rw [if_pos ob]
    rw [h.er]
    unfold wX4_errorPosition
    refine ⟨by rw [h.r0]; exact k6, ?_⟩
    rintro _ rfl
    have i5 : gI st 3 5 = oN (r.2 0 7) := h.1 0 7 (Or.inl ⟨rfl, by omega⟩)
    rw [h.r0, i5]
    have go : ∀ st13 st14, st13 = uI st 0 8 (fEp r) → st14 = uI st13 1 1 0 → ((¬ nI (r.2 0 6) = 0 → Q (nI (r.2 0 6)) st14) ∧ (nI (r.2 0 6) = 0 → (kd (gR st14 0 6) = 1 ∧ ∀ c15, c15 = gR st14 0 6 → (kd (gR st14 0 7) = 1 ∧ ∀ c16, c16 = gR st14 0 7 → (∀ st17, st17 = uR st14 0 6 c16 → (∀ st18, st18 = uR st17 0 7 c15 → (kd (gR st18 0 6) = 1 ∧ ∀ c19, c19 = gR st18 0 6 → (wX2_begin 4 c19 st18 (fun st20 => (wX8_forget 18 st20 (fun st21 => Q (nI (r.2 0 6)) st21))))))))))) := by
      intro s13 s14 e13 e14
      rw [← fe]
      have e5 : fEr r ≤ 5 := by rw [fe]; exact h6
      refine ⟨fun q => hq1 s14 (fun z => q (by rw [z]; rfl)) (F01.of FP.rf hB (by rw [e14, e13])) ⟨by rw [e14, e13]; exact h.r0, by rw [e14, e13]; exact h.r1⟩, fun q => ?_⟩
      have z : fEr r = 0 := (nI_eq (b := 0) (by omega) (by omega)).mp q
      obtain ⟨b1, b2, b3⟩ := hq2 s14 z (by rw [e14, e13])
      rw [z]
      refine ⟨b1, ?_⟩
      rintro _ rfl
      refine ⟨b2, ?_⟩
      rintro _ rfl _ rfl _ rfl
      have g6 : gR (uR (uR s14 0 6 (gR s14 0 7)) 0 7 (gR s14 0 6)) 0 6 = gR s14 0 7 := by rw [gR_uR, if_neg (by omega), gR_uR, if_pos ⟨rfl, rfl⟩]
      rw [g6]
      refine ⟨b2, ?_⟩
      rintro _ rfl
      exact b3
    by_cases z7 : r.2 0 7 = 0
    · rw [z7]
      unfold wX7_positionAt
      refine ⟨fun _ => ?_, fun q3 => absurd (show oN 0 < 0 from by decide) q3⟩
      intro s13 e13 s14 e14
      exact go s13 s14 (by rw [e13, fp, if_pos z7]; rfl) e14
    · rw [oN_pos z7]
      refine c_posAt h.tc (by omega) h401 (h.po _) ?_
      intro s13 e13 s14 e14
      exact go s13 s14 (by rw [e13, fp, if_neg z7]) e14
  · unfold okB
    rw [ht, decide_eq_false (fun z => q2 (by rw [z]))]
    rfl
/-- a book is taught -/
theorem c_teach (hB : 20 ≤ B) (kB : kd B = 1) (k6 : kd (B + 12) = 6) (kB2 : kd B2 = 1) (h : TpC st n tp) (h7 : gR st 0 7 = B) (h6 : gR st 0 6 = B2)
    (hq1 : ∀ A st', Ini n tp A → fEr (mBook A) ≠ 0 → (mBook A).2 0 5 < (mBook A).2 0 4 → F01 B (fEp (mBook A)) st st' → (gR st' 3 0 = B + 12 ∧ gR st' 3 1 = B) → Q (nI (fEr (mBook A))) st')
    (hq2 : ∀ A s1 st', Ini n tp A → fEr (mBook A) = 0 → CP st B (mBook A).2 s1 → FP (fun d => d = 0 ∨ d = 1 ∨ PB 4 d ∨ d = 18) s1 st' → gI st' 0 8 = fEp (mBook A) → (∀ j, j ≠ 8 → gI st' 0 j = gI s1 0 j) → gI st' 1 1 = nI 0 → (∀ c j, ¬ (c = 0 ∧ (j = 6 ∨ j = 7)) → gR st' c j = gR s1 c j) → gR st' 0 6 = B → gR st' 0 7 = B2 → gI st' 18 2 = nI 0 → CB 4 ((mBook A).2 0 0) (fClip (mBook A).2 1) (fClip (mBook A).2 2) st' → BR 4 ((mBook A).2 0 0) ((mBook A).2 0 1) st' (fBeg (fClip (mBook A).2 3)) → Q 0 st') : wX9_teach 0 st Q := by
  unfold wX9_teach
  refine ⟨by rw [h7]; exact kB, ?_⟩
  intro c1 e1
  rw [e1, h7]
  refine c_open hB kB k6 h (fun s2 A hI hc hn => ?_)
  refine c_book hB kB k6 hc hn (fun s3 hc3 _ => ?_)
  refine c_l50 hB k6 hc3 (fun s4 hne hF hr3 => hq1 A s4 hI hne hc3.mi.2.2.2.2.2.1 ?_ hr3) (fun s4 hz e4 => ?_)
  · obtain ⟨f1, f2, f3, f4, f5⟩ := hF
    have n0 : ¬ PQ B 0 := by unfold PQ; omega
    have n1 : ¬ PQ B 1 := by unfold PQ; omega
    exact ⟨(hc3.fr.mo (fun d hd => Or.inl hd)).tr f1, f2, fun j hj => (f3 j hj).trans (hc3.fr.gI n0), f4, fun c j hcj => (f5 c j hcj).trans (hc3.fr.gR (by rcases hcj with rfl | rfl; exact n0; exact n1))⟩
  · have n0 : ¬ PQ B 0 := by unfold PQ; omega
    have n1 : ¬ PQ B 1 := by unfold PQ; omega
    have hm := hc3.mi
    have r7 : gR s4 0 7 = B := by rw [e4]; exact (hc3.fr.gR n0).trans h7
    have r6 : gR s4 0 6 = B2 := by rw [e4]; exact (hc3.fr.gR n0).trans h6
    refine ⟨by rw [r6]; exact kB2, by rw [r7]; exact kB, ?_⟩
    rw [r6, r7]
    have hq2 := hq2 A s3
    generalize mBook A = r at *
    have gs : ∀ d j, d ≠ 0 → d ≠ 1 → gI (uR (uR s4 0 6 B) 0 7 B2) d j = gI s3 d j := fun d j h0 h1 => by
      rw [gI_uR, gI_uR, e4, gI_uI, if_neg (by omega), gI_uI, if_neg (by omega)]
    refine c_begin (nw := r.2 0 0) (pl := r.2 0 1) (wt := fClip r.2 1) (mi := fClip r.2 2) (sg := fClip r.2 3) (by omega) hm.1 hm.2.1 (by rw [gs _ _ (by omega) (by omega)]; exact hc3.wn) (by rw [gs _ _ (by omega) (by omega)]; exact hc3.pn) (fun k hk => ?_) (fun k hk => ?_) (fun k hk => ?_) (fun s20 hF hC hR => ?_)
    · rw [gs _ _ (by omega) (by omega)]
      show _ = nI (if k < r.2 0 0 then r.2 1 k else 0)
      rw [if_pos hk]
      exact hc3.1 1 k (Or.inr (Or.inl (by omega)))
    · rw [gs _ _ (by omega) (by omega)]
      show _ = nI (if k < r.2 0 0 then r.2 2 k else 0)
      rw [if_pos hk]
      exact hc3.1 2 k (Or.inr (Or.inl (by omega)))
    · rw [gs _ _ (by omega) (by omega)]
      show _ = nI (if k < r.2 0 1 then r.2 3 k else 0)
      rw [if_pos hk]
      exact hc3.1 3 k (Or.inr (Or.inl (by omega)))
    · unfold wX8_forget
      intro s21 e21
      have F2 : FI (fun d => d = 18) s20 s21 := by rw [e21]; exact FI.u (P := fun d => d = 18) rfl
      have nb0 : ¬ PB 4 0 := by unfold PB; omega
      have nb1 : ¬ PB 4 1 := by unfold PB; omega
      refine hq2 s21 hI hz hc3 ?_ ?_ (fun j hj => ?_) ?_ (fun c j hcj => ?_) ?_ ?_ (by rw [e21, gI_uI, if_pos ⟨rfl, rfl⟩]; rfl) ?_ ?_
      · have d0 : FP (fun d => d = 0 ∨ d = 1) s3 (uR (uR s4 0 6 B) 0 7 B2) := by
          rw [e4]
          exact ((FP.uI (P := fun d => d = 0 ∨ d = 1) (Or.inl rfl)).tr (FP.uI (P := fun d => d = 0 ∨ d = 1) (Or.inr rfl))).tr ((FP.uR (P := fun d => d = 0 ∨ d = 1) (Or.inl rfl) (by unfold XR; omega)).tr (FP.uR (P := fun d => d = 0 ∨ d = 1) (Or.inl rfl) (by unfold XR; omega)))
        exact ((d0.mo (fun d q => q.elim Or.inl (fun y => Or.inr (Or.inl y)))).tr (hF.fp.mo (fun d q => Or.inr (Or.inr (Or.inl q))))).tr (F2.fp.mo (fun d q => Or.inr (Or.inr (Or.inr q))))
      · rw [F2.gI (show ¬ (0 : Nat) = 18 by omega), hF.gI nb0, gI_uR, gI_uR, e4, gI_uI, if_neg (by omega), gI_uI, if_pos ⟨rfl, rfl⟩]
      · rw [F2.gI (show ¬ (0 : Nat) = 18 by omega), hF.gI nb0, gI_uR, gI_uR, e4, gI_uI, if_neg (by omega), gI_uI, if_neg (by omega)]
      · rw [F2.gI (show ¬ (1 : Nat) = 18 by omega), hF.gI nb1, gI_uR, gI_uR, e4, gI_uI, if_pos ⟨rfl, rfl⟩]; rfl
      · rw [F2.gR, hF.gR, gR_uR, if_neg (by omega), gR_uR, if_neg (by omega), e4]; rfl
      · rw [F2.gR, hF.gR, gR_uR, if_neg (by omega), gR_uR, if_pos ⟨rfl, rfl⟩]
      · rw [F2.gR, hF.gR, gR_uR, if_pos ⟨rfl, rfl⟩]
      · exact ⟨fun k hk => (F2.gI (show ¬ (5 : Nat) = 18 by omega)).trans (hC.1 k hk), fun k hk => (F2.gI (show ¬ (6 : Nat) = 18 by omega)).trans (hC.2 k hk)⟩
      · exact hR.fi F2 (fun d h1 h2 => by omega)
end CTE

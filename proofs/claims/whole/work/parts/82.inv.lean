/-! the two sides of the law, and what every call of it finds -/
def SP (j : Nat) (A : Bk) (M : Nat → Nat) : Prop := bOK A ∧ BB (A 0 0) (A 0 1) (A 1) (A 2) ∧ (∀ k, k < A 0 0 → 1 ≤ A 2 k) ∧ 4 ≤ A 0 1 ∧ MB 120 M ∧ MC (1000 * j) M ∧ LF (A 0 0) M
def SC (A : Bk) (M : Nat → Nat) (n : Nat) (tp : Nat → Nat) (B B2 : Nat) (e : Int32) (st : St) : Prop := gR st 0 6 = B ∧ gR st 0 7 = B2 ∧ CK B A st ∧ CB 4 (A 0 0) (A 1) (A 2) st ∧ BR 4 (A 0 0) (A 0 1) st M ∧ WC (A 0 0) (A 2) st ∧ TpC st n tp ∧ gI st 0 8 = e
def SR (A : Bk) (M : Nat → Nat) (n : Nat) (tp : Nat → Nat) (e : Int32) (st : St) : Prop := RM st M ∧ KB (A 0 0) (A 0 1) (A 1) (A 2) st ∧ gI st 60 2 = nI (A 0 2) ∧ gOK A (gI st 65) (gI st 66) (gI st 64) ∧ TpR st n tp ∧ gI st 54 3 = e
def S20 (B B2 : Nat) : Prop := (B = 20 ∧ B2 = 37) ∨ (B = 37 ∧ B2 = 20)
def Inv (j : Nat) (st : St) : Prop := ∃ A M n tp B B2 e, SP j A M ∧ S20 B B2 ∧ SC A M n tp B B2 e st ∧ SR A M n tp e st ∧ rOK st
section INV
variable {j nw pl n B B2 : Nat} {tp wt mi M M' : Nat → Nat} {A : Bk} {e : Int32} {st st' st1 : St} {P : Nat → Prop} {Q : Int32 → St → Prop} {Qv R : St → Prop} {X : String → St → Prop}
theorem SP.up (h : SP j A M) : SP (j + 1) A M := ⟨h.1, h.2.1, h.2.2.1, h.2.2.2.1, h.2.2.2.2.1, h.2.2.2.2.2.1.mo (by omega), h.2.2.2.2.2.2⟩
theorem Inv.up (h : Inv j st) : Inv (j + 1) st := by
  obtain ⟨A, M, n, tp, B, B2, e, h1, h2, h3, h4, h5⟩ := h
  exact ⟨A, M, n, tp, B, B2, e, h1.up, h2, h3, h4, h5⟩
theorem CK.fp (h : CK B A st) (hF : FP P st st') (hp : ∀ d, B ≤ d → d ≤ B + 15 → ¬ P d) : CK B A st' := by
  obtain ⟨h1, h2, h3, h4, h5, h6⟩ := h
  refine ⟨by rw [hF.gI (hp B (by omega) (by omega))]; exact h1, by rw [hF.gI (hp B (by omega) (by omega))]; exact h2, fun p q => by rw [hF.gI (hp _ (by omega) (by omega))]; exact h3 p q, fun a q => by rw [hF.gI (hp _ (by omega) (by omega)), hF.gI (hp _ (by omega) (by omega)), hF.gI (hp _ (by omega) (by omega)), hF.gI (hp _ (by omega) (by omega)), hF.gI (hp _ (by omega) (by omega))]; exact h4 a q, by rw [hF.gI (hp _ (by omega) (by omega))]; exact h5, fun i q => by rw [hF.gK (hp _ (by omega) (by omega)), hF.gI (hp _ (by omega) (by omega))]; exact h6 i q⟩
theorem CB.fp {b : Nat} (h : CB b nw wt mi st) (hF : FP P st st') (h1 : ¬ P (b + 1)) (h2 : ¬ P (b + 2)) : CB b nw wt mi st' := ⟨fun k hk => (hF.gI h1).trans (h.1 k hk), fun k hk => (hF.gI h2).trans (h.2 k hk)⟩
theorem BR.fp {b : Nat} (h : BR b nw pl st M) (hF : FP P st st') (hp : ∀ d, b ≤ d → d ≤ b + 5 → ¬ P d) : BR b nw pl st' M := by
  obtain ⟨h1, ⟨S, h2, h2'⟩, h3, h4, h5, h6⟩ := h
  refine ⟨fun i hi => by rw [hF.gI (hp _ (by omega) (by omega))]; exact h1 i hi, ⟨S, by rw [hF.gI (hp _ (by omega) (by omega))]; exact h2, h2'⟩, fun k hk => by rw [hF.gI (hp _ (by omega) (by omega))]; exact h3 k hk, fun k hk => by rw [hF.gI (hp _ (by omega) (by omega))]; exact h4 k hk, fun k hk => by rw [hF.gI (hp _ (by omega) (by omega))]; exact h5 k hk, fun k hk q => by rw [hF.gI (hp _ (by omega) (by omega))]; exact h6 k hk q⟩
theorem WC.fp (h : WC nw mi st) (hF : FP P st st') (h1 : ¬ P 18) (h2 : ¬ P 19) : WC nw mi st' := by
  rcases h with h | ⟨T, g1, tt, g2, g3⟩
  · exact Or.inl ((hF.gI h1).trans h)
  · exact Or.inr ⟨T, (hF.gI h1).trans g1, tt, fun i hi => (hF.gI h2).trans (g2 i hi), g3⟩
theorem SC.ch (h : SC A M n tp B B2 e st) (hS : S20 B B2) (hF : FP P st st') (hP : ∀ d, P d → d = 4 ∨ d = 7 ∨ d = 8 ∨ d = 9 ∨ (10 ≤ d ∧ d < 18) ∨ 54 ≤ d) (hb : BR 4 (A 0 0) (A 0 1) st' M') : SC A M' n tp B B2 e st' := by
  obtain ⟨h1, h2, h3, h4, h5, h6, h7, h8⟩ := h
  have np : ∀ d, ¬ (d = 4 ∨ d = 7 ∨ d = 8 ∨ d = 9 ∨ (10 ≤ d ∧ d < 18) ∨ 54 ≤ d) → ¬ P d := fun d w q => w (hP d q)
  refine ⟨(hF.gR (np _ (by omega))).trans h1, (hF.gR (np _ (by omega))).trans h2, h3.fp hF (fun d w1 w2 => np d (by unfold S20 at hS; omega)), h4.fp hF (np _ (by omega)) (np _ (by omega)), hb, h6.fp hF (np _ (by omega)) (np _ (by omega)), h7.fp hF (np _ (by omega)) (np _ (by omega)), (hF.gI (np _ (by omega))).trans h8⟩
theorem SC.fp (h : SC A M n tp B B2 e st) (hS : S20 B B2) (hF : FP P st st') (hP : ∀ d, P d → (10 ≤ d ∧ d < 18) ∨ 54 ≤ d) : SC A M n tp B B2 e st' :=
  h.ch hS hF (fun d q => by have := hP d q; omega) (h.2.2.2.2.1.fp hF (fun d w1 w2 q => by have := hP d q; omega))
theorem SC.wc (h : SC A M n tp B B2 e st) (hS : S20 B B2) (hF : FI P18 st st') (hw : WC (A 0 0) (A 2) st') : SC A M n tp B B2 e st' := by
  obtain ⟨h1, h2, h3, h4, h5, h6, h7, h8⟩ := h
  have hF' := hF.fp
  have np : ∀ d, d ≠ 18 → d ≠ 19 → ¬ P18 d := fun d w1 w2 => by unfold P18; omega
  refine ⟨hF.gR.trans h1, hF.gR.trans h2, h3.fp hF' (fun d w1 w2 => np d (by unfold S20 at hS; omega) (by unfold S20 at hS; omega)), h4.fp hF' (np _ (by omega) (by omega)) (np _ (by omega) (by omega)), h5.fp hF' (fun d w1 w2 => np d (by omega) (by omega)), hw, h7.fp hF' (np _ (by omega) (by omega)) (np _ (by omega) (by omega)), (hF'.gI (np _ (by omega) (by omega))).trans h8⟩
theorem SR.ch (h : SR A M n tp e st) (hF : FP P st st') (hP : ∀ d, P d → d < 55 ∨ (56 ≤ d ∧ d < 60) ∨ 67 ≤ d) (h54 : ∀ i, i ≠ 0 → gI st' 54 i = gI st 54 i) (hr : RM st' M') : SR A M' n tp e st' := by
  obtain ⟨h1, h2, h3, h4, h5, h6⟩ := h
  have np : ∀ d, d = 55 ∨ (60 ≤ d ∧ d < 67) → ¬ P d := fun d w q => by have := hP d q; omega
  have e65 : gI st' 65 = gI st 65 := funext (fun i => hF.gI (np _ (by omega)))
  have e66 : gI st' 66 = gI st 66 := funext (fun i => hF.gI (np _ (by omega)))
  have e64 : gI st' 64 = gI st 64 := funext (fun i => hF.gI (np _ (by omega)))
  refine ⟨hr, ⟨(hF.gI (np _ (by omega))).trans h2.1, (hF.gI (np _ (by omega))).trans h2.2.1, fun k hk => (hF.gI (np _ (by omega))).trans (h2.2.2.1 k hk), fun k hk => (hF.gI (np _ (by omega))).trans (h2.2.2.2 k hk)⟩, (hF.gI (np _ (by omega))).trans h3, by rw [e65, e66, e64]; exact h4, ⟨(h54 2 (by omega)).trans h5.1, h5.2.1, fun i hi => (hF.gI (np _ (by omega))).trans (h5.2.2.1 i hi), h5.2.2.2⟩, (h54 3 (by omega)).trans h6⟩
theorem RM.fp (h : RM st M) (hF : FP P st st') (hp : ¬ P 56) : RM st' M := fun k hk => (hF.gI hp).trans (h k hk)
/-- the class's cells change -/
theorem SR.fp (h : SR A M n tp e st) (hF : FP P st st') (hP : ∀ d, P d → d < 54 ∨ d = 67) : SR A M n tp e st' :=
  h.ch hF (fun d q => by have := hP d q; omega) (fun i _ => hF.gI (fun q => by have := hP _ q; omega)) (h.1.fp hF (fun q => by have := hP _ q; omega))
/-- the reference's first row -/
theorem SR.z {v : Int32} (h : SR A M n tp e st) (e1 : st' = uI st 54 0 v) : SR A M n tp e st' := by
  have hF : FP (fun d => d = 54) st st' := by rw [e1]; exact FP.uI (P := fun d => d = 54) rfl
  exact h.ch hF (fun d q => by have q : d = 54 := q; omega) (fun i hi => by rw [e1, gI_uI, if_neg (by omega)]) (h.1.fp hF (show ¬ (56 : Nat) = 54 by omega))
theorem SR.fi (h : SR A M n tp e st) (hF : FI P st st') (hP : ∀ d, P d → 56 ≤ d ∧ d < 60) (hr : RM st' M') : SR A M' n tp e st' :=
  h.ch hF.fp (fun d q => by have := hP d q; omega) (fun i _ => hF.gI (fun q => by have := hP _ q; omega)) hr
theorem rOK.fi (h : rOK st) (hF : FI P st st') : rOK st' := fun c i => by rw [hF.gR]; exact h c i
theorem rOK.uI {c i : Nat} {v : Int32} (h : rOK st) : rOK (uI st c i v) := fun c i => h c i
theorem rOK.uJ {c i : Nat} {v : Int64} (h : rOK st) : rOK (uJ st c i v) := fun c i => h c i
/-! numbers given by a call -/
theorem i_nn {p : Int32} (h : ¬ p < 0) : p = nI (dI p) ∧ dI p < 2 ^ 31 := by
  refine ⟨(nI_dI p).symm, ?_⟩
  apply Decidable.byContradiction
  intro q
  apply h
  rw [Int32.lt_iff_toInt_lt]
  show p.toBitVec.toInt < 0
  have h1 := p.toBitVec.isLt
  unfold dI at q
  rw [BitVec.toInt_eq_toNat_cond]
  split <;> omega
theorem i_rng (m : Nat) (hm : m < 2 ^ 30) (p : Int32) : (∃ k, k < m ∧ p = nI k) ∨ (p < 0 ∨ (¬ p < 0 ∧ ¬ p < nI m)) := by
  by_cases h : p < 0
  · exact Or.inr (Or.inl h)
  · by_cases h2 : p < nI m
    · obtain ⟨e1, e2⟩ := i_nn h
      rw [e1, nI_ltI (by omega) (by omega)] at h2
      exact Or.inl ⟨dI p, h2, e1⟩
    · exact Or.inr (Or.inr ⟨h, h2⟩)
def Out (m : Nat) (p : Int32) : Prop := p < 0 ∨ (¬ p < 0 ∧ ¬ p < nI m)
theorem Out.le {m : Nat} (hm : m < 2 ^ 30) {p : Int32} (h : ¬ p < 0 ∧ ¬ p < nI m) : ∃ k, m ≤ k ∧ k < 2 ^ 31 ∧ p = nI k := by
  obtain ⟨e1, e2⟩ := i_nn h.1
  have h2 := h.2
  rw [e1, nI_ltI (by omega) (by omega)] at h2
  exact ⟨dI p, by omega, e2, e1⟩
theorem i_neg0 : (-nI 1 : Int32) < 0 := by decide
theorem r_inT {m k : Nat} {p3 : Int32} (hm : m < 2 ^ 30) (hk : k < m) (e3 : p3 = nI m - 1) (hq : Q 1 st) : wX12_isIn (nI k) 0 p3 st Q := by
  unfold wX12_isIn
  obtain ⟨m', rfl⟩ : ∃ m', m = m' + 1 := ⟨m - 1, by omega⟩
  rw [nI_pred] at e3
  rw [e3]
  exact ⟨fun q => absurd q (nI_pos (by omega)), fun _ => ⟨fun q => absurd ((nI_ltI (by omega) (by omega)).mp q) (by omega), fun _ => hq⟩⟩
theorem r_inF {m : Nat} {p p3 : Int32} (hm : m < 2 ^ 30) (ho : Out m p) (e3 : p3 = nI m - 1) (hq : Q 0 st) : wX12_isIn p 0 p3 st Q := by
  unfold wX12_isIn
  rcases ho with h | h
  · exact ⟨fun _ => hq, fun q => absurd h q⟩
  · obtain ⟨k, k1, k2, rfl⟩ := Out.le hm h
    refine ⟨fun _ => hq, fun _ => ⟨fun _ => hq, fun q => absurd ?_ q⟩⟩
    rw [e3]
    cases m with
    | zero => exact Int32.lt_of_lt_of_le (show (nI 0 - 1 : Int32) < 0 by decide) (Int32.not_lt.mp h.1)
    | succ m => rw [nI_pred]; exact nI_lt (by omega) (by omega)
/-! the law's last look -/
def FinI (r2 r4 r6 : Int32) (st5 : St) (R : St → Prop) : Prop := ((r6 = r2 → ((¬ r2 = 0 → R st5) ∧ (r2 = 0 → (vp_in 0 1 ∧ (((lg_cmp (gJ st5 67 (0 : Int32).toNatClampNeg) ((r4 : Int32).toInt64)) = 0 → R st5) ∧ (¬ (lg_cmp (gJ st5 67 (0 : Int32).toNatClampNeg) ((r4 : Int32).toInt64)) = 0 → False)))))) ∧ (¬ r6 = r2 → False))
def FinB (r2 r4 r6 : Int32) (st5 : St) (R : St → Prop) : Prop := ((r6 = r2 → ((¬ r2 = 0 → R st5) ∧ (r2 = 0 → (vp_in 0 1 ∧ ((r4 = 0 → (((lg_cmp (gJ st5 67 (0 : Int32).toNatClampNeg) 0) = 0 → R st5) ∧ (¬ (lg_cmp (gJ st5 67 (0 : Int32).toNatClampNeg) 0) = 0 → False))) ∧ (¬ r4 = 0 → (((lg_cmp (gJ st5 67 (0 : Int32).toNatClampNeg) 1) = 0 → R st5) ∧ (¬ (lg_cmp (gJ st5 67 (0 : Int32).toNatClampNeg) 1) = 0 → False)))))))) ∧ (¬ r6 = r2 → False))
theorem v01 : vp_in 0 1 := (vin_iff (k := 0) (by omega)).mpr (by omega)
theorem FinI.bad {t r4 : Int32} (ht : t ≠ 0) (hR : R st) : FinI t r4 t st R := ⟨fun _ => ⟨fun _ => hR, fun q => absurd q ht⟩, fun q => absurd rfl q⟩
theorem FinB.bad {t r4 : Int32} (ht : t ≠ 0) (hR : R st) : FinB t r4 t st R := ⟨fun _ => ⟨fun _ => hR, fun q => absurd q ht⟩, fun q => absurd rfl q⟩
theorem FinI.ok {r4 : Int32} (hj : gJ st 67 0 = r4.toInt64) (hR : R st) : FinI 0 r4 0 st R := ⟨fun _ => ⟨fun q => absurd rfl q, fun _ => ⟨v01, fun _ => hR, fun q => absurd ((lg_cmp_eq _ _).mpr hj) q⟩⟩, fun q => absurd rfl q⟩
theorem FinB.ok {r4 : Int32} (hj : gJ st 67 0 = if r4 = 0 then 0 else 1) (hR : R st) : FinB 0 r4 0 st R := by
  refine ⟨fun _ => ⟨fun q => absurd rfl q, fun _ => ⟨v01, fun q => ?_, fun q => ?_⟩⟩, fun q => absurd rfl q⟩
  · rw [if_pos q] at hj
    exact ⟨fun _ => hR, fun w => absurd ((lg_cmp_eq _ _).mpr hj) w⟩
  · rw [if_neg q] at hj
    exact ⟨fun _ => hR, fun w => absurd ((lg_cmp_eq _ _).mpr hj) w⟩
end INV

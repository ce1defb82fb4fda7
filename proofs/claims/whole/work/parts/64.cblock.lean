/-! the class's reader, by the model: compares, acts, blocks -/
theorem bd_as {r : Bool × Bk} {f g : Bk → Bool × Bk} : bd (bd r f) g = bd r (fun A => bd (f A) g) := by
  cases h : r.1 with
  | true => rw [bd_t h, bd_t h]
  | false =>
    rw [bd_f h, bd_f h]
    exact bd_f rfl
/-- acts are never fewer -/
def Mo (f : Bk → Bool × Bk) : Prop := ∀ A, A 0 3 ≤ (f A).2 0 3
theorem bd_mo {A : Bk} {r : Bool × Bk} {f : Bk → Bool × Bk} (h : A 0 3 ≤ r.2 0 3) (hf : Mo f) : A 0 3 ≤ (bd r f).2 0 3 := by
  cases e : r.1 with
  | true => rw [bd_t e]; exact Nat.le_trans h (hf _)
  | false => rw [bd_f e]; exact h
theorem mo_tk {k : Nat} : Mo (mTk k) := fun A => by
  unfold mTk
  split
  · exact Nat.le_refl _
  · exact Nat.le_refl _
theorem mo_of {A A' : Bk} {f : Bk → Bool × Bk} (hf : Mo f) (h : A' 0 3 = A 0 3) : A 0 3 ≤ (f A').2 0 3 := by rw [← h]; exact hf A'
theorem mo_who : Mo mWho := fun A => by
  unfold mWho
  split
  · exact mo_tk A
  · exact mo_of mo_tk (by unfold mRes; rw [u2_a, if_neg (by omega)]; exact mMk3_s (by omega))
theorem mo_pna : Mo mPna := fun A => by
  unfold mPna
  exact mo_of mo_tk (by unfold mRes; rw [u2_a, if_neg (by omega)]; exact mMk3_s (by omega))
theorem mOut_s {lo hi r k : Nat} {A : Bk} (h : r ≠ 0 ∨ (k ≠ 6 ∧ k ≠ 7)) : mOut lo hi A r k = A r k := by
  unfold mOut
  split
  · exact mMk_s h
  · rfl
theorem mo_val : Mo mVal := fun A => by
  unfold mVal
  split
  · exact mo_tk A
  · exact mo_of mo_tk (mOut_s (by omega))
theorem mo_cmp1 : Mo mCmp1 := fun A => by
  unfold mCmp1
  refine bd_mo (mo_val A) (fun A1 => bd_mo ?_ (fun A2 => bd_mo (mo_val A2) (fun A3 => ?_)))
  · split
    · exact mo_tk A1
    · exact Nat.le_refl _
  · show A3 0 3 ≤ gInc 9 A3 0 3
    unfold gInc
    rw [u2_a, if_neg (by omega)]
    exact Nat.le_refl _
theorem mo_cmp : ∀ {f : Nat}, Mo (mCmp f) := by
  intro f
  induction f with
  | zero => exact fun A => Nat.le_refl _
  | succ f ih =>
    intro A
    unfold mCmp
    refine bd_mo (mo_cmp1 A) (fun A1 => ?_)
    split
    · exact Nat.le_trans (mo_tk A1) (ih _)
    · exact Nat.le_refl _
theorem gS_s {r x v r' k' : Nat} {A : Bk} (h : r' ≠ r) : gSet r x v A r' k' = A r' k' := by
  unfold gSet
  rw [u2_a, if_neg (by omega)]
theorem mo_end {x : Nat} : Mo (mEnd x) := fun A => by
  unfold mEnd
  refine mo_of mo_tk ?_
  unfold gPe
  rw [gS_s (by omega)]
  unfold gInc
  rw [u2_a, if_neg (by omega)]
theorem mo_bo {blk : Nat → Bk → Bool × Bk} {r x : Nat} (hr : r ≠ 0) (h : ∀ o, Mo (blk o)) : Mo (mBO blk r x) := fun A => by
  unfold mBO
  show A 0 3 ≤ (if x = 0 then (blk x A).2 else u2 (blk x A).2 r (x - 1) _) 0 3
  split
  · exact h x A
  · rw [u2_a, if_neg (by omega)]; exact h x A
theorem mo_act {blk : Nat → Bk → Bool × Bk} (h : ∀ o, Mo (blk o)) {x : Nat} : Mo (mAct blk x) := fun A => by
  unfold mAct
  split
  · unfold mSend
    refine bd_mo (mo_tk A) (fun A1 => bd_mo (mo_who A1) (fun A2 => bd_mo ?_ mo_end))
    split
    · exact bd_mo (mo_tk A2) mo_who
    · exact Nat.le_refl _
  split
  · unfold mSim
    exact bd_mo (mo_tk A) (fun A1 => bd_mo (mo_val A1) mo_end)
  split
  · unfold mDo
    exact bd_mo (mo_tk A) (fun A1 => bd_mo (mo_pna A1) mo_end)
  have sc : ∀ A1 : Bk, gCs x A1 0 3 = A1 0 3 := fun A1 => by unfold gCs; exact gS_s (by omega)
  have sn : ∀ A1 : Bk, gInc 8 (gN x A1) 0 3 = A1 0 3 := fun A1 => by unfold gInc gN; rw [u2_a, if_neg (by omega)]; exact gS_s (by omega)
  have sp : ∀ A1 : Bk, gPe x A1 0 3 = A1 0 3 := fun A1 => by unfold gPe; exact gS_s (by omega)
  have se : ∀ A1 : Bk, gEx x A1 0 3 = A1 0 3 := fun A1 => by unfold gEx; exact gS_s (by omega)
  have si2 : ∀ A1 : Bk, gIe x A1 0 3 = A1 0 3 := fun A1 => by unfold gIe; exact gS_s (by omega)
  have si : ∀ A1 : Bk, gInc 8 A1 0 3 = A1 0 3 := fun A1 => by unfold gInc; rw [u2_a, if_neg (by omega)]
  split
  · unfold mWhile
    refine bd_mo (mo_tk A) (fun A1 => bd_mo (mo_of mo_cmp (sc A1)) (fun A2 => bd_mo (mo_of (mo_bo (by omega) h) (sn A2)) (fun A3 => ?_)))
    show A3 0 3 ≤ gPe x (gInc 8 A3) 0 3
    rw [sp, si]
    exact Nat.le_refl _
  split
  · unfold mIf
    refine bd_mo (mo_tk A) (fun A1 => bd_mo (mo_of mo_cmp (sc A1)) (fun A2 => bd_mo (mo_of (mo_bo (by omega) h) (sn A2)) (fun A3 => ?_)))
    rw [← si2 A3]
    unfold mElse
    generalize gIe x A3 = A3
    split
    · refine bd_mo (mo_of mo_tk (by rw [se, si])) (fun A4 => bd_mo (mo_bo (by omega) h A4) (fun A5 => ?_))
      show A5 0 3 ≤ gPe x A5 0 3
      rw [sp]
      exact Nat.le_refl _
    · show A3 0 3 ≤ gPe x (gEx x A3) 0 3
      rw [sp, se]
      exact Nat.le_refl _
  · exact Nat.le_refl _
theorem addA_3 {o : Nat} {A : Bk} : mAddA o A 0 3 = (if A 0 3 < 60 then A 0 3 + 1 else A 0 3) := by
  unfold mAddA
  split
  · rw [u2_a, if_pos ⟨rfl, rfl⟩]
  · exact mMk_s (by omega)
theorem link_s {last x r k : Nat} {A : Bk} (h : r ≠ 7) : mLink last x A r k = A r k := by
  unfold mLink
  split
  · rfl
  · rw [u2_a, if_neg (by omega)]
theorem mo_loop {act : Nat → Bk → Bool × Bk} (h : ∀ x, Mo (act x)) {o : Nat} : ∀ {f last : Nat}, Mo (mLoop act o f last) := by
  intro f
  induction f with
  | zero => exact fun A => mo_tk A
  | succ f ih =>
    intro last A
    unfold mLoop
    split
    · exact mo_tk A
    · refine bd_mo (Nat.le_trans ?_ (h _ _)) ih
      rw [link_s (by omega), addA_3]
      split <;> omega
theorem mo_blk : ∀ {k o : Nat}, Mo (mBlk k o) := by
  intro k
  induction k with
  | zero => exact fun A => Nat.le_refl _
  | succ k ih =>
    intro o A
    unfold mBlk
    exact bd_mo (mo_tk A) (mo_loop (fun x => mo_act (fun o => ih)))
theorem sw_no : ∀ k, k < 37 → ¬ (k = 16 ∨ k = 18 ∨ k = 19 ∨ k = 20 ∨ k = 21 ∨ k = 22 ∨ k = 23) → kSw k ≠ 1 ∧ kSw k ≠ 2 ∧ kSw k ≠ 3 ∧ kSw k ≠ 4 ∧ kSw k ≠ 5 ∧ kSw k ≠ 6 ∧ kSw k ≠ 7 := by decide +kernel
section CBK
variable {s0 : St} {B : Nat} {A : Bk} {st st' : St} {Q : Int32 → St → Prop} {Qv : St → Prop} {Qk : Option Nat → St → Prop} {Qj : Int64 → St → Prop}
theorem PO.e {r : Bool × Bk} (h : PO s0 B Q r) : PO s0 B (fun x st' => (x = 0 → Q 0 st') ∧ (¬ x = 0 → Q 1 st')) r := by
  intro st' hc hn
  have := h st' hc hn
  cases e : r.1 with
  | true => rw [e] at this; exact ⟨fun q => absurd q (by decide), fun _ => this⟩
  | false => rw [e] at this; exact ⟨fun _ => this, fun q => absurd rfl q⟩
theorem c_cmpT (hB : 20 ≤ B) (k6 : kd (B + 12) = 6) : ∀ (f v : Nat) (A : Bk) (st : St), f + v = 400 → CP s0 B A st → NF A → PO s0 B Q (mCmp f A) → lp (fun R s => wX4_takeCompares_L2 3 R s.1 s.2 Q) (f + 1) (nI v, st) := by
  intro f
  induction f with
  | zero =>
    intro v A st hv h hn hq
    have e : v = 400 := by omega
    subst e
    show wX4_takeCompares_L2 3 _ (nI 400) st Q
    unfold wX4_takeCompares_L2
    exact ⟨fun _ => hq st h (fun z => by cases z), fun q => absurd (nI_le (Nat.le_refl 400) (by omega)) q⟩
  | succ f ih =>
    intro v A st hv h hn hq
    have ih := ih (v + 1)
    show wX4_takeCompares_L2 3 (lp (fun R s => wX4_takeCompares_L2 3 R s.1 s.2 Q) (f + 1)) (nI v) st Q
    generalize lp (fun R s => wX4_takeCompares_L2 3 R s.1 s.2 Q) (f + 1) = RR at ih ⊢
    unfold wX4_takeCompares_L2
    unfold mCmp mCmp1 at hq
    rw [bd_as] at hq
    refine ⟨fun q => absurd ((nI_leI (a := 400) (by omega) (by omega)).mp q) (by omega), fun _ => c_valT hB k6 h hn (PO.b hq (fun s1 _ h1 n1 hq1 => ?_))⟩
    rw [bd_as] at hq1
    generalize (mVal A).2 = A1 at h1 n1 hq1
    have hm1 := h1.mi
    have k37 := hm1.k37
    refine ⟨A1 10 (A1 0 5), h1.kd, k37, ?_⟩
    have go : ∀ rr : Int32, rr = bI (decide (8 ≤ A1 10 (A1 0 5) ∧ A1 10 (A1 0 5) ≤ 10)) → ((rr = 0 → Q 0 s1) ∧ (¬ rr = 0 → (wX4_take 3 (gK s1 3 3) s1 (fun r7 st6 => ((r7 = 0 → Q 0 st6) ∧ (¬ r7 = 0 → (wX4_takeValue 3 st6 (fun r9 st8 => ((¬ r9 = 0 → (kin (gK st8 3 3) ∧ ((gK st8 3 3) = ((some 25)) → (wX4_take 3 (some 25) st8 (fun r12 st11 => (∀ x13 : Int32, x13 = nI v + 1 → RR (x13, st11))))) ∧ (¬ (gK st8 3 3) = ((some 25)) → Q 1 st8))) ∧ (r9 = 0 → Q 0 st8)))))))))) := by
      rintro rr rfl
      refine ⟨fun q => ?_, fun q => ?_⟩
      · rw [if_neg (of_decide_eq_false (bI0.mp q))] at hq1
        exact hq1.f rfl h1
      · have hc := of_decide_eq_true (bI_t q)
        rw [if_pos hc] at hq1
        rw [h1.kd]
        refine c_take hB k6 h1 n1 (by omega) k37 (PO.b hq1 (fun s2 _ h2 n2 hq2 => ?_))
        rw [bd_as] at hq2
        generalize (mTk (A1 10 (A1 0 5)) A1).2 = A2 at h2 n2 hq2
        refine c_valT hB k6 h2 n2 (PO.b2 hq2 (fun s3 _ h3 n3 hq3 => ?_))
        generalize (mVal A2).2 = A3 at h3 n3 hq3
        have h4 : CP s0 B (gInc 9 A3) s3 := h3.g (Or.inl ⟨rfl, by omega⟩)
        have n4 : NF (gInc 9 A3) := n3.g (Or.inl ⟨rfl, by omega, by omega⟩)
        have hq3 : PO s0 B Q (if gInc 9 A3 10 (gInc 9 A3 0 5) = 25 then mCmp f (mTk 25 (gInc 9 A3)).2 else (true, gInc 9 A3)) := hq3
        generalize gInc 9 A3 = A4 at h4 n4 hq3
        rw [h4.kd]
        refine ⟨kin_l h4.mi.k37, fun q3 => ?_, fun q3 => ?_⟩
        · have e3 := Option.some.inj q3
          rw [if_pos e3] at hq3
          refine c_take hB k6 h4 n4 (by omega) (by omega) (fun s5 h5 n5 => ?_)
          rintro _ rfl
          rw [nI_1]
          exact ih _ s5 (by omega) h5 (n5 (by unfold mTk; rw [if_pos e3])) hq3
        · rw [if_neg (fun e => q3 (by rw [e]))] at hq3
          exact hq3 s3 h4 (fun _ => n4)
    unfold wX3_isComparison wX3_isComparison_L21
    refine ⟨fun q => go 1 (by rw [decide_eq_true (by have := Option.some.inj q; omega)]; rfl), fun q => ⟨fun q2 => go 1 (by rw [decide_eq_true (by have := Option.some.inj q2; omega)]; rfl), fun q2 => ⟨fun q3 => go 0 ?_, fun q3 => go 1 (by rw [decide_eq_true (by have := Option.some.inj q3; omega)]; rfl)⟩⟩⟩
    rw [decide_eq_false]
    · rfl
    · rintro ⟨a, b⟩
      have c : A1 10 (A1 0 5) = 8 ∨ A1 10 (A1 0 5) = 9 ∨ A1 10 (A1 0 5) = 10 := by omega
      rcases c with e | e | e
      · exact q (by rw [e])
      · exact q2 (by rw [e])
      · exact q3 (by rw [e])
theorem c_compares (hB : 20 ≤ B) (k6 : kd (B + 12) = 6) (h : CP s0 B A st) (hn : NF A) (hq : PO s0 B Q (mCmp 400 A)) : wX4_takeCompares 3 st Q := by
  unfold wX4_takeCompares
  exact ⟨401, c_cmpT hB k6 400 0 A st (by omega) h hn hq⟩
/-- an act is added -/
theorem c_addA {o : Nat} (hB : 20 ≤ B) (h : CP s0 B A st) (hlt : A 0 3 < 60) (hq : ∀ st', CP s0 B (mAddA o A) st' → Q (nI (A 0 3)) st') : wX1_addAct B (gI st 3 2) (oN o) st Q := by
  unfold wX1_addAct
  rw [h.an, h.at]
  have hm := h.mi
  have v60 : vp_in (nI (A 0 3)) 60 := (vin_iff (by omega)).mpr hlt
  have cl : (nI (A 0 3) : Int32).toNatClampNeg = A 0 3 := nI_clamp (by omega)
  unfold mAddA at hq
  rw [if_pos hlt] at hq
  refine ⟨fun _ => ⟨v60, ?_⟩, fun q => absurd (nI_lt hlt (by omega)) q⟩
  rw [cl]
  intro s1 e1
  have hm1 := hm.s (r := 5) (k := A 0 3) (v := A 0 5) (by omega)
  have h1 := h.u (r := 5) (k := A 0 3) (v := A 0 5) (c := B + 7) (j := A 0 3) (x := nI (A 0 5)) hB (Or.inr (Or.inl (by omega))) rfl rfl rfl hm1 (fun z => by omega)
  rw [← e1] at h1
  have a1 : gI s1 B 15 = nI (A 0 3) := h1.an
  rw [a1, cl]
  refine ⟨v60, ?_⟩
  intro s2 e2
  have hm2 := hm1.s (r := 6) (k := A 0 3) (v := o) (by omega)
  have h2 := h1.u (r := 6) (k := A 0 3) (v := o) (c := B + 8) (j := A 0 3) (x := oN o) hB (Or.inr (Or.inl (by omega))) rfl rfl rfl hm2 (fun z => by omega)
  rw [← e2] at h2
  have a2 : gI s2 B 15 = nI (A 0 3) := h2.an
  rw [a2, cl]
  refine ⟨v60, ?_⟩
  intro s3 e3
  have hm3 := hm2.s (r := 7) (k := A 0 3) (v := 0) (by omega)
  have h3 := h2.u (r := 7) (k := A 0 3) (v := 0) (c := B + 9) (j := A 0 3) (x := -1) hB (Or.inr (Or.inl (by omega))) rfl rfl rfl hm3 (fun z => by omega)
  rw [← e3] at h3
  have a3 : gI s3 B 15 = nI (A 0 3) := h3.an
  rw [a3, cl]
  refine ⟨v60, ?_⟩
  intro s4 e4
  have hm4 := hm3.s (r := 8) (k := A 0 3) (v := 0) (by omega)
  have h4 := h3.u (r := 8) (k := A 0 3) (v := 0) (c := B + 10) (j := A 0 3) (x := -1) hB (Or.inr (Or.inl (by omega))) rfl rfl rfl hm4 (fun z => by omega)
  rw [← e4] at h4
  have a4 : gI s4 B 15 = nI (A 0 3) := h4.an
  rw [a4, cl]
  refine ⟨v60, ?_⟩
  intro s5 e5
  have hm5 := hm4.s (r := 9) (k := A 0 3) (v := 0) (by omega)
  have h5 := h4.u (r := 9) (k := A 0 3) (v := 0) (c := B + 11) (j := A 0 3) (x := -1) hB (Or.inr (Or.inl (by omega))) rfl rfl rfl hm5 (fun z => by omega)
  rw [← e5] at h5
  have a5 : gI s5 B 15 = nI (A 0 3) := h5.an
  rw [a5, nI_1]
  intro s6 e6
  have h6 := h5.g (r := 12) (k := A 0 3) (v := if o = 0 then 0 else A 12 (o - 1) + 1) (by omega)
  have h7 := h6.g (r := 13) (k := A 0 3) (v := A 0 2) (by omega)
  have h8 := h7.g (r := 18) (k := A 0 3) (v := A 0 8) (by omega)
  have h9 := h8.u (r := 0) (k := 3) (v := A 0 3 + 1) (c := B) (j := 15) (x := nI (A 0 3 + 1)) hB (Or.inl ⟨rfl, by omega⟩) rfl rfl rfl (h8.mi.h (by omega) (by omega)) (fun _ => by omega)
  rw [← e6] at h9
  have a6 : gI s6 B 15 = nI (A 0 3 + 1) := h9.an
  rw [a6, show nI (A 0 3 + 1) - 1 = nI (A 0 3) from nI_pred _]
  exact hq s6 h9
theorem NF.addA {o : Nat} (h : NF A) : NF (mAddA o A) := by
  unfold mAddA
  split
  · exact ((((((((h.g (by omega)).g (by omega)).g (by omega)).g (by omega)).g (by omega)).g (by omega)).g (by omega)).g (by omega)).g (by omega)
  · exact h.mk
theorem NF.link {last x : Nat} (h : NF A) : NF (mLink last x A) := by
  unfold mLink
  split
  · exact h
  · exact h.g (by omega)
theorem cp_has {x : Nat} (h : CP s0 B A st) (hx : x ≤ A 0 3) (hq : Q (bI (decide (x ≠ 0))) st) : wX1_hasAct B (oN x) st Q := by
  unfold wX1_hasAct
  have h60 := h.mi.2.2.2.1
  cases x with
  | zero => exact ⟨fun _ => hq, fun q => absurd (show oN 0 < 0 from by decide) q⟩
  | succ k =>
    have hq : Q 1 st := hq
    show (nI k < 0 → Q 0 st) ∧ (¬ nI k < 0 → ((gI st B 15 ≤ nI k → Q 0 st) ∧ (¬ gI st B 15 ≤ nI k → Q 1 st)))
    rw [h.an]
    exact ⟨fun q => absurd q (nI_pos (by omega)), fun _ => ⟨fun q => absurd ((nI_leI (by omega) (by omega)).mp q) (by omega), fun _ => hq⟩⟩
theorem c_blk_1 {o : Nat} (hB : 20 ≤ B) (kB : kd B = 1) (k6 : kd (B + 12) = 6) (h : CP s0 B A st) (hn : NF A) (ho : o ≤ 60) (hq : PO s0 B Q (mBlk 0 o A)) : wX4_readBlock_1 3 (oN o) (nI 4) st Q := by
  unfold wX4_readBlock_1
  exact ⟨fun _ => hq st h (fun z => by cases z), fun q => absurd (nI_lt (a := 3) (b := 4) (by omega) (by omega)) q⟩
theorem c_bo_2 {x r : Nat} (hB : 20 ≤ B) (kB : kd B = 1) (k6 : kd (B + 12) = 6) (h : CP s0 B A st) (hn : NF A) (hx : x ≤ 60) (hr : r = 8 ∨ r = 9) (hq : PO s0 B Q (mBO (mBlk 0) r x A)) : wX4_readBlockOf_2 3 (oN x) (nI 3) (B + r + 2) st Q := by
  unfold wX4_readBlockOf_2
  refine ⟨by rw [h.r1]; exact kB, ?_⟩
  intro c1 e1
  rw [e1, h.r1, h.an]
  rintro _ rfl
  rw [show nI 3 + 1 = nI 4 from rfl]
  unfold mBO at hq
  refine c_blk_1 hB kB k6 h hn hx (fun s1 h1 n1 => ?_)
  have hm1 := h1.mi
  have hm := h.mi
  have h60 := hm.2.2.2.1
  have h601 := hm1.2.2.2.1
  generalize mBlk 0 x A = R at h1 n1 hq hm1 h601
  cases x with
  | zero =>
    refine ⟨fun _ => ?_, fun q => absurd (show oN 0 < 0 from by decide) q⟩
    exact hq s1 h1 n1
  | succ k =>
    refine ⟨fun q => absurd q (nI_pos (n := k) (by omega)), fun _ => ⟨fun q => absurd ((nI_leI (a := 60) (b := k) (by omega) (by omega)).mp q) (by omega), fun _ => ⟨by rw [h1.r1]; exact kB, ?_⟩⟩⟩
    intro c5 e5
    rw [e5, h1.r1]
    unfold wX1_firstSince
    rw [h1.an]
    have hq : PO s0 B Q (R.1, u2 R.2 r k (if A 0 3 < R.2 0 3 then A 0 3 + 1 else 0)) := hq
    have fin : ∀ v, v = (if A 0 3 < R.2 0 3 then A 0 3 + 1 else 0) → vp_in (oN (k + 1)) 60 ∧ ∀ st8, st8 = uI s1 (B + r + 2) (oN (k + 1) : Int32).toNatClampNeg (oN v) → Q (bI R.1) st8 := by
      rintro v hv
      refine ⟨(vin_iff (k := k) (by omega)).mpr (by omega), ?_⟩
      intro s8 e8
      rw [show (oN (k + 1) : Int32).toNatClampNeg = k from nI_clamp (n := k) (by omega)] at e8
      refine hq s8 ?_ (fun z => (n1 z).g (by omega))
      rw [e8, ← hv]
      exact h1.u (r := r) (k := k) (v := v) hB (Or.inr (Or.inl (by omega))) (by unfold lc; rw [if_neg (by omega), if_neg (by omega), if_neg (by omega), if_neg (by omega)]) (by unfold lj; rw [if_neg (by omega)]) (by unfold cv; rw [if_pos (by omega)]) (hm1.s (by omega)) (fun z => by omega)
    refine ⟨fun q => ?_, fun q => ?_⟩
    · have := (nI_leI (by omega) (by omega)).mp q
      exact fin 0 (by rw [if_neg (by omega)])
    · have : A 0 3 < R.2 0 3 := Nat.lt_of_not_le (fun z => q (nI_le z (by omega)))
      exact fin (A 0 3 + 1) (by rw [if_pos this])
theorem c_act_2 {x : Nat} (hB : 20 ≤ B) (kB : kd B = 1) (k6 : kd (B + 12) = 6) (h : CP s0 B A st) (hn : NF A) (hx : x ≤ 60) (hq : PO s0 B Q (mAct (mBlk 0) x A)) : wX4_readAct_2 3 (oN x) (nI 3) st Q := by
  unfold wX4_readAct_2
  have k37 := h.mi.k37
  have endT : ∀ A' s1, CP s0 B A' s1 → NF A' → PO s0 B Q (mEnd x A') → wX4_readAct_2_L98 3 (oN x) (nI 3) s1 Q := by
    intro A' s1 h1 n1 hq1
    unfold wX4_readAct_2_L98
    unfold mEnd at hq1
    have h2 : CP s0 B (gPe x (gInc 8 A')) s1 := (h1.g (Or.inl ⟨rfl, by omega⟩)).g (by omega)
    have n2 : NF (gPe x (gInc 8 A')) := (n1.g (Or.inl ⟨rfl, by omega, by omega⟩)).g (by omega)
    exact c_take hB k6 h2 n2 (by omega) (by omega) hq1.e
  intro x1 ex1
  rw [h.kd] at ex1
  refine ⟨A 10 (A 0 5), ex1, k37, (vin_iff (by omega)).mpr k37, ?_⟩
  rw [show (Int32.ofNat (A 10 (A 0 5)) : Int32).toNatClampNeg = A 10 (A 0 5) from nI_clamp (by omega), ex1]
  unfold mAct at hq
  have hsw := sw_act _ k37
  have simple : (A 10 (A 0 5) = 18 ∨ A 10 (A 0 5) = 19 ∨ A 10 (A 0 5) = 20) → wX4_readAct_2_L114 3 (oN x) (nI 3) (some (A 10 (A 0 5))) st Q := by
    intro hk
    rw [if_neg (by omega), if_pos hk] at hq
    unfold wX4_readAct_2_L114
    unfold mSim at hq
    refine c_take hB k6 h hn (by omega) k37 (PO.b hq (fun s1 _ h1 n1 hq1 => ?_))
    refine c_valT hB k6 h1 n1 (PO.b hq1 (fun s2 _ h2 n2 hq2 => ?_))
    exact endT _ s2 h2 n2 hq2
  have hcs : A 10 (A 0 5) = 16 ∨ A 10 (A 0 5) = 18 ∨ A 10 (A 0 5) = 19 ∨ A 10 (A 0 5) = 20 ∨ A 10 (A 0 5) = 21 ∨ A 10 (A 0 5) = 22 ∨ A 10 (A 0 5) = 23 ∨ ¬ (A 10 (A 0 5) = 16 ∨ A 10 (A 0 5) = 18 ∨ A 10 (A 0 5) = 19 ∨ A 10 (A 0 5) = 20 ∨ A 10 (A 0 5) = 21 ∨ A 10 (A 0 5) = 22 ∨ A 10 (A 0 5) = 23) := by omega
  rcases hcs with hk | hk | hk | hk | hk | hk | hk | hne
  · rw [hsw.1 hk]
    refine ⟨fun q => absurd q (by decide), fun _ => ?_, fun q => absurd q (by decide), fun q => absurd q (by decide), fun q => absurd q (by decide), fun q => absurd q (by decide), fun q => absurd q (by decide), fun q => absurd q (by decide)⟩
    rw [if_pos hk] at hq
    rw [hk]
    unfold mSend at hq
    refine c_take hB k6 h hn (by omega) (by omega) (PO.b hq (fun s1 _ h1 n1 hq1 => ?_))
    refine c_whoT hB kB k6 h1 n1 (PO.b hq1 (fun s2 _ h2 n2 hq2 => ?_))
    generalize (mWho (mTk 16 A).2).2 = A2 at h2 n2 hq2
    rw [h2.kd]
    refine ⟨kin_l h2.mi.k37, fun q => ?_, fun q => ?_⟩
    · rw [if_neg (fun e => q (by rw [e]))] at hq2
      exact endT _ s2 h2 n2 (hq2.t rfl)
    · rw [if_pos (Option.some.inj q), bd_as] at hq2
      refine c_take hB k6 h2 n2 (by omega) (by omega) (PO.b hq2 (fun s3 _ h3 n3 hq3 => ?_))
      refine c_whoT hB kB k6 h3 n3 (PO.b hq3 (fun s4 _ h4 n4 hq4 => ?_))
      exact endT _ s4 h4 n4 hq4
  · rw [hsw.2.1 hk]
    refine ⟨fun q => absurd q (by decide), fun q => absurd q (by decide), fun _ => simple (Or.inl hk), fun q => absurd q (by decide), fun q => absurd q (by decide), fun q => absurd q (by decide), fun q => absurd q (by decide), fun q => absurd q (by decide)⟩
  · rw [hsw.2.2.1 hk]
    refine ⟨fun q => absurd q (by decide), fun q => absurd q (by decide), fun q => absurd q (by decide), fun _ => simple (Or.inr (Or.inl hk)), fun q => absurd q (by decide), fun q => absurd q (by decide), fun q => absurd q (by decide), fun q => absurd q (by decide)⟩
  · rw [hsw.2.2.2.1 hk]
    refine ⟨fun q => absurd q (by decide), fun q => absurd q (by decide), fun q => absurd q (by decide), fun q => absurd q (by decide), fun _ => simple (Or.inr (Or.inr hk)), fun q => absurd q (by decide), fun q => absurd q (by decide), fun q => absurd q (by decide)⟩
  · rw [hsw.2.2.2.2.1 hk]
    refine ⟨fun q => absurd q (by decide), fun q => absurd q (by decide), fun q => absurd q (by decide), fun q => absurd q (by decide), fun q => absurd q (by decide), fun _ => ?_, fun q => absurd q (by decide), fun q => absurd q (by decide)⟩
    rw [if_neg (by omega), if_neg (by omega), if_pos hk] at hq
    rw [hk]
    unfold mDo at hq
    refine c_take hB k6 h hn (by omega) (by omega) (PO.b hq (fun s1 _ h1 n1 hq1 => ?_))
    refine c_pnT hB kB k6 h1 n1 (PO.b hq1 (fun s2 _ h2 n2 hq2 => ?_))
    exact endT _ s2 h2 n2 hq2
  · rw [hsw.2.2.2.2.2.1 hk]
    refine ⟨fun q => absurd q (by decide), fun q => absurd q (by decide), fun q => absurd q (by decide), fun q => absurd q (by decide), fun q => absurd q (by decide), fun q => absurd q (by decide), fun _ => ?_, fun q => absurd q (by decide)⟩
    rw [if_neg (by omega), if_neg (by omega), if_neg (by omega), if_pos hk] at hq
    rw [hk]
    unfold mWhile at hq
    refine c_take hB k6 h hn (by omega) (by omega) (PO.b hq (fun s1 _ h1 n1 hq1 => ?_))
    refine c_compares hB k6 (h1.g (r := 20) (by omega)) (n1.g (by omega)) (PO.b hq1 (fun s2 _ h2 n2 hq2 => ?_))
    refine ⟨by rw [h2.r1]; exact kB, ?_⟩
    intro c e
    rw [e, h2.r1]
    refine c_bo_2 (r := 8) hB kB k6 ((h2.g (r := 21) (by omega)).g (r := 0) (k := 8) (by omega)) ((n2.g (by omega)).g (by omega)) hx (Or.inl rfl) (PO.b hq2 (fun s3 _ h3 n3 hq3 => ?_))
    exact hq3 s3 ((h3.g (r := 0) (k := 8) (by omega)).g (by omega)) (fun _ => (n3.g (by omega)).g (by omega))
  · rw [hsw.2.2.2.2.2.2 hk]
    refine ⟨fun q => absurd q (by decide), fun q => absurd q (by decide), fun q => absurd q (by decide), fun q => absurd q (by decide), fun q => absurd q (by decide), fun q => absurd q (by decide), fun q => absurd q (by decide), fun _ => ?_⟩
    rw [if_neg (by omega), if_neg (by omega), if_neg (by omega), if_neg (by omega), if_pos hk] at hq
    rw [hk]
    unfold mIf at hq
    refine c_take hB k6 h hn (by omega) (by omega) (PO.b hq (fun s1 _ h1 n1 hq1 => ?_))
    refine c_compares hB k6 (h1.g (r := 20) (by omega)) (n1.g (by omega)) (PO.b hq1 (fun s2 _ h2 n2 hq2 => ?_))
    refine ⟨by rw [h2.r1]; exact kB, ?_⟩
    intro c e
    rw [e, h2.r1]
    refine c_bo_2 (r := 8) hB kB k6 ((h2.g (r := 21) (by omega)).g (r := 0) (k := 8) (by omega)) ((n2.g (by omega)).g (by omega)) hx (Or.inl rfl) (PO.b hq2 (fun s3 _ h3 n3 hq3 => ?_))
    obtain ⟨A3, e3⟩ : ∃ A3, A3 = gIe x (mBO (mBlk 0) 8 x (gInc 8 (gN x (mCmp 400 (gCs x (mTk 23 A).2)).2))).2 := ⟨_, rfl⟩
    have h3 : CP s0 B A3 s3 := by rw [e3]; exact h3.g (r := 24) (by omega)
    have n3 : NF A3 := by rw [e3]; exact n3.g (r := 24) (by omega)
    have hq3 : PO s0 B Q (mElse (mBlk 0) x A3) := by rw [e3]; exact hq3
    clear e3
    unfold mElse at hq3
    rw [h3.kd]
    refine ⟨kin_l h3.mi.k37, fun q => ?_, fun q => ?_⟩
    · rw [if_neg (fun e => q (by rw [e]))] at hq3
      unfold wX4_readAct_2_L280
      exact hq3 s3 ((h3.g (r := 22) (by omega)).g (by omega)) (fun _ => (n3.g (by omega)).g (by omega))
    · rw [if_pos (Option.some.inj q)] at hq3
      refine c_take hB k6 ((h3.g (r := 0) (k := 8) (by omega)).g (r := 22) (by omega)) ((n3.g (by omega)).g (by omega)) (by omega) (by omega) (PO.b hq3 (fun s4 _ h4 n4 hq4 => ?_))
      refine ⟨by rw [h4.r1]; exact kB, ?_⟩
      intro c e
      rw [e, h4.r1]
      refine c_bo_2 (r := 9) hB kB k6 h4 n4 hx (Or.inr rfl) (PO.b hq4 (fun s5 _ h5 n5 hq5 => ?_))
      unfold wX4_readAct_2_L280
      exact hq5 s5 (h5.g (by omega)) (fun _ => n5.g (by omega))
  · have hno := sw_no _ k37 hne
    refine ⟨fun _ => ?_, fun q => absurd q hno.1, fun q => absurd q hno.2.1, fun q => absurd q hno.2.2.1, fun q => absurd q hno.2.2.2.1, fun q => absurd q hno.2.2.2.2.1, fun q => absurd q hno.2.2.2.2.2.1, fun q => absurd q hno.2.2.2.2.2.2⟩
    rw [if_neg (by omega), if_neg (by omega), if_neg (by omega), if_neg (by omega), if_neg (by omega)] at hq
    exact hq st h (fun z => by cases z)
theorem c_blk_2 {o : Nat} (hB : 20 ≤ B) (kB : kd B = 1) (k6 : kd (B + 12) = 6) (h : CP s0 B A st) (hn : NF A) (ho : o ≤ 60) (hq : PO s0 B Q (mBlk 1 o A)) : wX4_readBlock_2 3 (oN o) (nI 3) st Q := by
  unfold wX4_readBlock_2
  unfold mBlk at hq
  refine ⟨fun q => absurd ((nI_ltI (a := 3) (b := 3) (by omega) (by omega)).mp q) (by omega), fun _ => ?_⟩
  have key : ∀ (f v last : Nat) (A : Bk) (st : St), f + v = 400 → last ≤ A 0 3 → CP s0 B A st → NF A → PO s0 B Q (mLoop (mAct (mBlk 0)) o f last A) → lp (fun R s => wX4_readBlock_2_L22 3 (oN o) (nI 3) R s.1 s.2.1 s.2.2.1 s.2.2.2.1 s.2.2.2.2 Q) (f + 1) (oN o, nI 3, oN last, nI v, st) := by
    intro f
    induction f with
    | zero =>
      intro v last A st hv hla h hn hq
      have e : v = 400 := by omega
      subst e
      show wX4_readBlock_2_L22 3 (oN o) (nI 3) _ (oN o) (nI 3) (oN last) (nI 400) st Q
      unfold wX4_readBlock_2_L22 wX4_readBlock_2_L108
      exact ⟨fun _ => c_take hB k6 h hn (by omega) (by omega) hq, fun q => absurd (nI_le (Nat.le_refl 400) (by omega)) q⟩
    | succ f ih =>
      intro v last A st hv hla h hn hq
      have ih := ih (v + 1)
      show wX4_readBlock_2_L22 3 (oN o) (nI 3) (lp (fun R s => wX4_readBlock_2_L22 3 (oN o) (nI 3) R s.1 s.2.1 s.2.2.1 s.2.2.2.1 s.2.2.2.2 Q) (f + 1)) (oN o) (nI 3) (oN last) (nI v) st Q
      generalize lp (fun R s => wX4_readBlock_2_L22 3 (oN o) (nI 3) R s.1 s.2.1 s.2.2.1 s.2.2.2.1 s.2.2.2.2 Q) (f + 1) = RR at ih ⊢
      unfold wX4_readBlock_2_L22 wX4_readBlock_2_L108
      unfold mLoop at hq
      rw [h.kd]
      have h60 := h.mi.2.2.2.1
      refine ⟨fun q => absurd ((nI_leI (a := 400) (by omega) (by omega)).mp q) (by omega), fun _ => ⟨kin_l h.mi.k37, fun q => ?_, fun q => ?_⟩⟩
      · rw [if_pos (Option.some.inj q)] at hq
        exact c_take hB k6 h hn (by omega) (by omega) hq
      · rw [if_neg (fun e => q (by rw [e]))] at hq
        refine ⟨by rw [h.r1]; exact kB, ?_⟩
        intro c4 e4
        rw [e4, h.r1]
        have xl : mAddX A ≤ mAddA o A 0 3 := by
          rw [addA_3]; unfold mAddX
          split <;> omega
        have x60 : mAddX A ≤ 60 := by unfold mAddX; split <;> omega
        have L65 : ∀ s1, CP s0 B (mAddA o A) s1 → wX4_readBlock_2_L65 3 (oN o) (nI 3) RR (oN o) (nI 3) (oN last) (nI v) (oN (mAddX A)) s1 Q := by
          intro s1 h1
          have n1 : NF (mAddA o A) := hn.addA
          unfold wX4_readBlock_2_L65
          have hl1 : last ≤ mAddA o A 0 3 := by rw [addA_3]; split <;> omega
          have h601 := h1.mi.2.2.2.1
          have L87 : ∀ s2, CP s0 B (mLink last (mAddX A) (mAddA o A)) s2 → wX4_readBlock_2_L87 3 (oN o) (nI 3) RR (oN o) (nI 3) (nI v) (oN (mAddX A)) s2 Q := by
            intro s2 h2
            have n2 : NF (mLink last (mAddX A) (mAddA o A)) := n1.link
            unfold wX4_readBlock_2_L87
            refine c_act_2 hB kB k6 h2 n2 x60 (PO.b2 hq (fun s3 _ h3 n3 hq3 => ?_))
            rintro _ rfl
            rw [nI_1]
            refine ih _ _ s3 (by omega) (Nat.le_trans xl ?_) h3 n3 hq3
            have := mo_act (blk := mBlk 0) (fun o => mo_blk) (x := mAddX A) (mLink last (mAddX A) (mAddA o A))
            rw [link_s (by omega)] at this
            exact this
          refine ⟨by rw [h1.r1]; exact kB, ?_⟩
          intro c10 e10
          rw [e10, h1.r1]
          refine cp_has h1 hl1 ⟨fun q2 => ?_, fun q2 => ?_⟩
          · have e : last = 0 := Decidable.not_not.mp (of_decide_eq_false (bI0.mp q2))
            refine L87 s1 ?_
            unfold mLink
            rw [if_pos e]; exact h1
          · have e : last ≠ 0 := fun e => q2 (by rw [decide_eq_false (fun z => z e)]; rfl)
            refine ⟨by rw [h1.r1]; exact kB, ?_⟩
            intro c13 e13
            rw [e13, h1.r1, oN_pos e, nI_clamp (by omega)]
            refine ⟨(vin_iff (by omega)).mpr (by omega), ?_⟩
            intro s14 e14
            refine L87 s14 ?_
            unfold mLink
            rw [if_neg e, e14]
            exact h1.u (r := 7) (k := last - 1) (v := mAddX A) hB (Or.inr (Or.inl (by omega))) rfl rfl rfl (h1.mi.s (by omega)) (fun z => by omega)
        by_cases hlt : A 0 3 < 60
        · refine c_addA hB h hlt (fun s1 h1 => ⟨fun _ => ?_, fun q2 => ((ne_m1 (by omega)).mp q2).elim⟩)
          have := L65 s1 h1
          rw [show oN (mAddX A) = nI (A 0 3) from by unfold mAddX; rw [if_pos hlt]; rfl] at this
          exact this
        · unfold wX1_addAct
          rw [h.an]
          refine ⟨fun q2 => absurd ((nI_ltI (b := 60) (by omega) (by omega)).mp q2) hlt, fun _ => ⟨fun q2 => absurd rfl q2, fun _ => c_mark (e := 4) hB h (by omega) (fun s1 h1 => ?_)⟩⟩
          have h1 : CP s0 B (mAddA o A) s1 := by unfold mAddA; rw [if_neg hlt]; exact h1
          have := L65 s1 h1
          rw [show oN (mAddX A) = -1 from by unfold mAddX; rw [if_neg hlt]; rfl] at this
          exact this
  exact c_take hB k6 h hn (by omega) (by omega) (PO.b2 hq (fun s1 _ h1 n1 hq1 => ⟨401, key 400 0 0 _ s1 (by omega) (Nat.zero_le _) h1 n1 hq1⟩))
theorem c_bo_3 {x r : Nat} (hB : 20 ≤ B) (kB : kd B = 1) (k6 : kd (B + 12) = 6) (h : CP s0 B A st) (hn : NF A) (hx : x ≤ 60) (hr : r = 8 ∨ r = 9) (hq : PO s0 B Q (mBO (mBlk 1) r x A)) : wX4_readBlockOf_3 3 (oN x) (nI 2) (B + r + 2) st Q := by
  unfold wX4_readBlockOf_3
  refine ⟨by rw [h.r1]; exact kB, ?_⟩
  intro c1 e1
  rw [e1, h.r1, h.an]
  rintro _ rfl
  rw [show nI 2 + 1 = nI 3 from rfl]
  unfold mBO at hq
  refine c_blk_2 hB kB k6 h hn hx (fun s1 h1 n1 => ?_)
  have hm1 := h1.mi
  have hm := h.mi
  have h60 := hm.2.2.2.1
  have h601 := hm1.2.2.2.1
  generalize mBlk 1 x A = R at h1 n1 hq hm1 h601
  cases x with
  | zero =>
    refine ⟨fun _ => ?_, fun q => absurd (show oN 0 < 0 from by decide) q⟩
    exact hq s1 h1 n1
  | succ k =>
    refine ⟨fun q => absurd q (nI_pos (n := k) (by omega)), fun _ => ⟨fun q => absurd ((nI_leI (a := 60) (b := k) (by omega) (by omega)).mp q) (by omega), fun _ => ⟨by rw [h1.r1]; exact kB, ?_⟩⟩⟩
    intro c5 e5
    rw [e5, h1.r1]
    unfold wX1_firstSince
    rw [h1.an]
    have hq : PO s0 B Q (R.1, u2 R.2 r k (if A 0 3 < R.2 0 3 then A 0 3 + 1 else 0)) := hq
    have fin : ∀ v, v = (if A 0 3 < R.2 0 3 then A 0 3 + 1 else 0) → vp_in (oN (k + 1)) 60 ∧ ∀ st8, st8 = uI s1 (B + r + 2) (oN (k + 1) : Int32).toNatClampNeg (oN v) → Q (bI R.1) st8 := by
      rintro v hv
      refine ⟨(vin_iff (k := k) (by omega)).mpr (by omega), ?_⟩
      intro s8 e8
      rw [show (oN (k + 1) : Int32).toNatClampNeg = k from nI_clamp (n := k) (by omega)] at e8
      refine hq s8 ?_ (fun z => (n1 z).g (by omega))
      rw [e8, ← hv]
      exact h1.u (r := r) (k := k) (v := v) hB (Or.inr (Or.inl (by omega))) (by unfold lc; rw [if_neg (by omega), if_neg (by omega), if_neg (by omega), if_neg (by omega)]) (by unfold lj; rw [if_neg (by omega)]) (by unfold cv; rw [if_pos (by omega)]) (hm1.s (by omega)) (fun z => by omega)
    refine ⟨fun q => ?_, fun q => ?_⟩
    · have := (nI_leI (by omega) (by omega)).mp q
      exact fin 0 (by rw [if_neg (by omega)])
    · have : A 0 3 < R.2 0 3 := Nat.lt_of_not_le (fun z => q (nI_le z (by omega)))
      exact fin (A 0 3 + 1) (by rw [if_pos this])
theorem c_act_3 {x : Nat} (hB : 20 ≤ B) (kB : kd B = 1) (k6 : kd (B + 12) = 6) (h : CP s0 B A st) (hn : NF A) (hx : x ≤ 60) (hq : PO s0 B Q (mAct (mBlk 1) x A)) : wX4_readAct_3 3 (oN x) (nI 2) st Q := by
  unfold wX4_readAct_3
  have k37 := h.mi.k37
  have endT : ∀ A' s1, CP s0 B A' s1 → NF A' → PO s0 B Q (mEnd x A') → wX4_readAct_3_L98 3 (oN x) (nI 2) s1 Q := by
    intro A' s1 h1 n1 hq1
    unfold wX4_readAct_3_L98
    unfold mEnd at hq1
    have h2 : CP s0 B (gPe x (gInc 8 A')) s1 := (h1.g (Or.inl ⟨rfl, by omega⟩)).g (by omega)
    have n2 : NF (gPe x (gInc 8 A')) := (n1.g (Or.inl ⟨rfl, by omega, by omega⟩)).g (by omega)
    exact c_take hB k6 h2 n2 (by omega) (by omega) hq1.e
  intro x1 ex1
  rw [h.kd] at ex1
  refine ⟨A 10 (A 0 5), ex1, k37, (vin_iff (by omega)).mpr k37, ?_⟩
  rw [show (Int32.ofNat (A 10 (A 0 5)) : Int32).toNatClampNeg = A 10 (A 0 5) from nI_clamp (by omega), ex1]
  unfold mAct at hq
  have hsw := sw_act _ k37
  have simple : (A 10 (A 0 5) = 18 ∨ A 10 (A 0 5) = 19 ∨ A 10 (A 0 5) = 20) → wX4_readAct_3_L114 3 (oN x) (nI 2) (some (A 10 (A 0 5))) st Q := by
    intro hk
    rw [if_neg (by omega), if_pos hk] at hq
    unfold wX4_readAct_3_L114
    unfold mSim at hq
    refine c_take hB k6 h hn (by omega) k37 (PO.b hq (fun s1 _ h1 n1 hq1 => ?_))
    refine c_valT hB k6 h1 n1 (PO.b hq1 (fun s2 _ h2 n2 hq2 => ?_))
    exact endT _ s2 h2 n2 hq2
  have hcs : A 10 (A 0 5) = 16 ∨ A 10 (A 0 5) = 18 ∨ A 10 (A 0 5) = 19 ∨ A 10 (A 0 5) = 20 ∨ A 10 (A 0 5) = 21 ∨ A 10 (A 0 5) = 22 ∨ A 10 (A 0 5) = 23 ∨ ¬ (A 10 (A 0 5) = 16 ∨ A 10 (A 0 5) = 18 ∨ A 10 (A 0 5) = 19 ∨ A 10 (A 0 5) = 20 ∨ A 10 (A 0 5) = 21 ∨ A 10 (A 0 5) = 22 ∨ A 10 (A 0 5) = 23) := by omega
  rcases hcs with hk | hk | hk | hk | hk | hk | hk | hne
  · rw [hsw.1 hk]
    refine ⟨fun q => absurd q (by decide), fun _ => ?_, fun q => absurd q (by decide), fun q => absurd q (by decide), fun q => absurd q (by decide), fun q => absurd q (by decide), fun q => absurd q (by decide), fun q => absurd q (by decide)⟩
    rw [if_pos hk] at hq
    rw [hk]
    unfold mSend at hq
    refine c_take hB k6 h hn (by omega) (by omega) (PO.b hq (fun s1 _ h1 n1 hq1 => ?_))
    refine c_whoT hB kB k6 h1 n1 (PO.b hq1 (fun s2 _ h2 n2 hq2 => ?_))
    generalize (mWho (mTk 16 A).2).2 = A2 at h2 n2 hq2
    rw [h2.kd]
    refine ⟨kin_l h2.mi.k37, fun q => ?_, fun q => ?_⟩
    · rw [if_neg (fun e => q (by rw [e]))] at hq2
      exact endT _ s2 h2 n2 (hq2.t rfl)
    · rw [if_pos (Option.some.inj q), bd_as] at hq2
      refine c_take hB k6 h2 n2 (by omega) (by omega) (PO.b hq2 (fun s3 _ h3 n3 hq3 => ?_))
      refine c_whoT hB kB k6 h3 n3 (PO.b hq3 (fun s4 _ h4 n4 hq4 => ?_))
      exact endT _ s4 h4 n4 hq4
  · rw [hsw.2.1 hk]
    refine ⟨fun q => absurd q (by decide), fun q => absurd q (by decide), fun _ => simple (Or.inl hk), fun q => absurd q (by decide), fun q => absurd q (by decide), fun q => absurd q (by decide), fun q => absurd q (by decide), fun q => absurd q (by decide)⟩
  · rw [hsw.2.2.1 hk]
    refine ⟨fun q => absurd q (by decide), fun q => absurd q (by decide), fun q => absurd q (by decide), fun _ => simple (Or.inr (Or.inl hk)), fun q => absurd q (by decide), fun q => absurd q (by decide), fun q => absurd q (by decide), fun q => absurd q (by decide)⟩
  · rw [hsw.2.2.2.1 hk]
    refine ⟨fun q => absurd q (by decide), fun q => absurd q (by decide), fun q => absurd q (by decide), fun q => absurd q (by decide), fun _ => simple (Or.inr (Or.inr hk)), fun q => absurd q (by decide), fun q => absurd q (by decide), fun q => absurd q (by decide)⟩
  · rw [hsw.2.2.2.2.1 hk]
    refine ⟨fun q => absurd q (by decide), fun q => absurd q (by decide), fun q => absurd q (by decide), fun q => absurd q (by decide), fun q => absurd q (by decide), fun _ => ?_, fun q => absurd q (by decide), fun q => absurd q (by decide)⟩
    rw [if_neg (by omega), if_neg (by omega), if_pos hk] at hq
    rw [hk]
    unfold mDo at hq
    refine c_take hB k6 h hn (by omega) (by omega) (PO.b hq (fun s1 _ h1 n1 hq1 => ?_))
    refine c_pnT hB kB k6 h1 n1 (PO.b hq1 (fun s2 _ h2 n2 hq2 => ?_))
    exact endT _ s2 h2 n2 hq2
  · rw [hsw.2.2.2.2.2.1 hk]
    refine ⟨fun q => absurd q (by decide), fun q => absurd q (by decide), fun q => absurd q (by decide), fun q => absurd q (by decide), fun q => absurd q (by decide), fun q => absurd q (by decide), fun _ => ?_, fun q => absurd q (by decide)⟩
    rw [if_neg (by omega), if_neg (by omega), if_neg (by omega), if_pos hk] at hq
    rw [hk]
    unfold mWhile at hq
    refine c_take hB k6 h hn (by omega) (by omega) (PO.b hq (fun s1 _ h1 n1 hq1 => ?_))
    refine c_compares hB k6 (h1.g (r := 20) (by omega)) (n1.g (by omega)) (PO.b hq1 (fun s2 _ h2 n2 hq2 => ?_))
    refine ⟨by rw [h2.r1]; exact kB, ?_⟩
    intro c e
    rw [e, h2.r1]
    refine c_bo_3 (r := 8) hB kB k6 ((h2.g (r := 21) (by omega)).g (r := 0) (k := 8) (by omega)) ((n2.g (by omega)).g (by omega)) hx (Or.inl rfl) (PO.b hq2 (fun s3 _ h3 n3 hq3 => ?_))
    exact hq3 s3 ((h3.g (r := 0) (k := 8) (by omega)).g (by omega)) (fun _ => (n3.g (by omega)).g (by omega))
  · rw [hsw.2.2.2.2.2.2 hk]
    refine ⟨fun q => absurd q (by decide), fun q => absurd q (by decide), fun q => absurd q (by decide), fun q => absurd q (by decide), fun q => absurd q (by decide), fun q => absurd q (by decide), fun q => absurd q (by decide), fun _ => ?_⟩
    rw [if_neg (by omega), if_neg (by omega), if_neg (by omega), if_neg (by omega), if_pos hk] at hq
    rw [hk]
    unfold mIf at hq
    refine c_take hB k6 h hn (by omega) (by omega) (PO.b hq (fun s1 _ h1 n1 hq1 => ?_))
    refine c_compares hB k6 (h1.g (r := 20) (by omega)) (n1.g (by omega)) (PO.b hq1 (fun s2 _ h2 n2 hq2 => ?_))
    refine ⟨by rw [h2.r1]; exact kB, ?_⟩
    intro c e
    rw [e, h2.r1]
    refine c_bo_3 (r := 8) hB kB k6 ((h2.g (r := 21) (by omega)).g (r := 0) (k := 8) (by omega)) ((n2.g (by omega)).g (by omega)) hx (Or.inl rfl) (PO.b hq2 (fun s3 _ h3 n3 hq3 => ?_))
    obtain ⟨A3, e3⟩ : ∃ A3, A3 = gIe x (mBO (mBlk 1) 8 x (gInc 8 (gN x (mCmp 400 (gCs x (mTk 23 A).2)).2))).2 := ⟨_, rfl⟩
    have h3 : CP s0 B A3 s3 := by rw [e3]; exact h3.g (r := 24) (by omega)
    have n3 : NF A3 := by rw [e3]; exact n3.g (r := 24) (by omega)
    have hq3 : PO s0 B Q (mElse (mBlk 1) x A3) := by rw [e3]; exact hq3
    clear e3
    unfold mElse at hq3
    rw [h3.kd]
    refine ⟨kin_l h3.mi.k37, fun q => ?_, fun q => ?_⟩
    · rw [if_neg (fun e => q (by rw [e]))] at hq3
      unfold wX4_readAct_3_L280
      exact hq3 s3 ((h3.g (r := 22) (by omega)).g (by omega)) (fun _ => (n3.g (by omega)).g (by omega))
    · rw [if_pos (Option.some.inj q)] at hq3
      refine c_take hB k6 ((h3.g (r := 0) (k := 8) (by omega)).g (r := 22) (by omega)) ((n3.g (by omega)).g (by omega)) (by omega) (by omega) (PO.b hq3 (fun s4 _ h4 n4 hq4 => ?_))
      refine ⟨by rw [h4.r1]; exact kB, ?_⟩
      intro c e
      rw [e, h4.r1]
      refine c_bo_3 (r := 9) hB kB k6 h4 n4 hx (Or.inr rfl) (PO.b hq4 (fun s5 _ h5 n5 hq5 => ?_))
      unfold wX4_readAct_3_L280
      exact hq5 s5 (h5.g (by omega)) (fun _ => n5.g (by omega))
  · have hno := sw_no _ k37 hne
    refine ⟨fun _ => ?_, fun q => absurd q hno.1, fun q => absurd q hno.2.1, fun q => absurd q hno.2.2.1, fun q => absurd q hno.2.2.2.1, fun q => absurd q hno.2.2.2.2.1, fun q => absurd q hno.2.2.2.2.2.1, fun q => absurd q hno.2.2.2.2.2.2⟩
    rw [if_neg (by omega), if_neg (by omega), if_neg (by omega), if_neg (by omega), if_neg (by omega)] at hq
    exact hq st h (fun z => by cases z)
theorem c_blk_3 {o : Nat} (hB : 20 ≤ B) (kB : kd B = 1) (k6 : kd (B + 12) = 6) (h : CP s0 B A st) (hn : NF A) (ho : o ≤ 60) (hq : PO s0 B Q (mBlk 2 o A)) : wX4_readBlock_3 3 (oN o) (nI 2) st Q := by
  unfold wX4_readBlock_3
  unfold mBlk at hq
  refine ⟨fun q => absurd ((nI_ltI (a := 3) (b := 2) (by omega) (by omega)).mp q) (by omega), fun _ => ?_⟩
  have key : ∀ (f v last : Nat) (A : Bk) (st : St), f + v = 400 → last ≤ A 0 3 → CP s0 B A st → NF A → PO s0 B Q (mLoop (mAct (mBlk 1)) o f last A) → lp (fun R s => wX4_readBlock_3_L22 3 (oN o) (nI 2) R s.1 s.2.1 s.2.2.1 s.2.2.2.1 s.2.2.2.2 Q) (f + 1) (oN o, nI 2, oN last, nI v, st) := by
    intro f
    induction f with
    | zero =>
      intro v last A st hv hla h hn hq
      have e : v = 400 := by omega
      subst e
      show wX4_readBlock_3_L22 3 (oN o) (nI 2) _ (oN o) (nI 2) (oN last) (nI 400) st Q
      unfold wX4_readBlock_3_L22 wX4_readBlock_3_L108
      exact ⟨fun _ => c_take hB k6 h hn (by omega) (by omega) hq, fun q => absurd (nI_le (Nat.le_refl 400) (by omega)) q⟩
    | succ f ih =>
      intro v last A st hv hla h hn hq
      have ih := ih (v + 1)
      show wX4_readBlock_3_L22 3 (oN o) (nI 2) (lp (fun R s => wX4_readBlock_3_L22 3 (oN o) (nI 2) R s.1 s.2.1 s.2.2.1 s.2.2.2.1 s.2.2.2.2 Q) (f + 1)) (oN o) (nI 2) (oN last) (nI v) st Q
      generalize lp (fun R s => wX4_readBlock_3_L22 3 (oN o) (nI 2) R s.1 s.2.1 s.2.2.1 s.2.2.2.1 s.2.2.2.2 Q) (f + 1) = RR at ih ⊢
      unfold wX4_readBlock_3_L22 wX4_readBlock_3_L108
      unfold mLoop at hq
      rw [h.kd]
      have h60 := h.mi.2.2.2.1
      refine ⟨fun q => absurd ((nI_leI (a := 400) (by omega) (by omega)).mp q) (by omega), fun _ => ⟨kin_l h.mi.k37, fun q => ?_, fun q => ?_⟩⟩
      · rw [if_pos (Option.some.inj q)] at hq
        exact c_take hB k6 h hn (by omega) (by omega) hq
      · rw [if_neg (fun e => q (by rw [e]))] at hq
        refine ⟨by rw [h.r1]; exact kB, ?_⟩
        intro c4 e4
        rw [e4, h.r1]
        have xl : mAddX A ≤ mAddA o A 0 3 := by
          rw [addA_3]; unfold mAddX
          split <;> omega
        have x60 : mAddX A ≤ 60 := by unfold mAddX; split <;> omega
        have L65 : ∀ s1, CP s0 B (mAddA o A) s1 → wX4_readBlock_3_L65 3 (oN o) (nI 2) RR (oN o) (nI 2) (oN last) (nI v) (oN (mAddX A)) s1 Q := by
          intro s1 h1
          have n1 : NF (mAddA o A) := hn.addA
          unfold wX4_readBlock_3_L65
          have hl1 : last ≤ mAddA o A 0 3 := by rw [addA_3]; split <;> omega
          have h601 := h1.mi.2.2.2.1
          have L87 : ∀ s2, CP s0 B (mLink last (mAddX A) (mAddA o A)) s2 → wX4_readBlock_3_L87 3 (oN o) (nI 2) RR (oN o) (nI 2) (nI v) (oN (mAddX A)) s2 Q := by
            intro s2 h2
            have n2 : NF (mLink last (mAddX A) (mAddA o A)) := n1.link
            unfold wX4_readBlock_3_L87
            refine c_act_3 hB kB k6 h2 n2 x60 (PO.b2 hq (fun s3 _ h3 n3 hq3 => ?_))
            rintro _ rfl
            rw [nI_1]
            refine ih _ _ s3 (by omega) (Nat.le_trans xl ?_) h3 n3 hq3
            have := mo_act (blk := mBlk 1) (fun o => mo_blk) (x := mAddX A) (mLink last (mAddX A) (mAddA o A))
            rw [link_s (by omega)] at this
            exact this
          refine ⟨by rw [h1.r1]; exact kB, ?_⟩
          intro c10 e10
          rw [e10, h1.r1]
          refine cp_has h1 hl1 ⟨fun q2 => ?_, fun q2 => ?_⟩
          · have e : last = 0 := Decidable.not_not.mp (of_decide_eq_false (bI0.mp q2))
            refine L87 s1 ?_
            unfold mLink
            rw [if_pos e]; exact h1
          · have e : last ≠ 0 := fun e => q2 (by rw [decide_eq_false (fun z => z e)]; rfl)
            refine ⟨by rw [h1.r1]; exact kB, ?_⟩
            intro c13 e13
            rw [e13, h1.r1, oN_pos e, nI_clamp (by omega)]
            refine ⟨(vin_iff (by omega)).mpr (by omega), ?_⟩
            intro s14 e14
            refine L87 s14 ?_
            unfold mLink
            rw [if_neg e, e14]
            exact h1.u (r := 7) (k := last - 1) (v := mAddX A) hB (Or.inr (Or.inl (by omega))) rfl rfl rfl (h1.mi.s (by omega)) (fun z => by omega)
        by_cases hlt : A 0 3 < 60
        · refine c_addA hB h hlt (fun s1 h1 => ⟨fun _ => ?_, fun q2 => ((ne_m1 (by omega)).mp q2).elim⟩)
          have := L65 s1 h1
          rw [show oN (mAddX A) = nI (A 0 3) from by unfold mAddX; rw [if_pos hlt]; rfl] at this
          exact this
        · unfold wX1_addAct
          rw [h.an]
          refine ⟨fun q2 => absurd ((nI_ltI (b := 60) (by omega) (by omega)).mp q2) hlt, fun _ => ⟨fun q2 => absurd rfl q2, fun _ => c_mark (e := 4) hB h (by omega) (fun s1 h1 => ?_)⟩⟩
          have h1 : CP s0 B (mAddA o A) s1 := by unfold mAddA; rw [if_neg hlt]; exact h1
          have := L65 s1 h1
          rw [show oN (mAddX A) = -1 from by unfold mAddX; rw [if_neg hlt]; rfl] at this
          exact this
  exact c_take hB k6 h hn (by omega) (by omega) (PO.b2 hq (fun s1 _ h1 n1 hq1 => ⟨401, key 400 0 0 _ s1 (by omega) (Nat.zero_le _) h1 n1 hq1⟩))
theorem c_bo_4 {x r : Nat} (hB : 20 ≤ B) (kB : kd B = 1) (k6 : kd (B + 12) = 6) (h : CP s0 B A st) (hn : NF A) (hx : x ≤ 60) (hr : r = 8 ∨ r = 9) (hq : PO s0 B Q (mBO (mBlk 2) r x A)) : wX4_readBlockOf_4 3 (oN x) (nI 1) (B + r + 2) st Q := by
  unfold wX4_readBlockOf_4
  refine ⟨by rw [h.r1]; exact kB, ?_⟩
  intro c1 e1
  rw [e1, h.r1, h.an]
  rintro _ rfl
  rw [show nI 1 + 1 = nI 2 from rfl]
  unfold mBO at hq
  refine c_blk_3 hB kB k6 h hn hx (fun s1 h1 n1 => ?_)
  have hm1 := h1.mi
  have hm := h.mi
  have h60 := hm.2.2.2.1
  have h601 := hm1.2.2.2.1
  generalize mBlk 2 x A = R at h1 n1 hq hm1 h601
  cases x with
  | zero =>
    refine ⟨fun _ => ?_, fun q => absurd (show oN 0 < 0 from by decide) q⟩
    exact hq s1 h1 n1
  | succ k =>
    refine ⟨fun q => absurd q (nI_pos (n := k) (by omega)), fun _ => ⟨fun q => absurd ((nI_leI (a := 60) (b := k) (by omega) (by omega)).mp q) (by omega), fun _ => ⟨by rw [h1.r1]; exact kB, ?_⟩⟩⟩
    intro c5 e5
    rw [e5, h1.r1]
    unfold wX1_firstSince
    rw [h1.an]
    have hq : PO s0 B Q (R.1, u2 R.2 r k (if A 0 3 < R.2 0 3 then A 0 3 + 1 else 0)) := hq
    have fin : ∀ v, v = (if A 0 3 < R.2 0 3 then A 0 3 + 1 else 0) → vp_in (oN (k + 1)) 60 ∧ ∀ st8, st8 = uI s1 (B + r + 2) (oN (k + 1) : Int32).toNatClampNeg (oN v) → Q (bI R.1) st8 := by
      rintro v hv
      refine ⟨(vin_iff (k := k) (by omega)).mpr (by omega), ?_⟩
      intro s8 e8
      rw [show (oN (k + 1) : Int32).toNatClampNeg = k from nI_clamp (n := k) (by omega)] at e8
      refine hq s8 ?_ (fun z => (n1 z).g (by omega))
      rw [e8, ← hv]
      exact h1.u (r := r) (k := k) (v := v) hB (Or.inr (Or.inl (by omega))) (by unfold lc; rw [if_neg (by omega), if_neg (by omega), if_neg (by omega), if_neg (by omega)]) (by unfold lj; rw [if_neg (by omega)]) (by unfold cv; rw [if_pos (by omega)]) (hm1.s (by omega)) (fun z => by omega)
    refine ⟨fun q => ?_, fun q => ?_⟩
    · have := (nI_leI (by omega) (by omega)).mp q
      exact fin 0 (by rw [if_neg (by omega)])
    · have : A 0 3 < R.2 0 3 := Nat.lt_of_not_le (fun z => q (nI_le z (by omega)))
      exact fin (A 0 3 + 1) (by rw [if_pos this])
theorem c_act_4 {x : Nat} (hB : 20 ≤ B) (kB : kd B = 1) (k6 : kd (B + 12) = 6) (h : CP s0 B A st) (hn : NF A) (hx : x ≤ 60) (hq : PO s0 B Q (mAct (mBlk 2) x A)) : wX4_readAct_4 3 (oN x) (nI 1) st Q := by
  unfold wX4_readAct_4
  have k37 := h.mi.k37
  have endT : ∀ A' s1, CP s0 B A' s1 → NF A' → PO s0 B Q (mEnd x A') → wX4_readAct_4_L98 3 (oN x) (nI 1) s1 Q := by
    intro A' s1 h1 n1 hq1
    unfold wX4_readAct_4_L98
    unfold mEnd at hq1
    have h2 : CP s0 B (gPe x (gInc 8 A')) s1 := (h1.g (Or.inl ⟨rfl, by omega⟩)).g (by omega)
    have n2 : NF (gPe x (gInc 8 A')) := (n1.g (Or.inl ⟨rfl, by omega, by omega⟩)).g (by omega)
    exact c_take hB k6 h2 n2 (by omega) (by omega) hq1.e
  intro x1 ex1
  rw [h.kd] at ex1
  refine ⟨A 10 (A 0 5), ex1, k37, (vin_iff (by omega)).mpr k37, ?_⟩
  rw [show (Int32.ofNat (A 10 (A 0 5)) : Int32).toNatClampNeg = A 10 (A 0 5) from nI_clamp (by omega), ex1]
  unfold mAct at hq
  have hsw := sw_act _ k37
  have simple : (A 10 (A 0 5) = 18 ∨ A 10 (A 0 5) = 19 ∨ A 10 (A 0 5) = 20) → wX4_readAct_4_L114 3 (oN x) (nI 1) (some (A 10 (A 0 5))) st Q := by
    intro hk
    rw [if_neg (by omega), if_pos hk] at hq
    unfold wX4_readAct_4_L114
    unfold mSim at hq
    refine c_take hB k6 h hn (by omega) k37 (PO.b hq (fun s1 _ h1 n1 hq1 => ?_))
    refine c_valT hB k6 h1 n1 (PO.b hq1 (fun s2 _ h2 n2 hq2 => ?_))
    exact endT _ s2 h2 n2 hq2
  have hcs : A 10 (A 0 5) = 16 ∨ A 10 (A 0 5) = 18 ∨ A 10 (A 0 5) = 19 ∨ A 10 (A 0 5) = 20 ∨ A 10 (A 0 5) = 21 ∨ A 10 (A 0 5) = 22 ∨ A 10 (A 0 5) = 23 ∨ ¬ (A 10 (A 0 5) = 16 ∨ A 10 (A 0 5) = 18 ∨ A 10 (A 0 5) = 19 ∨ A 10 (A 0 5) = 20 ∨ A 10 (A 0 5) = 21 ∨ A 10 (A 0 5) = 22 ∨ A 10 (A 0 5) = 23) := by omega
  rcases hcs with hk | hk | hk | hk | hk | hk | hk | hne
  · rw [hsw.1 hk]
    refine ⟨fun q => absurd q (by decide), fun _ => ?_, fun q => absurd q (by decide), fun q => absurd q (by decide), fun q => absurd q (by decide), fun q => absurd q (by decide), fun q => absurd q (by decide), fun q => absurd q (by decide)⟩
    rw [if_pos hk] at hq
    rw [hk]
    unfold mSend at hq
    refine c_take hB k6 h hn (by omega) (by omega) (PO.b hq (fun s1 _ h1 n1 hq1 => ?_))
    refine c_whoT hB kB k6 h1 n1 (PO.b hq1 (fun s2 _ h2 n2 hq2 => ?_))
    generalize (mWho (mTk 16 A).2).2 = A2 at h2 n2 hq2
    rw [h2.kd]
    refine ⟨kin_l h2.mi.k37, fun q => ?_, fun q => ?_⟩
    · rw [if_neg (fun e => q (by rw [e]))] at hq2
      exact endT _ s2 h2 n2 (hq2.t rfl)
    · rw [if_pos (Option.some.inj q), bd_as] at hq2
      refine c_take hB k6 h2 n2 (by omega) (by omega) (PO.b hq2 (fun s3 _ h3 n3 hq3 => ?_))
      refine c_whoT hB kB k6 h3 n3 (PO.b hq3 (fun s4 _ h4 n4 hq4 => ?_))
      exact endT _ s4 h4 n4 hq4
  · rw [hsw.2.1 hk]
    refine ⟨fun q => absurd q (by decide), fun q => absurd q (by decide), fun _ => simple (Or.inl hk), fun q => absurd q (by decide), fun q => absurd q (by decide), fun q => absurd q (by decide), fun q => absurd q (by decide), fun q => absurd q (by decide)⟩
  · rw [hsw.2.2.1 hk]
    refine ⟨fun q => absurd q (by decide), fun q => absurd q (by decide), fun q => absurd q (by decide), fun _ => simple (Or.inr (Or.inl hk)), fun q => absurd q (by decide), fun q => absurd q (by decide), fun q => absurd q (by decide), fun q => absurd q (by decide)⟩
  · rw [hsw.2.2.2.1 hk]
    refine ⟨fun q => absurd q (by decide), fun q => absurd q (by decide), fun q => absurd q (by decide), fun q => absurd q (by decide), fun _ => simple (Or.inr (Or.inr hk)), fun q => absurd q (by decide), fun q => absurd q (by decide), fun q => absurd q (by decide)⟩
  · rw [hsw.2.2.2.2.1 hk]
    refine ⟨fun q => absurd q (by decide), fun q => absurd q (by decide), fun q => absurd q (by decide), fun q => absurd q (by decide), fun q => absurd q (by decide), fun _ => ?_, fun q => absurd q (by decide), fun q => absurd q (by decide)⟩
    rw [if_neg (by omega), if_neg (by omega), if_pos hk] at hq
    rw [hk]
    unfold mDo at hq
    refine c_take hB k6 h hn (by omega) (by omega) (PO.b hq (fun s1 _ h1 n1 hq1 => ?_))
    refine c_pnT hB kB k6 h1 n1 (PO.b hq1 (fun s2 _ h2 n2 hq2 => ?_))
    exact endT _ s2 h2 n2 hq2
  · rw [hsw.2.2.2.2.2.1 hk]
    refine ⟨fun q => absurd q (by decide), fun q => absurd q (by decide), fun q => absurd q (by decide), fun q => absurd q (by decide), fun q => absurd q (by decide), fun q => absurd q (by decide), fun _ => ?_, fun q => absurd q (by decide)⟩
    rw [if_neg (by omega), if_neg (by omega), if_neg (by omega), if_pos hk] at hq
    rw [hk]
    unfold mWhile at hq
    refine c_take hB k6 h hn (by omega) (by omega) (PO.b hq (fun s1 _ h1 n1 hq1 => ?_))
    refine c_compares hB k6 (h1.g (r := 20) (by omega)) (n1.g (by omega)) (PO.b hq1 (fun s2 _ h2 n2 hq2 => ?_))
    refine ⟨by rw [h2.r1]; exact kB, ?_⟩
    intro c e
    rw [e, h2.r1]
    refine c_bo_4 (r := 8) hB kB k6 ((h2.g (r := 21) (by omega)).g (r := 0) (k := 8) (by omega)) ((n2.g (by omega)).g (by omega)) hx (Or.inl rfl) (PO.b hq2 (fun s3 _ h3 n3 hq3 => ?_))
    exact hq3 s3 ((h3.g (r := 0) (k := 8) (by omega)).g (by omega)) (fun _ => (n3.g (by omega)).g (by omega))
  · rw [hsw.2.2.2.2.2.2 hk]
    refine ⟨fun q => absurd q (by decide), fun q => absurd q (by decide), fun q => absurd q (by decide), fun q => absurd q (by decide), fun q => absurd q (by decide), fun q => absurd q (by decide), fun q => absurd q (by decide), fun _ => ?_⟩
    rw [if_neg (by omega), if_neg (by omega), if_neg (by omega), if_neg (by omega), if_pos hk] at hq
    rw [hk]
    unfold mIf at hq
    refine c_take hB k6 h hn (by omega) (by omega) (PO.b hq (fun s1 _ h1 n1 hq1 => ?_))
    refine c_compares hB k6 (h1.g (r := 20) (by omega)) (n1.g (by omega)) (PO.b hq1 (fun s2 _ h2 n2 hq2 => ?_))
    refine ⟨by rw [h2.r1]; exact kB, ?_⟩
    intro c e
    rw [e, h2.r1]
    refine c_bo_4 (r := 8) hB kB k6 ((h2.g (r := 21) (by omega)).g (r := 0) (k := 8) (by omega)) ((n2.g (by omega)).g (by omega)) hx (Or.inl rfl) (PO.b hq2 (fun s3 _ h3 n3 hq3 => ?_))
    obtain ⟨A3, e3⟩ : ∃ A3, A3 = gIe x (mBO (mBlk 2) 8 x (gInc 8 (gN x (mCmp 400 (gCs x (mTk 23 A).2)).2))).2 := ⟨_, rfl⟩
    have h3 : CP s0 B A3 s3 := by rw [e3]; exact h3.g (r := 24) (by omega)
    have n3 : NF A3 := by rw [e3]; exact n3.g (r := 24) (by omega)
    have hq3 : PO s0 B Q (mElse (mBlk 2) x A3) := by rw [e3]; exact hq3
    clear e3
    unfold mElse at hq3
    rw [h3.kd]
    refine ⟨kin_l h3.mi.k37, fun q => ?_, fun q => ?_⟩
    · rw [if_neg (fun e => q (by rw [e]))] at hq3
      unfold wX4_readAct_4_L280
      exact hq3 s3 ((h3.g (r := 22) (by omega)).g (by omega)) (fun _ => (n3.g (by omega)).g (by omega))
    · rw [if_pos (Option.some.inj q)] at hq3
      refine c_take hB k6 ((h3.g (r := 0) (k := 8) (by omega)).g (r := 22) (by omega)) ((n3.g (by omega)).g (by omega)) (by omega) (by omega) (PO.b hq3 (fun s4 _ h4 n4 hq4 => ?_))
      refine ⟨by rw [h4.r1]; exact kB, ?_⟩
      intro c e
      rw [e, h4.r1]
      refine c_bo_4 (r := 9) hB kB k6 h4 n4 hx (Or.inr rfl) (PO.b hq4 (fun s5 _ h5 n5 hq5 => ?_))
      unfold wX4_readAct_4_L280
      exact hq5 s5 (h5.g (by omega)) (fun _ => n5.g (by omega))
  · have hno := sw_no _ k37 hne
    refine ⟨fun _ => ?_, fun q => absurd q hno.1, fun q => absurd q hno.2.1, fun q => absurd q hno.2.2.1, fun q => absurd q hno.2.2.2.1, fun q => absurd q hno.2.2.2.2.1, fun q => absurd q hno.2.2.2.2.2.1, fun q => absurd q hno.2.2.2.2.2.2⟩
    rw [if_neg (by omega), if_neg (by omega), if_neg (by omega), if_neg (by omega), if_neg (by omega)] at hq
    exact hq st h (fun z => by cases z)
theorem c_blk_4 {o : Nat} (hB : 20 ≤ B) (kB : kd B = 1) (k6 : kd (B + 12) = 6) (h : CP s0 B A st) (hn : NF A) (ho : o ≤ 60) (hq : PO s0 B Q (mBlk 3 o A)) : wX4_readBlock_4 3 (oN o) (nI 1) st Q := by
  unfold wX4_readBlock_4
  unfold mBlk at hq
  refine ⟨fun q => absurd ((nI_ltI (a := 3) (b := 1) (by omega) (by omega)).mp q) (by omega), fun _ => ?_⟩
  have key : ∀ (f v last : Nat) (A : Bk) (st : St), f + v = 400 → last ≤ A 0 3 → CP s0 B A st → NF A → PO s0 B Q (mLoop (mAct (mBlk 2)) o f last A) → lp (fun R s => wX4_readBlock_4_L22 3 (oN o) (nI 1) R s.1 s.2.1 s.2.2.1 s.2.2.2.1 s.2.2.2.2 Q) (f + 1) (oN o, nI 1, oN last, nI v, st) := by
    intro f
    induction f with
    | zero =>
      intro v last A st hv hla h hn hq
      have e : v = 400 := by omega
      subst e
      show wX4_readBlock_4_L22 3 (oN o) (nI 1) _ (oN o) (nI 1) (oN last) (nI 400) st Q
      unfold wX4_readBlock_4_L22 wX4_readBlock_4_L108
      exact ⟨fun _ => c_take hB k6 h hn (by omega) (by omega) hq, fun q => absurd (nI_le (Nat.le_refl 400) (by omega)) q⟩
    | succ f ih =>
      intro v last A st hv hla h hn hq
      have ih := ih (v + 1)
      show wX4_readBlock_4_L22 3 (oN o) (nI 1) (lp (fun R s => wX4_readBlock_4_L22 3 (oN o) (nI 1) R s.1 s.2.1 s.2.2.1 s.2.2.2.1 s.2.2.2.2 Q) (f + 1)) (oN o) (nI 1) (oN last) (nI v) st Q
      generalize lp (fun R s => wX4_readBlock_4_L22 3 (oN o) (nI 1) R s.1 s.2.1 s.2.2.1 s.2.2.2.1 s.2.2.2.2 Q) (f + 1) = RR at ih ⊢
      unfold wX4_readBlock_4_L22 wX4_readBlock_4_L108
      unfold mLoop at hq
      rw [h.kd]
      have h60 := h.mi.2.2.2.1
      refine ⟨fun q => absurd ((nI_leI (a := 400) (by omega) (by omega)).mp q) (by omega), fun _ => ⟨kin_l h.mi.k37, fun q => ?_, fun q => ?_⟩⟩
      · rw [if_pos (Option.some.inj q)] at hq
        exact c_take hB k6 h hn (by omega) (by omega) hq
      · rw [if_neg (fun e => q (by rw [e]))] at hq
        refine ⟨by rw [h.r1]; exact kB, ?_⟩
        intro c4 e4
        rw [e4, h.r1]
        have xl : mAddX A ≤ mAddA o A 0 3 := by
          rw [addA_3]; unfold mAddX
          split <;> omega
        have x60 : mAddX A ≤ 60 := by unfold mAddX; split <;> omega
        have L65 : ∀ s1, CP s0 B (mAddA o A) s1 → wX4_readBlock_4_L65 3 (oN o) (nI 1) RR (oN o) (nI 1) (oN last) (nI v) (oN (mAddX A)) s1 Q := by
          intro s1 h1
          have n1 : NF (mAddA o A) := hn.addA
          unfold wX4_readBlock_4_L65
          have hl1 : last ≤ mAddA o A 0 3 := by rw [addA_3]; split <;> omega
          have h601 := h1.mi.2.2.2.1
          have L87 : ∀ s2, CP s0 B (mLink last (mAddX A) (mAddA o A)) s2 → wX4_readBlock_4_L87 3 (oN o) (nI 1) RR (oN o) (nI 1) (nI v) (oN (mAddX A)) s2 Q := by
            intro s2 h2
            have n2 : NF (mLink last (mAddX A) (mAddA o A)) := n1.link
            unfold wX4_readBlock_4_L87
            refine c_act_4 hB kB k6 h2 n2 x60 (PO.b2 hq (fun s3 _ h3 n3 hq3 => ?_))
            rintro _ rfl
            rw [nI_1]
            refine ih _ _ s3 (by omega) (Nat.le_trans xl ?_) h3 n3 hq3
            have := mo_act (blk := mBlk 2) (fun o => mo_blk) (x := mAddX A) (mLink last (mAddX A) (mAddA o A))
            rw [link_s (by omega)] at this
            exact this
          refine ⟨by rw [h1.r1]; exact kB, ?_⟩
          intro c10 e10
          rw [e10, h1.r1]
          refine cp_has h1 hl1 ⟨fun q2 => ?_, fun q2 => ?_⟩
          · have e : last = 0 := Decidable.not_not.mp (of_decide_eq_false (bI0.mp q2))
            refine L87 s1 ?_
            unfold mLink
            rw [if_pos e]; exact h1
          · have e : last ≠ 0 := fun e => q2 (by rw [decide_eq_false (fun z => z e)]; rfl)
            refine ⟨by rw [h1.r1]; exact kB, ?_⟩
            intro c13 e13
            rw [e13, h1.r1, oN_pos e, nI_clamp (by omega)]
            refine ⟨(vin_iff (by omega)).mpr (by omega), ?_⟩
            intro s14 e14
            refine L87 s14 ?_
            unfold mLink
            rw [if_neg e, e14]
            exact h1.u (r := 7) (k := last - 1) (v := mAddX A) hB (Or.inr (Or.inl (by omega))) rfl rfl rfl (h1.mi.s (by omega)) (fun z => by omega)
        by_cases hlt : A 0 3 < 60
        · refine c_addA hB h hlt (fun s1 h1 => ⟨fun _ => ?_, fun q2 => ((ne_m1 (by omega)).mp q2).elim⟩)
          have := L65 s1 h1
          rw [show oN (mAddX A) = nI (A 0 3) from by unfold mAddX; rw [if_pos hlt]; rfl] at this
          exact this
        · unfold wX1_addAct
          rw [h.an]
          refine ⟨fun q2 => absurd ((nI_ltI (b := 60) (by omega) (by omega)).mp q2) hlt, fun _ => ⟨fun q2 => absurd rfl q2, fun _ => c_mark (e := 4) hB h (by omega) (fun s1 h1 => ?_)⟩⟩
          have h1 : CP s0 B (mAddA o A) s1 := by unfold mAddA; rw [if_neg hlt]; exact h1
          have := L65 s1 h1
          rw [show oN (mAddX A) = -1 from by unfold mAddX; rw [if_neg hlt]; rfl] at this
          exact this
  exact c_take hB k6 h hn (by omega) (by omega) (PO.b2 hq (fun s1 _ h1 n1 hq1 => ⟨401, key 400 0 0 _ s1 (by omega) (Nat.zero_le _) h1 n1 hq1⟩))
end CBK

/-! the class's reader, by the model: walkers, planks, plans, the whole book -/
/-- rows that reading never changes but by the counts' own steps -/
def fxr (r k : Nat) : Prop := (r = 0 ∧ (k = 0 ∨ k = 1 ∨ k = 2 ∨ k = 4)) ∨ (1 ≤ r ∧ r ≤ 4) ∨ r = 10 ∨ r = 14 ∨ r = 15 ∨ r = 16 ∨ r = 17 ∨ r = 23 ∨ r = 25
def FxR (A A' : Bk) : Prop := (∀ r k, fxr r k → A' r k = A r k) ∧ A 0 5 ≤ A' 0 5 ∧ A 0 1 ≤ A' 0 1 ∧ (A 0 6 ≠ 0 → A' 0 6 = A 0 6 ∧ A' 0 7 = A 0 7)
theorem FxR.rf {A : Bk} : FxR A A := ⟨fun _ _ _ => rfl, Nat.le_refl _, Nat.le_refl _, fun _ => ⟨rfl, rfl⟩⟩
theorem FxR.tr {A A1 A2 : Bk} (h : FxR A A1) (h2 : FxR A1 A2) : FxR A A2 := ⟨fun r k q => (h2.1 r k q).trans (h.1 r k q), Nat.le_trans h.2.1 h2.2.1, Nat.le_trans h.2.2.1 h2.2.2.1, fun q => by
  have a := h.2.2.2 q
  have b := h2.2.2.2 (by rw [a.1]; exact q)
  exact ⟨b.1.trans a.1, b.2.trans a.2⟩⟩
def Fx (f : Bk → Bool × Bk) : Prop := ∀ A, FxR A (f A).2
theorem bd_fx {A : Bk} {r : Bool × Bk} {f : Bk → Bool × Bk} (h : FxR A r.2) (hf : Fx f) : FxR A (bd r f).2 := by
  cases e : r.1 with
  | true => rw [bd_t e]; exact h.tr (hf _)
  | false => rw [bd_f e]; exact h
theorem FxR.u {A : Bk} {r k v : Nat} (h : ¬ fxr r k) (h2 : r ≠ 0 ∨ (k = 5 ∧ A 0 5 ≤ v) ∨ (k = 1 ∧ A 0 1 ≤ v) ∨ k = 3 ∨ 8 ≤ k) : FxR A (u2 A r k v) := by
  refine ⟨fun r' k' q => ?_, ?_, ?_, fun _ => ⟨?_, ?_⟩⟩
  · rw [u2_a, if_neg (fun e => h (by rw [← e.1, ← e.2]; exact q))]
  · rw [u2_a]; split <;> omega
  · rw [u2_a]; split <;> omega
  · rw [u2_a, if_neg (by omega)]
  · rw [u2_a, if_neg (by omega)]
theorem fx_tk {k : Nat} : Fx (mTk k) := fun A => by
  unfold mTk
  split
  · exact FxR.u (by unfold fxr; omega) (by omega)
  · exact FxR.rf
theorem fx_mk {e : Nat} {A : Bk} : FxR A (mMk e A) := by
  refine ⟨fun r k q => mMk_s (by unfold fxr at q; omega), ?_, ?_, fun q => ?_⟩
  · rw [mMk_s (by omega)]; exact Nat.le_refl _
  · rw [mMk_s (by omega)]; exact Nat.le_refl _
  · unfold mMk
    rw [if_neg q]
    exact ⟨rfl, rfl⟩
theorem fx_mk3 {r : Option Nat} {A : Bk} : FxR A (mMk3 r A) := by
  unfold mMk3
  split
  · exact fx_mk
  · exact FxR.rf
theorem fx_out {lo hi : Nat} {A : Bk} : FxR A (mOut lo hi A) := by
  unfold mOut
  split
  · exact fx_mk
  · exact FxR.rf
theorem fx_res {r : Option Nat} {A : Bk} : FxR A (mRes r A) := by
  unfold mRes
  exact FxR.u (by unfold fxr; omega) (by omega)
theorem fx_num {lo hi : Nat} : Fx (mNum lo hi) := fun A => fx_out.tr (fx_tk _)
theorem fx_new {b : Bool} : Fx (mNew b) := fun A => by
  unfold mNew mNewM
  refine FxR.tr ?_ (fx_tk _)
  split
  · exact fx_mk
  split
  · exact fx_mk
  · exact FxR.rf
theorem fx_who : Fx mWho := fun A => by
  unfold mWho
  split
  · exact fx_tk A
  · exact (fx_mk3.tr fx_res).tr (fx_tk _)
theorem fx_pna : Fx mPna := fun A => by
  unfold mPna
  exact (fx_mk3.tr fx_res).tr (fx_tk _)
theorem fx_val : Fx mVal := fun A => by
  unfold mVal
  split
  · exact fx_tk A
  · exact fx_out.tr (fx_tk _)
theorem fx_inc {k : Nat} {A : Bk} (h : 8 ≤ k) : FxR A (gInc k A) := FxR.u (by unfold fxr; omega) (by omega)
theorem fx_set {r x v : Nat} {A : Bk} (h : (18 ≤ r ∧ r ≤ 22) ∨ r = 24) : FxR A (gSet r x v A) := FxR.u (by unfold fxr; omega) (by omega)
theorem fx_cmp1 : Fx mCmp1 := fun A => by
  unfold mCmp1
  refine bd_fx (fx_val A) (fun A1 => bd_fx ?_ (fun A2 => bd_fx (fx_val A2) (fun A3 => fx_inc (by omega))))
  split
  · exact fx_tk A1
  · exact FxR.rf
theorem fx_cmp : ∀ {f : Nat}, Fx (mCmp f) := by
  intro f
  induction f with
  | zero => exact fun A => FxR.rf
  | succ f ih =>
    intro A
    unfold mCmp
    refine bd_fx (fx_cmp1 A) (fun A1 => ?_)
    split
    · exact (fx_tk A1).tr (ih _)
    · exact FxR.rf
theorem fx_end {x : Nat} : Fx (mEnd x) := fun A => ((fx_inc (k := 8) (by omega)).tr (fx_set (r := 19) (by omega))).tr (fx_tk _)
theorem fx_bo {blk : Nat → Bk → Bool × Bk} {r x : Nat} (hr : r = 8 ∨ r = 9) (h : ∀ o, Fx (blk o)) : Fx (mBO blk r x) := fun A => by
  unfold mBO
  show FxR A (if x = 0 then (blk x A).2 else u2 (blk x A).2 r (x - 1) _)
  split
  · exact h x A
  · exact (h x A).tr (FxR.u (by unfold fxr; omega) (by omega))
theorem fx_act {blk : Nat → Bk → Bool × Bk} (h : ∀ o, Fx (blk o)) {x : Nat} : Fx (mAct blk x) := fun A => by
  unfold mAct
  split
  · unfold mSend
    refine bd_fx (fx_tk A) (fun A1 => bd_fx (fx_who A1) (fun A2 => bd_fx ?_ fx_end))
    split
    · exact bd_fx (fx_tk A2) fx_who
    · exact FxR.rf
  split
  · unfold mSim
    exact bd_fx (fx_tk A) (fun A1 => bd_fx (fx_val A1) fx_end)
  split
  · unfold mDo
    exact bd_fx (fx_tk A) (fun A1 => bd_fx (fx_pna A1) fx_end)
  split
  · unfold mWhile
    refine bd_fx (fx_tk A) (fun A1 => bd_fx ((fx_set (r := 20) (by omega)).tr (fx_cmp _)) (fun A2 => bd_fx (((fx_set (r := 21) (by omega)).tr (fx_inc (by omega))).tr (fx_bo (by omega) h _)) (fun A3 => ?_)))
    exact (fx_inc (by omega)).tr (fx_set (r := 19) (by omega))
  split
  · unfold mIf
    refine bd_fx (fx_tk A) (fun A1 => bd_fx ((fx_set (r := 20) (by omega)).tr (fx_cmp _)) (fun A2 => bd_fx (((fx_set (r := 21) (by omega)).tr (fx_inc (by omega))).tr (fx_bo (by omega) h _)) (fun A3 => ?_)))
    refine FxR.tr (A1 := gIe x A3) (fx_set (r := 24) (by omega)) ?_
    show FxR (gIe x A3) (mElse blk x (gIe x A3)).2
    generalize gIe x A3 = A3
    unfold mElse
    split
    · refine bd_fx (((fx_inc (k := 8) (by omega)).tr (fx_set (r := 22) (by omega))).tr (fx_tk _)) (fun A4 => bd_fx (fx_bo (by omega) h A4) (fun A5 => ?_))
      exact fx_set (r := 19) (by omega)
    · exact (fx_set (r := 22) (by omega)).tr (fx_set (r := 19) (by omega))
  · exact FxR.rf
theorem fx_addA {o : Nat} {A : Bk} : FxR A (mAddA o A) := by
  unfold mAddA
  split
  · exact (((((((((FxR.u (by unfold fxr; omega) (by omega)).tr (FxR.u (by unfold fxr; omega) (by omega))).tr (FxR.u (by unfold fxr; omega) (by omega))).tr (FxR.u (by unfold fxr; omega) (by omega))).tr (FxR.u (by unfold fxr; omega) (by omega))).tr (FxR.u (by unfold fxr; omega) (by omega))).tr (FxR.u (by unfold fxr; omega) (by omega))).tr (FxR.u (by unfold fxr; omega) (by omega))).tr (FxR.u (by unfold fxr; omega) (by omega)))
  · exact fx_mk
theorem fx_link {last x : Nat} {A : Bk} : FxR A (mLink last x A) := by
  unfold mLink
  split
  · exact FxR.rf
  · exact FxR.u (by unfold fxr; omega) (by omega)
theorem fx_loop {act : Nat → Bk → Bool × Bk} (h : ∀ x, Fx (act x)) {o : Nat} : ∀ {f last : Nat}, Fx (mLoop act o f last) := by
  intro f
  induction f with
  | zero => exact fun A => fx_tk A
  | succ f ih =>
    intro last A
    unfold mLoop
    split
    · exact fx_tk A
    · exact bd_fx ((fx_addA.tr fx_link).tr (h _ _)) ih
theorem fx_blk : ∀ {k o : Nat}, Fx (mBlk k o) := by
  intro k
  induction k with
  | zero => exact fun A => FxR.rf
  | succ k ih =>
    intro o A
    unfold mBlk
    exact bd_fx (fx_tk A) (fx_loop (fun x => fx_act (fun o => ih)))
theorem tk_at {k : Nat} {A : Bk} (h : (mTk k A).1 = true) : (mTk k A).2 0 5 = A 0 5 + 1 ∧ A 10 (A 0 5) = k := by
  unfold mTk at h ⊢
  split at h
  · next q => rw [if_pos q]; exact ⟨by show u2 A 0 5 (A 0 5 + 1) 0 5 = _; rw [u2_a, if_pos ⟨rfl, rfl⟩], q⟩
  · cases h
/-- a step that leaves all but the place and the error, and goes n on -/
def Kn (n : Nat) (f : Bk → Bool × Bk) : Prop := ∀ A, (∀ r k, (r ≠ 0 ∨ (k ≠ 5 ∧ k ≠ 6 ∧ k ≠ 7)) → (f A).2 r k = A r k) ∧ ((f A).1 = true → (f A).2 0 5 = A 0 5 + n)
theorem kn_b {n m : Nat} {f g : Bk → Bool × Bk} (h : Kn n f) (h2 : Kn m g) : Kn (n + m) (fun A => bd (f A) g) := by
  intro A
  show (∀ r k, _ → (bd (f A) g).2 r k = A r k) ∧ ((bd (f A) g).1 = true → (bd (f A) g).2 0 5 = A 0 5 + (n + m))
  cases e : (f A).1 with
  | true =>
    rw [bd_t e]
    refine ⟨fun r k q => ((h2 _).1 r k q).trans ((h A).1 r k q), fun q => ?_⟩
    rw [(h2 _).2 q, (h A).2 e]; omega
  | false =>
    rw [bd_f e]
    exact ⟨(h A).1, fun q => by cases q⟩
theorem kn_tk {k : Nat} : Kn 1 (mTk k) := fun A => by
  refine ⟨fun r k' q => ?_, fun q => (tk_at q).1⟩
  unfold mTk
  split
  · exact if_neg (by omega)
  · rfl
theorem kn_num {lo hi : Nat} : Kn 1 (mNum lo hi) := fun A => by
  refine ⟨fun r k q => ((kn_tk _).1 r k q).trans (mOut_s (by omega)), fun q => ?_⟩
  have := (tk_at q).1
  rw [mOut_s (r := 0) (k := 5) (by omega)] at this
  exact this
theorem newM_s {b : Bool} {r k : Nat} {A : Bk} (h : r ≠ 0 ∨ (k ≠ 6 ∧ k ≠ 7)) : mNewM b A r k = A r k := by
  unfold mNewM
  split
  · exact mMk_s h
  split
  · exact mMk_s h
  · rfl
theorem kn_new {b : Bool} : Kn 1 (mNew b) := fun A => by
  refine ⟨fun r k q => ((kn_tk _).1 r k q).trans (newM_s (by omega)), fun q => ?_⟩
  have := (tk_at q).1
  rw [newM_s (r := 0) (k := 5) (by omega)] at this
  exact this
theorem kn_wk1 : Kn 7 mWk1 := kn_b kn_tk (kn_b (f := fun A1 => mNew (decide (8 ≤ A1 0 0)) A1) (fun A => kn_new A) (kn_b kn_tk (kn_b kn_num (kn_b kn_tk (kn_b kn_num kn_tk)))))
section CBR
variable {s0 : St} {B : Nat} {A : Bk} {st st' : St} {Q : Int32 → St → Prop} {Qv : St → Prop} {Qk : Option Nat → St → Prop} {Qj : Int64 → St → Prop}
theorem CP.j {r k w : Nat} (h : CP s0 B A st) (hr : (r = 16 ∧ k = A 0 0) ∨ (r = 17 ∧ k = A 0 2)) : CP s0 B (u2 A r k w) (uJ st (if r = 16 then B + 1 else B + 5) k (lN (gw w))) := by
  obtain ⟨h1, h2, h3, h4, h5, h6, h7⟩ := h
  have same : ∀ r' k', r' ≠ r ∨ k' ≠ k → u2 A r k w r' k' = A r' k' := by
    intro r' k' hq
    rw [u2_a, if_neg (by omega)]
  have e0 := same 0 0 (by omega)
  have e2 := same 0 2 (by omega)
  have e4 := same 0 4 (by omega)
  have e5 := same 0 5 (by omega)
  refine ⟨(h1.g (by unfold ir; omega)).st rfl, ?_, ?_, ?_, h5, h6, h7.tr (FP.uJ (by unfold PQ; split <;> omega))⟩
  · unfold RJ
    rw [e0, e2, e4]
    refine ⟨fun i hi => ?_, fun i hi => ?_, fun i hi => ?_⟩
    · rw [same 14 i (by omega), gJ_uJ, if_neg (by split <;> omega)]; exact h2.1 i hi
    · by_cases e : r = 16
      · rw [same 16 i (by omega), gJ_uJ, if_neg (by omega)]; exact h2.2.1 i hi
      · rw [same 16 i (by omega), if_neg e, gJ_uJ, if_neg (by omega)]; exact h2.2.1 i hi
    · by_cases e : r = 16
      · rw [same 17 i (by omega), if_pos e, gJ_uJ, if_neg (by omega)]; exact h2.2.2 i hi
      · rw [same 17 i (by omega), gJ_uJ, if_neg (by omega)]; exact h2.2.2 i hi
  · unfold RKK
    rw [e4, e5, same 10 _ (by omega)]
    exact ⟨h3.1, fun i hi => by rw [same 10 i (by omega)]; exact h3.2 i hi⟩
  · unfold mI
    rw [e0, e2, e4, e5, same 0 1 (by omega), same 0 3 (by omega), same 0 6 (by omega), same 0 7 (by omega)]
    obtain ⟨g1, g2, g3, g4, g5, g6, g7, g8, g9, g10, g11⟩ := h4
    exact ⟨g1, g2, g3, g4, g5, g6, g7, g8, fun i hi => by rw [same 10 i (by omega), same 14 i (by omega)]; exact g9 i hi, fun i hi => by rw [same 16 i (by omega)]; exact g10 i hi, fun i hi => by rw [same 17 i (by omega)]; exact g11 i hi⟩
theorem CP.c0 (h : CP s0 B A st) (hB : 20 ≤ B) (hlt : A 0 0 < 8) (hv : vw (A 16 (A 0 0))) (hj : gJ st (B + 1) (A 0 0) = lN (gw (A 16 (A 0 0)))) : CP s0 B (u2 A 0 0 (A 0 0 + 1)) (uI st B 4 (nI (A 0 0 + 1))) := by
  obtain ⟨h1, h2, h3, h4, h5, h6, h7⟩ := h
  refine ⟨h1.u (r := 0) (k := 0) hB (Or.inl ⟨rfl, by omega⟩), ?_, ?_, ?_, h5, h6, h7.tr (FP.uI (by unfold PQ; omega))⟩
  · refine ⟨h2.1, fun k hk => ?_, h2.2.2⟩
    have hk : k < A 0 0 + 1 := hk
    show gJ st (B + 1) k = lN (gw (A 16 k))
    by_cases e : k = A 0 0
    · rw [e]; exact hj
    · exact h2.2.1 k (by omega)
  · exact h3
  · obtain ⟨g1, g2, g3, g4, g5, g6, g7, g8, g9, g10, g11⟩ := h4
    refine ⟨?_, g2, g3, g4, g5, g6, g7, g8, g9, fun k hk => ?_, g11⟩
    · show A 0 0 + 1 ≤ 8; omega
    · have hk : k < A 0 0 + 1 := hk
      show vw (A 16 k)
      by_cases e : k = A 0 0
      · rw [e]; exact hv
      · exact g10 k (by omega)
theorem CP.c2 (h : CP s0 B A st) (hB : 20 ≤ B) (hlt : A 0 2 < 6) (hv : vw (A 17 (A 0 2))) (hj : gJ st (B + 5) (A 0 2) = lN (gw (A 17 (A 0 2)))) : CP s0 B (u2 A 0 2 (A 0 2 + 1)) (uI st B 9 (nI (A 0 2 + 1))) := by
  obtain ⟨h1, h2, h3, h4, h5, h6, h7⟩ := h
  refine ⟨h1.u (r := 0) (k := 2) hB (Or.inl ⟨rfl, by omega⟩), ?_, ?_, ?_, h5, h6, h7.tr (FP.uI (by unfold PQ; omega))⟩
  · refine ⟨h2.1, h2.2.1, fun k hk => ?_⟩
    have hk : k < A 0 2 + 1 := hk
    show gJ st (B + 5) k = lN (gw (A 17 k))
    by_cases e : k = A 0 2
    · rw [e]; exact hj
    · exact h2.2.2 k (by omega)
  · exact h3
  · obtain ⟨g1, g2, g3, g4, g5, g6, g7, g8, g9, g10, g11⟩ := h4
    refine ⟨g1, g2, ?_, g4, g5, g6, g7, g8, g9, g10, fun k hk => ?_⟩
    · show A 0 2 + 1 ≤ 6; omega
    · have hk : k < A 0 2 + 1 := hk
      show vw (A 17 k)
      by_cases e : k = A 0 2
      · rw [e]; exact hv
      · exact g11 k (by omega)
theorem c_addW {w a b : Nat} (hB : 20 ≤ B) (h : CP s0 B A st) (hv : vw w) (hq : ∀ st', CP s0 B (if A 0 0 < 8 then u2 (u2 (u2 (u2 A 16 (A 0 0) w) 1 (A 0 0) a) 2 (A 0 0) b) 0 0 (A 0 0 + 1) else A) st' → Qv st') : wX1_addWalker B (lN (gw w)) (nI a) (nI b) st Qv := by
  unfold wX1_addWalker
  have h8 := h.mi.1
  rw [h.wn]
  refine ⟨fun q => ?_, fun q => ?_⟩
  · rw [if_neg (by have := (nI_leI (a := 8) (by omega) (by omega)).mp q; omega)] at hq
    exact hq st h
  · have hlt : A 0 0 < 8 := Nat.lt_of_not_le (fun z => q (nI_le (a := 8) z (by omega)))
    rw [if_pos hlt] at hq
    have v8 : vp_in (nI (A 0 0)) 8 := (vin_iff (by omega)).mpr hlt
    have cl : (nI (A 0 0) : Int32).toNatClampNeg = A 0 0 := nI_clamp (by omega)
    rw [cl]
    refine ⟨v8, ?_⟩
    intro s1 e1
    have h1 := h.j (w := w) (r := 16) (k := A 0 0) (Or.inl ⟨rfl, rfl⟩)
    rw [if_pos rfl, ← e1] at h1
    have j1 : gJ s1 (B + 1) (A 0 0) = lN (gw w) := by rw [e1, gJ_uJ, if_pos ⟨rfl, rfl⟩]
    have a1 : gI s1 B 4 = nI (A 0 0) := h1.wn
    rw [a1, cl]
    refine ⟨v8, ?_⟩
    intro s2 e2
    have h2 := h1.u (r := 1) (k := A 0 0) (v := a) (c := B + 2) (j := A 0 0) (x := nI a) hB (Or.inr (Or.inl (by omega))) rfl rfl rfl (h1.mi.s (by omega)) (fun z => by omega)
    rw [← e2] at h2
    have a2 : gI s2 B 4 = nI (A 0 0) := h2.wn
    rw [a2, cl]
    refine ⟨v8, ?_⟩
    intro s3 e3
    have h3 := h2.u (r := 2) (k := A 0 0) (v := b) (c := B + 3) (j := A 0 0) (x := nI b) hB (Or.inr (Or.inl (by omega))) rfl rfl rfl (h2.mi.s (by omega)) (fun z => by omega)
    rw [← e3] at h3
    have a3 : gI s3 B 4 = nI (A 0 0) := h3.wn
    rw [a3, nI_1]
    intro s4 e4
    have j3 : gJ s3 (B + 1) (A 0 0) = lN (gw w) := by rw [e3, e2]; exact j1
    refine hq s4 ?_
    rw [e4]
    have w16 : u2 (u2 (u2 A 16 (A 0 0) w) 1 (A 0 0) a) 2 (A 0 0) b 16 (A 0 0) = w := by
      rw [u2_a, if_neg (by omega), u2_a, if_neg (by omega), u2_a, if_pos ⟨rfl, rfl⟩]
    have n00 : u2 (u2 (u2 A 16 (A 0 0) w) 1 (A 0 0) a) 2 (A 0 0) b 0 0 = A 0 0 := by
      rw [u2_a, if_neg (by omega), u2_a, if_neg (by omega), u2_a, if_neg (by omega)]
    have := h3.c0 hB (by rw [n00]; exact hlt) (by rw [n00, w16]; exact hv) (by rw [n00, w16]; exact j3)
    rw [n00] at this
    exact this
theorem c_addPl {w x q0 q1 : Nat} (hB : 20 ≤ B) (h : CP s0 B A st) (hv : vw w) (hq : ∀ st', CP s0 B (if A 0 2 < 6 then u2 (u2 (u2 (u2 (u2 A 17 (A 0 2) w) 4 (A 0 2) x) 23 (A 0 2) q0) 25 (A 0 2) q1) 0 2 (A 0 2 + 1) else A) st' → Qv st') : wX1_addPlan B (lN (gw w)) (oN x) st Qv := by
  unfold wX1_addPlan
  have h8 := h.mi.2.2.1
  rw [h.ln]
  refine ⟨fun q => ?_, fun q => ?_⟩
  · rw [if_neg (by have := (nI_leI (a := 6) (by omega) (by omega)).mp q; omega)] at hq
    exact hq st h
  · have hlt : A 0 2 < 6 := Nat.lt_of_not_le (fun z => q (nI_le (a := 6) z (by omega)))
    rw [if_pos hlt] at hq
    have v8 : vp_in (nI (A 0 2)) 6 := (vin_iff (by omega)).mpr hlt
    have cl : (nI (A 0 2) : Int32).toNatClampNeg = A 0 2 := nI_clamp (by omega)
    rw [cl]
    refine ⟨v8, ?_⟩
    intro s1 e1
    have h1 := h.j (w := w) (r := 17) (k := A 0 2) (Or.inr ⟨rfl, rfl⟩)
    rw [if_neg (by omega), ← e1] at h1
    have j1 : gJ s1 (B + 5) (A 0 2) = lN (gw w) := by rw [e1, gJ_uJ, if_pos ⟨rfl, rfl⟩]
    have a1 : gI s1 B 9 = nI (A 0 2) := h1.ln
    rw [a1, cl]
    refine ⟨v8, ?_⟩
    intro s2 e2
    have h2 := h1.u (r := 4) (k := A 0 2) (v := x) (c := B + 6) (j := A 0 2) (x := oN x) hB (Or.inr (Or.inl (by omega))) rfl rfl rfl (h1.mi.s (by omega)) (fun z => by omega)
    rw [← e2] at h2
    have a2 : gI s2 B 9 = nI (A 0 2) := h2.ln
    have h3 := (h2.g (r := 23) (k := A 0 2) (v := q0) (by omega)).g (r := 25) (k := A 0 2) (v := q1) (by omega)
    rw [a2, nI_1]
    intro s4 e4
    have j3 : gJ s2 (B + 5) (A 0 2) = lN (gw w) := by rw [e2]; exact j1
    refine hq s4 ?_
    rw [e4]
    have w16 : u2 (u2 (u2 (u2 A 17 (A 0 2) w) 4 (A 0 2) x) 23 (A 0 2) q0) 25 (A 0 2) q1 17 (A 0 2) = w := by
      rw [u2_a, if_neg (by omega), u2_a, if_neg (by omega), u2_a, if_neg (by omega), u2_a, if_pos ⟨rfl, rfl⟩]
    have n00 : u2 (u2 (u2 (u2 A 17 (A 0 2) w) 4 (A 0 2) x) 23 (A 0 2) q0) 25 (A 0 2) q1 0 2 = A 0 2 := by
      rw [u2_a, if_neg (by omega), u2_a, if_neg (by omega), u2_a, if_neg (by omega), u2_a, if_neg (by omega)]
    have := h3.c2 hB (by rw [n00]; exact hlt) (by rw [n00, w16]; exact hv) (by rw [n00, w16]; exact j3)
    rw [n00] at this
    exact this
theorem NF.w {A' : Bk} (h : NF A) (h1 : ∀ k, (k = 4 ∨ k = 5) → A' 0 k = A 0 k) (h2 : ∀ i, A' 11 i = A 11 i) : NF A' := by
  intro i q1 q2
  rw [h1 5 (by omega)] at q1
  rw [h1 4 (by omega)] at q2
  rw [h2 i]
  exact h i q1 q2
theorem c_walkers (hB : 20 ≤ B) (kB : kd B = 1) (k6 : kd (B + 12) = 6) (h : CP s0 B A st) (hn : NF A) (hq : PO s0 B Q (mWk 400 A)) : wX4_readWalkers 3 st Q := by
  unfold wX4_readWalkers
  have key : ∀ (f v : Nat) (A : Bk) (st : St), f + v = 400 → CP s0 B A st → NF A → PO s0 B Q (mWk f A) → lp (fun R s => wX4_readWalkers_L2 3 R s.1 s.2 Q) (f + 1) (nI v, st) := by
    intro f
    induction f with
    | zero =>
      intro v A st hv h hn hq
      have e : v = 400 := by omega
      subst e
      show wX4_readWalkers_L2 3 _ (nI 400) st Q
      unfold wX4_readWalkers_L2
      exact ⟨fun _ => hq st h (fun _ => hn), fun q => absurd (nI_le (Nat.le_refl 400) (by omega)) q⟩
    | succ f ih =>
      intro v A st hv h hn hq
      have ih := ih (v + 1)
      show wX4_readWalkers_L2 3 (lp (fun R s => wX4_readWalkers_L2 3 R s.1 s.2 Q) (f + 1)) (nI v) st Q
      generalize lp (fun R s => wX4_readWalkers_L2 3 R s.1 s.2 Q) (f + 1) = RR at ih ⊢
      unfold wX4_readWalkers_L2
      unfold mWk at hq
      rw [h.kd]
      have hm := h.mi
      refine ⟨fun q => absurd ((nI_leI (a := 400) (by omega) (by omega)).mp q) (by omega), fun _ => ⟨kin_l hm.k37, fun q => ?_, fun q => ?_⟩⟩
      · rw [if_neg (fun e => q (by rw [e]))] at hq
        exact hq st h (fun _ => hn)
      · have hk := Option.some.inj q
        rw [if_pos hk] at hq
        intro x2 e2
        rw [h.at] at e2
        rw [e2]
        have hW : PO s0 B (fun x st' => wX4_readWalkers_L113 3 RR (nI v) (nI (A 0 5)) x st' Q) (mWk1 A) := by
          intro s1 h1 n1
          unfold wX4_readWalkers_L113
          refine ⟨fun q2 => ?_, fun q2 => hq.f (bI0.mp q2) h1⟩
          have ht := bI_t q2
          have hq1 := hq.t ht
          have n1 := n1 ht
          obtain ⟨ks, ka⟩ := kn_wk1 A
          have ka := ka ht
          generalize (mWk1 A).2 = A1 at h1 n1 hq1 ks ka
          have hm1 := h1.mi
          have i5 := hm1.2.2.2.2.2.1
          have i4 := hm1.2.2.2.2.1
          have e4 := ks 0 4 (by omega)
          have e11 : ∀ i, A1 11 i = A 11 i := fun i => ks 11 i (by omega)
          refine ⟨by rw [h1.r1]; exact kB, ?_⟩
          intro c18 e18
          rw [e18, h1.r1]
          refine ⟨by rw [h1.r0]; exact k6, ?_⟩
          intro c19 e19
          rw [e19, h1.r0, nI_1]
          refine cp_word h1 (by omega) ⟨by rw [h1.r0]; exact k6, ?_⟩
          intro c22 e22
          rw [e22, h1.r0, show nI (A 0 5) + 3 = nI (A 0 5 + 3) from nI_add (A 0 5) 3]
          refine cp_num h1 (by omega) ⟨by rw [h1.r0]; exact k6, ?_⟩
          intro c25 e25
          rw [e25, h1.r0, show nI (A 0 5) + 5 = nI (A 0 5 + 5) from nI_add (A 0 5) 5]
          refine cp_num h1 (by omega) ?_
          have z3 := hn (A 0 5 + 3) (by omega) (by omega)
          have z5 := hn (A 0 5 + 5) (by omega) (by omega)
          rw [oN_pos (x := A1 11 (A 0 5 + 3)) (by rw [e11]; omega), oN_pos (x := A1 11 (A 0 5 + 5)) (by rw [e11]; omega)]
          refine c_addW hB h1 (hm1.2.2.2.2.2.2.2.2.1 _ (by omega)).2.2 (fun s2 h2 => ?_)
          rintro _ rfl
          rw [nI_1]
          refine ih _ s2 (by omega) h2 ?_ hq1
          refine n1.w (fun k hk => ?_) (fun i => ?_)
          · split
            · rcases hk with rfl | rfl <;> rfl
            · rfl
          · split
            · rfl
            · rfl
        unfold mWk1 at hW
        refine c_take hB k6 h hn (by omega) (by omega) (PO.b hW (fun s1 _ h1 n1 hq1 => ?_))
        generalize (mTk 11 A).2 = A1 at h1 n1 hq1
        refine ⟨by rw [h1.r1]; exact kB, ?_⟩
        intro c5 e5
        rw [e5, h1.r1, h1.wn]
        have h8 := h1.mi.1
        have L52 : wX4_readWalkers_L52 3 RR (nI v) (nI (A 0 5)) (bI (decide (8 ≤ A1 0 0))) s1 Q := by
          unfold wX4_readWalkers_L52
          refine c_newT hB kB k6 h1 n1 (PO.b hq1 (fun s2 _ h2 n2 hq2 => ?_))
          refine c_take hB k6 h2 n2 (by omega) (by omega) (PO.b hq2 (fun s3 _ h3 n3 hq3 => ?_))
          refine c_numT (lo := 1) (hi := 9) hB k6 h3 n3 (by omega) (by omega) (PO.b hq3 (fun s4 _ h4 n4 hq4 => ?_))
          refine c_take hB k6 h4 n4 (by omega) (by omega) (PO.b hq4 (fun s5 _ h5 n5 hq5 => ?_))
          refine c_numT (lo := 1) (hi := 20) hB k6 h5 n5 (by omega) (by omega) (PO.b hq5 (fun s6 _ h6 n6 hq6 => ?_))
          exact c_take hB k6 h6 n6 (by omega) (by omega) hq6.e
        refine ⟨fun q2 => ?_, fun q2 => ?_⟩
        · rw [decide_eq_false (by have := (nI_ltI (b := 8) (by omega) (by omega)).mp q2; omega)] at L52
          exact L52
        · rw [decide_eq_true (Nat.le_of_not_lt (fun z => q2 (nI_lt (b := 8) z (by omega))))] at L52
          exact L52
  exact ⟨401, key 400 0 A st (by omega) h hn hq⟩
theorem c_planks (hB : 20 ≤ B) (kB : kd B = 1) (k6 : kd (B + 12) = 6) (h : CP s0 B A st) (hn : NF A) (hq : PO s0 B Q (mPs A)) : wX4_readPlanks 3 st Q := by
  unfold wX4_readPlanks
  have L63 : ∀ (A : Bk) (st : St), CP s0 B A st → NF A → PO s0 B Q (mFin A) → wX4_readPlanks_L63 3 st Q := by
    intro A st h hn hq
    unfold wX4_readPlanks_L63 wX4_readPlanks_L79
    refine ⟨by rw [h.r1]; exact kB, ?_⟩
    intro c e
    rw [e, h.r1, h.pn]
    have h12 := h.mi.2.1
    unfold mFin at hq
    refine ⟨fun q => ?_, fun q => ?_⟩
    · rw [if_neg (by have := (nI_leI (a := 4) (by omega) (by omega)).mp q; omega)] at hq
      exact c_take hB k6 h hn (by omega) (by omega) hq
    · rw [if_pos (Nat.lt_of_not_le (fun z => q (nI_le (a := 4) z (by omega))))] at hq
      exact c_mark (e := 5) hB h (by omega) (fun s1 h1 => c_take hB k6 h1 hn.mk (by omega) (by omega) hq)
  have key : ∀ (f v : Nat) (A : Bk) (st : St), f + v = 400 → CP s0 B A st → NF A → PO s0 B Q (mPsL f A) → lp (fun R s => wX4_readPlanks_L21 3 R s.1 s.2 Q) (f + 1) (nI v, st) := by
    intro f
    induction f with
    | zero =>
      intro v A st hv h hn hq
      have e : v = 400 := by omega
      subst e
      show wX4_readPlanks_L21 3 _ (nI 400) st Q
      unfold wX4_readPlanks_L21
      exact ⟨fun _ => L63 A st h hn hq, fun q => absurd (nI_le (Nat.le_refl 400) (by omega)) q⟩
    | succ f ih =>
      intro v A st hv h hn hq
      have ih := ih (v + 1)
      show wX4_readPlanks_L21 3 (lp (fun R s => wX4_readPlanks_L21 3 R s.1 s.2 Q) (f + 1)) (nI v) st Q
      generalize lp (fun R s => wX4_readPlanks_L21 3 R s.1 s.2 Q) (f + 1) = RR at ih ⊢
      unfold wX4_readPlanks_L21
      unfold mPsL at hq
      rw [h.kd]
      refine ⟨fun q => absurd ((nI_leI (a := 400) (by omega) (by omega)).mp q) (by omega), fun _ => ⟨kin_l h.mi.k37, fun q => ?_, fun q => ?_⟩⟩
      · rw [if_neg (fun e => q (by rw [e]))] at hq
        exact L63 A st h hn hq
      · rw [if_pos (Option.some.inj q), bd_as] at hq
        refine c_take hB k6 h hn (by omega) (by omega) (PO.b hq (fun s1 _ h1 n1 hq1 => ?_))
        refine c_plank hB kB k6 h1 n1 (PO.b2 hq1 (fun s2 _ h2 n2 hq2 => ?_))
        rintro _ rfl
        rw [nI_1]
        exact ih _ s2 (by omega) h2 n2 hq2
  unfold mPs at hq
  rw [bd_as] at hq
  refine c_take hB k6 h hn (by omega) (by omega) (PO.b hq (fun s1 _ h1 n1 hq1 => ?_))
  exact c_plank hB kB k6 h1 n1 (PO.b2 hq1 (fun s2 _ h2 n2 hq2 => ⟨401, key 400 0 _ s2 (by omega) h2 n2 hq2⟩))
theorem c_plans (hB : 20 ≤ B) (kB : kd B = 1) (k6 : kd (B + 12) = 6) (h : CP s0 B A st) (hn : NF A) (hq : PO s0 B Q (mPl 400 A)) : wX4_readPlans 3 st Q := by
  unfold wX4_readPlans
  have key : ∀ (f v : Nat) (A : Bk) (st : St), f + v = 400 → CP s0 B A st → NF A → PO s0 B Q (mPl f A) → lp (fun R s => wX4_readPlans_L2 3 R s.1 s.2 Q) (f + 1) (nI v, st) := by
    intro f
    induction f with
    | zero =>
      intro v A st hv h hn hq
      have e : v = 400 := by omega
      subst e
      show wX4_readPlans_L2 3 _ (nI 400) st Q
      unfold wX4_readPlans_L2
      exact ⟨fun _ => hq st h (fun _ => hn), fun q => absurd (nI_le (Nat.le_refl 400) (by omega)) q⟩
    | succ f ih =>
      intro v A st hv h hn hq
      have ih := ih (v + 1)
      show wX4_readPlans_L2 3 (lp (fun R s => wX4_readPlans_L2 3 R s.1 s.2 Q) (f + 1)) (nI v) st Q
      generalize lp (fun R s => wX4_readPlans_L2 3 R s.1 s.2 Q) (f + 1) = RR at ih ⊢
      unfold wX4_readPlans_L2
      unfold mPl at hq
      rw [h.kd]
      have hm := h.mi
      refine ⟨fun q => absurd ((nI_leI (a := 400) (by omega) (by omega)).mp q) (by omega), fun _ => ⟨kin_l hm.k37, fun q => ?_, fun q => ?_⟩⟩
      · rw [if_neg (fun e => q (by rw [e]))] at hq
        exact hq st h (fun _ => hn)
      · have hk := Option.some.inj q
        rw [if_pos hk] at hq
        intro x2 e2
        rw [h.at, nI_1] at e2
        rw [e2]
        refine ⟨by rw [h.r1]; exact kB, ?_⟩
        intro c3 e3
        rw [e3, h.r1]
        intro x4 e4
        rw [h.an] at e4
        rw [e4]
        have hW : PO s0 B (fun x st' => wX4_readPlans_L82 3 RR (nI v) (nI (A 0 5 + 1)) (nI (A 0 3)) x st' Q) (bd (mTk 15 A) fun A1 => bd (mNew (decide (6 ≤ A1 0 2)) A1) (mBlk 3 0)) := by
          intro s1 h1 n1
          unfold wX4_readPlans_L82
          refine ⟨fun q2 => ?_, fun q2 => hq.f (bI0.mp q2) h1⟩
          have ht := bI_t q2
          have hq1 := hq.t ht
          have n1 := n1 ht
          have hi := hm.in2 (by omega)
          have fx : FxR A (bd (mTk 15 A) fun A1 => bd (mNew (decide (6 ≤ A1 0 2)) A1) (mBlk 3 0)).2 := bd_fx (fx_tk A) (fun A1 => bd_fx (fx_new A1) fx_blk)
          generalize (bd (mTk 15 A) fun A1 => bd (mNew (decide (6 ≤ A1 0 2)) A1) (mBlk 3 0)).2 = A1 at h1 n1 hq1 fx
          have h2 : CP s0 B (gInc 8 A1) s1 := h1.g (Or.inl ⟨rfl, by omega⟩)
          have n2 : NF (gInc 8 A1) := n1.g (Or.inl ⟨rfl, by omega, by omega⟩)
          have fx2 : FxR A (gInc 8 A1) := fx.tr (fx_inc (by omega))
          generalize gInc 8 A1 = A2 at h2 n2 fx2 hq1
          have e4' := fx2.1 0 4 (by unfold fxr; omega)
          have hm2 := h2.mi
          have h60 := hm2.2.2.2.1
          have h60a := hm.2.2.2.1
          refine ⟨by rw [h2.r1]; exact kB, ?_⟩
          intro c12 e12
          rw [e12, h2.r1]
          refine ⟨by rw [h2.r0]; exact k6, ?_⟩
          intro c13 e13
          rw [e13, h2.r0]
          refine cp_word h2 (by omega) ⟨by rw [h2.r1]; exact kB, ?_⟩
          intro c16 e16
          rw [e16, h2.r1]
          unfold wX1_firstSince
          rw [h2.an]
          have fin : ∀ x, x = (if A 0 3 < A2 0 3 then A 0 3 + 1 else 0) → wX1_addPlan B (lN (gw (A2 14 (A 0 5 + 1)))) (oN x) s1 (fun st19 => (∀ x20 : Int32, x20 = nI v + 1 → RR (x20, st19))) := by
            intro x hx
            refine c_addPl (q0 := A 0 8) (q1 := A2 0 8 - 1) hB h2 (hm2.2.2.2.2.2.2.2.2.1 _ (by omega)).2.2 (fun s3 h3 => ?_)
            rintro _ rfl
            rw [nI_1]
            unfold mAddPl at hq1
            rw [← hx] at hq1
            refine ih _ s3 (by omega) h3 ?_ hq1
            refine n2.w (fun k hk => ?_) (fun i => ?_)
            · split
              · rcases hk with rfl | rfl <;> rfl
              · rfl
            · split
              · rfl
              · rfl
          refine ⟨fun q3 => ?_, fun q3 => ?_⟩
          · have := (nI_leI (by omega) (by omega)).mp q3
            exact fin 0 (by rw [if_neg (by omega)])
          · have : A 0 3 < A2 0 3 := Nat.lt_of_not_le (fun z => q3 (nI_le z (by omega)))
            exact fin (A 0 3 + 1) (by rw [if_pos this])
        refine c_take hB k6 h hn (by omega) (by omega) (PO.b hW (fun s1 _ h1 n1 hq1 => ?_))
        generalize (mTk 15 A).2 = A1 at h1 n1 hq1
        refine ⟨by rw [h1.r1]; exact kB, ?_⟩
        intro c5 e5
        rw [e5, h1.r1, h1.ln]
        have h8 := h1.mi.2.2.1
        have L62 : wX4_readPlans_L62 3 RR (nI v) (nI (A 0 5 + 1)) (nI (A 0 3)) (bI (decide (6 ≤ A1 0 2))) s1 Q := by
          unfold wX4_readPlans_L62
          refine c_newT hB kB k6 h1 n1 (PO.b hq1 (fun s2 _ h2 n2 hq2 => ?_))
          exact c_blk_4 (o := 0) hB kB k6 h2 n2 (by omega) hq2.e
        refine ⟨fun q2 => ?_, fun q2 => ?_⟩
        · rw [decide_eq_false (by have := (nI_ltI (b := 6) (by omega) (by omega)).mp q2; omega)] at L62
          exact L62
        · rw [decide_eq_true (Nat.le_of_not_lt (fun z => q2 (nI_lt (b := 6) z (by omega))))] at L62
          exact L62
  exact ⟨401, key 400 0 A st (by omega) h hn hq⟩
end CBR

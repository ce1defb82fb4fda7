/-! a book read without a fault is a right book: what each step leaves -/
def ar (r : Nat) : Prop := (5 ≤ r ∧ r ≤ 9) ∨ r = 12 ∨ r = 13 ∨ (18 ≤ r ∧ r ≤ 22) ∨ r = 24
/-- a step that adds no act -/
def FxT (m : Nat) (A A' : Bk) : Prop := FxR A A' ∧ (∀ r k, ar r → A' r k = A r k) ∧ A' 0 3 = A 0 3 ∧ A' 0 8 = A 0 8 ∧ (∀ i, i < A 0 5 → A' 11 i = A 11 i) ∧ A' 0 9 = A 0 9 + m
theorem FxT.rf {A : Bk} : FxT 0 A A := ⟨FxR.rf, fun _ _ _ => rfl, rfl, rfl, fun _ _ => rfl, rfl⟩
theorem FxT.tr {m m2 : Nat} {A A1 A2 : Bk} (h : FxT m A A1) (h2 : FxT m2 A1 A2) : FxT (m + m2) A A2 := ⟨h.1.tr h2.1, fun r k q => (h2.2.1 r k q).trans (h.2.1 r k q), h2.2.2.1.trans h.2.2.1, h2.2.2.2.1.trans h.2.2.2.1, fun i hi => (h2.2.2.2.2.1 i (Nat.lt_of_lt_of_le hi h.1.2.1)).trans (h.2.2.2.2.1 i hi), by rw [h2.2.2.2.2.2, h.2.2.2.2.2]; omega⟩
/-- a step that leaves the acts read before -/
def FxA (A A' : Bk) : Prop := FxR A A' ∧ (∀ r b, ar r → b < A 0 3 → A' r b = A r b) ∧ A 0 3 ≤ A' 0 3 ∧ A 0 8 ≤ A' 0 8 ∧ (∀ i, i < A 0 5 → A' 11 i = A 11 i) ∧ A 0 9 ≤ A' 0 9
theorem FxT.a {m : Nat} {A A' : Bk} (h : FxT m A A') : FxA A A' := ⟨h.1, fun r b q _ => h.2.1 r b q, Nat.le_of_eq h.2.2.1.symm, Nat.le_of_eq h.2.2.2.1.symm, h.2.2.2.2.1, by rw [h.2.2.2.2.2]; omega⟩
theorem FxA.tr {A A1 A2 : Bk} (h : FxA A A1) (h2 : FxA A1 A2) : FxA A A2 := ⟨h.1.tr h2.1, fun r k q hk => (h2.2.1 r k q (Nat.lt_of_lt_of_le hk h.2.2.1)).trans (h.2.1 r k q hk), Nat.le_trans h.2.2.1 h2.2.2.1, Nat.le_trans h.2.2.2.1 h2.2.2.2.1, fun i hi => (h2.2.2.2.2.1 i (Nat.lt_of_lt_of_le hi h.1.2.1)).trans (h.2.2.2.2.1 i hi), Nat.le_trans h.2.2.2.2.2 h2.2.2.2.2.2⟩
/-- what a right reading leads to -/
def PW (r : Bool × Bk) (F : Bk → Prop) : Prop := r.1 = true → r.2 0 6 = 0 → F r.2
theorem FxR.e0 {A A' : Bk} (h : FxR A A') (h0 : A' 0 6 = 0) : A 0 6 = 0 := by
  by_cases e : A 0 6 = 0
  · exact e
  · rw [(h.2.2.2 e).1] at h0; exact h0
theorem PW.b {r : Bool × Bk} {f : Bk → Bool × Bk} {F : Bk → Prop} (hf : Fx f) (h : PW r (fun A => PW (f A) F)) : PW (bd r f) F := by
  intro ht h0
  cases e : r.1 with
  | true =>
    rw [bd_t e] at ht h0 ⊢
    exact h e ((hf _).e0 h0) ht h0
  | false => rw [bd_f e] at ht; cases ht
theorem PW.m {r : Bool × Bk} {F F' : Bk → Prop} (h : PW r F) (hm : ∀ A, F A → F' A) : PW r F' := fun a b => hm _ (h a b)
section PUR
variable {A : Bk} {F : Bk → Prop}
theorem fxt_at {v : Nat} (h : A 0 5 ≤ v) : FxT 0 A (u2 A 0 5 v) := ⟨FxR.u (by unfold fxr; omega) (by omega), fun r k q => by rw [u2_a, if_neg (by unfold ar at q; omega)], by rw [u2_a, if_neg (by omega)], by rw [u2_a, if_neg (by omega)], fun i _ => by rw [u2_a, if_neg (by omega)], by rw [u2_a, if_neg (by omega)]; rfl⟩
theorem p_tk {k : Nat} (hn : NF A) (h : A 10 (A 0 5) = k → FxT 0 A (u2 A 0 5 (A 0 5 + 1)) → NF (u2 A 0 5 (A 0 5 + 1)) → F (u2 A 0 5 (A 0 5 + 1))) : PW (mTk k A) F := by
  intro ht _
  have hn2 := hn.tk ht
  unfold mTk at ht hn2 ⊢
  split at ht
  · next e =>
    rw [if_pos e] at hn2 ⊢
    exact h e (fxt_at (by omega)) hn2
  · cases ht
theorem mMk_0 {e : Nat} (he : e ≠ 0) (h : (mMk e A) 0 6 = 0) : False := by
  unfold mMk at h
  split at h
  · rw [u2_a, if_neg (by omega), u2_a, if_pos ⟨rfl, rfl⟩] at h; exact he h
  · next q => exact q h
theorem mOut_0 {lo hi : Nat} (h : (mOut lo hi A) 0 6 = 0) : mOut lo hi A = A ∧ ¬ (A 11 (A 0 5) - 1 < lo ∨ hi < A 11 (A 0 5) - 1) := by
  unfold mOut at h ⊢
  split at h
  · exact (mMk_0 (by decide) h).elim
  · next q => rw [if_neg q]; exact ⟨rfl, q⟩
theorem PW.fx {r : Bool × Bk} (h : r.2 0 6 = 0 → PW r F) : PW r F := fun a b => h b a b
theorem p_val (hn : NF A) (hl : A 0 5 < A 0 4) (h : ∀ A', FxT 0 A A' → NF A' → A' 0 5 = A 0 5 + 1 → vOK A' (A 0 5) → F A') : PW (mVal A) F := by
  unfold mVal
  split
  · next q =>
    refine p_tk hn (fun e f n => h _ f n (by rw [u2_a, if_pos ⟨rfl, rfl⟩]) (Or.inr ?_))
    rw [u2_a, if_neg (by omega)]; exact q
  · refine PW.fx (fun h0 => ?_)
    have h0 : (mTk 3 (mOut 0 99 A)).2 0 6 = 0 := h0
    have := (fx_tk (k := 3) (mOut 0 99 A)).e0 h0
    obtain ⟨e1, e2⟩ := mOut_0 this
    rw [e1]
    refine p_tk hn (fun e f n => h _ f n (by rw [u2_a, if_pos ⟨rfl, rfl⟩]) (Or.inl ?_))
    have := hn (A 0 5) (Nat.le_refl _) hl
    rw [u2_a, if_neg (by omega), u2_a, if_neg (by omega)]
    omega
theorem res_fx {r : Option Nat} : FxT 0 A (mRes r A) := by
  unfold mRes
  exact ⟨FxR.u (by unfold fxr; omega) (by omega), fun r k q => by rw [u2_a, if_neg (by unfold ar at q; omega)], by rw [u2_a, if_neg (by omega)], by rw [u2_a, if_neg (by omega)], fun i hi => by rw [u2_a, if_neg (by omega)], by rw [u2_a, if_neg (by omega)]; rfl⟩
theorem mMk3_0 {r : Option Nat} (h : (mMk3 r A) 0 6 = 0) : mMk3 r A = A ∧ oS r ≠ 0 := by
  unfold mMk3 at h ⊢
  split at h
  · exact (mMk_0 (by decide) h).elim
  · next q => rw [if_neg q]; exact ⟨rfl, q⟩
/-- a name that is found -/
theorem p_res {r : Option Nat} (hn : NF A) (h : oS r ≠ 0 → A 10 (A 0 5) = 2 → ∀ A', FxT 0 A A' → NF A' → A' 0 5 = A 0 5 + 1 → A' 11 (A 0 5) = oS r → F A') : PW (mTk 2 (mRes r (mMk3 r A))) F := by
  refine PW.fx (fun h0 => ?_)
  have h1 := (fx_tk (k := 2) (mRes r (mMk3 r A))).e0 h0
  have h2 := (fx_res (r := r) (A := mMk3 r A)).e0 h1
  obtain ⟨e1, e2⟩ := mMk3_0 h2
  rw [e1]
  have at1 : mRes r A 0 5 = A 0 5 := by unfold mRes; rw [u2_a, if_neg (by omega)]
  intro ht _
  unfold mTk at ht ⊢
  split at ht
  · next q =>
    rw [if_pos q]
    have k2 : A 10 (A 0 5) = 2 := by
      rw [at1] at q
      unfold mRes at q
      rw [u2_a, if_neg (by omega)] at q
      exact q
    refine h e2 k2 _ (res_fx.tr (fxt_at (by omega))) ?_ ?_ ?_
    · intro i h1 h2
      have h1 : mRes r A 0 5 + 1 ≤ i := h1
      rw [at1] at h1
      have h2 : i < mRes r A 0 4 := h2
      show 1 ≤ mRes r A 11 i ∧ mRes r A 11 i ≤ 1000
      unfold mRes at h2 ⊢
      rw [u2_a, if_neg (by omega)] at h2
      rw [u2_a, if_neg (by omega)]
      exact hn i (by omega) h2
    · show mRes r A 0 5 + 1 = _
      rw [at1]
    · show mRes r A 11 (A 0 5) = _
      unfold mRes
      rw [u2_a, if_pos ⟨rfl, rfl⟩]
  · cases ht
theorem p_who (hn : NF A) (h : ∀ A', FxT 0 A A' → NF A' → A' 0 5 = A 0 5 + 1 → hOK A' (A 0 5) → F A') : PW (mWho A) F := by
  unfold mWho
  split
  · next q =>
    refine p_tk hn (fun e f n => h _ f n (by rw [u2_a, if_pos ⟨rfl, rfl⟩]) (Or.inr ?_))
    rw [u2_a, if_neg (by omega)]; exact q
  · refine p_res hn (fun h0 k2 A' f n e1 e2 => h A' f n e1 (Or.inl ⟨?_, ?_, ?_⟩))
    · rw [f.1.1 10 _ (by unfold fxr; omega)]; exact k2
    · rw [e2]; omega
    · rw [e2, f.1.1 0 0 (by unfold fxr; omega)]
      cases hf : fW A (A 14 (A 0 5)) with
      | none => exact Nat.zero_le _
      | some k => exact fW_lt hf
theorem p_pna (hn : NF A) (h : ∀ A', FxT 0 A A' → NF A' → A' 0 5 = A 0 5 + 1 → 1 ≤ A' 11 (A 0 5) → A' 11 (A 0 5) ≤ A 0 2 → F A') : PW (mPna A) F := by
  unfold mPna
  refine p_res hn (fun h0 k2 A' f n e1 e2 => h A' f n e1 ?_ ?_)
  · rw [e2]; omega
  · rw [e2]
    cases hf : fPn A (A 14 (A 0 5)) with
    | none => exact Nat.zero_le _
    | some k => exact fPn_lt hf
theorem vOK_fx {m : Nat} {A A' : Bk} {u : Nat} (h : FxT m A A') (hu : u < A 0 5) (hv : vOK A u) : vOK A' u := by
  unfold vOK at hv ⊢
  rw [h.1.1 10 _ (by unfold fxr; omega), h.2.2.2.2.1 u hu]
  exact hv
theorem fxt_inc9 : FxT 1 A (gInc 9 A) := ⟨fx_inc (by omega), fun r k q => by unfold gInc; rw [u2_a, if_neg (by unfold ar at q; omega)], by unfold gInc; rw [u2_a, if_neg (by omega)], by unfold gInc; rw [u2_a, if_neg (by omega)], fun i _ => by unfold gInc; rw [u2_a, if_neg (by omega)], by unfold gInc; rw [u2_a, if_pos ⟨rfl, rfl⟩]⟩
/-- all tokens but the last are more than an end -/
def TkL (A : Bk) : Prop := ∀ i, i < A 0 4 → 2 ≤ A 10 i → i + 1 < A 0 4
theorem TkL.fx {A A' : Bk} (h : TkL A) (f : FxR A A') : TkL A' := by
  intro i
  rw [f.1 0 4 (by unfold fxr; omega), f.1 10 i (by unfold fxr; omega)]
  exact h i
theorem p_tk2 {k : Nat} (hk : 2 ≤ k) (hn : NF A) (hl : A 0 5 < A 0 4) (hL : TkL A) (h : ∀ A', A' = u2 A 0 5 (A 0 5 + 1) → A 10 (A 0 5) = k → FxT 0 A A' → NF A' → A' 0 5 = A 0 5 + 1 → A' 0 5 < A' 0 4 → F A') : PW (mTk k A) F :=
  p_tk hn (fun e f n => h _ rfl e f n (by rw [u2_a, if_pos ⟨rfl, rfl⟩]) (by
    rw [u2_a, if_pos ⟨rfl, rfl⟩, u2_a, if_neg (by omega)]
    exact hL _ hl (by omega)))
theorem vOK_k {u : Nat} (h : vOK A u) : 2 ≤ A 10 u := by unfold vOK at h; omega
theorem hOK_k {u : Nat} (h : hOK A u) : 2 ≤ A 10 u := by unfold hOK at h; omega
theorem p_valL (hn : NF A) (hl : A 0 5 < A 0 4) (hL : TkL A) (h : ∀ A', FxT 0 A A' → NF A' → A' 0 5 = A 0 5 + 1 → A' 0 5 < A' 0 4 → vOK A' (A 0 5) → F A') : PW (mVal A) F :=
  p_val hn hl (fun A' f n e v => h A' f n e (by
    have := vOK_k v
    rw [f.1.1 10 _ (by unfold fxr; omega)] at this
    rw [e, f.1.1 0 4 (by unfold fxr; omega)]
    exact hL _ hl this) v)
theorem p_cmp1 (hn : NF A) (hl : A 0 5 < A 0 4) (hL : TkL A) (h : ∀ A', FxT 1 A A' → NF A' → A' 0 5 = A 0 5 + 3 → A' 0 5 < A' 0 4 → vOK A' (A 0 5) → 8 ≤ A' 10 (A 0 5 + 1) → A' 10 (A 0 5 + 1) ≤ 10 → vOK A' (A 0 5 + 2) → F A') : PW (mCmp1 A) F := by
  unfold mCmp1
  refine PW.b (fun A1 => bd_fx ?_ (fun A2 => bd_fx (fx_val A2) (fun A3 => fx_inc (by omega)))) (p_valL hn hl hL (fun A1 f1 n1 e1 l1 v1 => ?_))
  · split
    · exact fx_tk A1
    · exact FxR.rf
  refine PW.b (fun A2 => bd_fx (fx_val A2) (fun A3 => fx_inc (by omega))) ?_
  split
  · next hc =>
    refine p_tk2 (by omega) n1 l1 (hL.fx f1.1) (fun A2 _ k2 f2 n2 e2 l2 => ?_)
    refine PW.b (fun A3 => fx_inc (by omega)) (p_valL n2 l2 ((hL.fx f1.1).fx f2.1) (fun A3 f3 n3 e3 l3 v3 => ?_))
    intro _ _
    have f := ((f1.tr f2).tr f3).tr (fxt_inc9 (A := A3))
    refine h _ f (n3.g (Or.inl ⟨rfl, by omega, by omega⟩)) ?_ ?_ ?_ ?_ ?_ ?_
    · show A3 0 5 = _; omega
    · exact l3
    · exact vOK_fx ((f2.tr f3).tr (fxt_inc9 (A := A3))) (by omega) v1
    · show 8 ≤ gInc 9 A3 10 (A 0 5 + 1)
      rw [f.1.1 10 _ (by unfold fxr; omega), ← f1.1.1 10 _ (by unfold fxr; omega), ← e1]; exact hc.1
    · show gInc 9 A3 10 (A 0 5 + 1) ≤ 10
      rw [f.1.1 10 _ (by unfold fxr; omega), ← f1.1.1 10 _ (by unfold fxr; omega), ← e1]; exact hc.2
    · rw [show A 0 5 + 2 = A2 0 5 by omega]; exact v3
  · intro q _; cases q
theorem cOK_fx {m : Nat} {A A' : Bk} (h : FxT m A A') : ∀ {c u : Nat}, u + 4 * c + 3 ≤ A 0 5 → cOK A c u → cOK A' c u := by
  have h10 : ∀ i, A' 10 i = A 10 i := fun i => h.1.1 10 i (by unfold fxr; omega)
  have h4 : A' 0 4 = A 0 4 := h.1.1 0 4 (by unfold fxr; omega)
  intro c
  induction c with
  | zero =>
    intro u hu hc
    unfold cOK at hc ⊢
    obtain ⟨a, b, c, d, e, g⟩ := hc
    rw [h10, h10, h4]
    exact ⟨vOK_fx h (by omega) a, b, c, vOK_fx h (by omega) d, e, g⟩
  | succ c ih =>
    intro u hu hc
    unfold cOK at hc ⊢
    obtain ⟨a, b, c1, d, e, g, i⟩ := hc
    rw [h10, h10, h4]
    exact ⟨vOK_fx h (by omega) a, b, c1, vOK_fx h (by omega) d, e, g, ih (by omega) i⟩
theorem p_cmp : ∀ {f : Nat} {A : Bk}, NF A → A 0 5 < A 0 4 → TkL A → ∀ {F : Bk → Prop}, (∀ A' c, FxT (c + 1) A A' → NF A' → A' 0 5 = A 0 5 + 4 * c + 3 → A' 0 5 < A' 0 4 → cOK A' c (A 0 5) → F A') → PW (mCmp f A) F := by
  intro f
  induction f with
  | zero => intro A _ _ _ F _ q _; cases q
  | succ f ih =>
    intro A hn hl hL F h
    unfold mCmp
    refine PW.b (fun A1 => ?_) (p_cmp1 hn hl hL (fun A1 f1 n1 e1 l1 v1 k1 k2 v2 => ?_))
    · split
      · exact (fx_tk A1).tr (fx_cmp _)
      · exact FxR.rf
    · split
      · next q =>
        have ht : (mTk 25 A1).1 = true := by unfold mTk; rw [if_pos q]
        have e2 : (mTk 25 A1).2 = u2 A1 0 5 (A1 0 5 + 1) := by unfold mTk; rw [if_pos q]
        have n2 := n1.tk ht
        rw [e2] at n2 ⊢
        have f2 := fxt_at (A := A1) (v := A1 0 5 + 1) (by omega)
        have a2 : u2 A1 0 5 (A1 0 5 + 1) 0 5 = A1 0 5 + 1 := by rw [u2_a, if_pos ⟨rfl, rfl⟩]
        have L1 := hL.fx f1.1
        have l2 : u2 A1 0 5 (A1 0 5 + 1) 0 5 < u2 A1 0 5 (A1 0 5 + 1) 0 4 := by
          rw [a2, u2_a, if_neg (by omega)]
          exact L1 _ l1 (by omega)
        generalize u2 A1 0 5 (A1 0 5 + 1) = A2 at n2 f2 a2 l2 ⊢
        refine ih n2 l2 (L1.fx f2.1) (fun A' c f3 n3 e3 l3 hc => ?_)
        have ft := (f1.tr f2).tr f3
        refine h A' (c + 1) (by rw [show c + 1 + 1 = 1 + 0 + (c + 1) by omega]; exact ft) n3 (by omega) l3 ?_
        have f23 := f2.tr f3
        have t10 : ∀ i, A' 10 i = A1 10 i := fun i => f23.1.1 10 i (by unfold fxr; omega)
        have h34 : A1 0 4 = A' 0 4 := (f23.1.1 0 4 (by unfold fxr; omega)).symm
        show vOK A' (A 0 5) ∧ _
        refine ⟨vOK_fx f23 (by omega) v1, by rw [t10]; exact k1, by rw [t10]; exact k2, vOK_fx f23 (by omega) v2, by omega, ?_, ?_⟩
        · rw [t10, ← e1]; exact q
        · rw [show A 0 5 + 4 = A2 0 5 by omega]; exact hc
      · next q =>
        intro _ _
        refine h A1 0 f1 n1 (by omega) l1 ⟨v1, k1, k2, v2, by omega, ?_⟩
        rw [← e1]; exact q
end PUR

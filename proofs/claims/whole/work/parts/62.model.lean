/-! a book read as numbers, step by step as the class reads it; what of it lies in the class's cells -/
def u2 (A : Bk) (r k v : Nat) : Bk := fun r' k' => if r' = r ∧ k' = k then v else A r' k'
theorem u2_a (A : Bk) (r k v r' k' : Nat) : u2 A r k v r' k' = if r' = r ∧ k' = k then v else A r' k' := rfl
def bd (r : Bool × Bk) (f : Bk → Bool × Bk) : Bool × Bk := if r.1 = true then f r.2 else (false, r.2)
theorem bd_t {r : Bool × Bk} {f : Bk → Bool × Bk} (h : r.1 = true) : bd r f = f r.2 := if_pos h
theorem bd_f {r : Bool × Bk} {f : Bk → Bool × Bk} (h : r.1 = false) : bd r f = (false, r.2) := if_neg (by rw [h]; decide)
def kdA (A : Bk) : Nat := A 10 (A 0 5)
def mTk (k : Nat) (A : Bk) : Bool × Bk := if A 10 (A 0 5) = k then (true, u2 A 0 5 (A 0 5 + 1)) else (false, A)
def mMk (e : Nat) (A : Bk) : Bk := if A 0 6 = 0 then u2 (u2 A 0 6 e) 0 7 (A 0 5 + 1) else A
def mOut (lo hi : Nat) (A : Bk) : Bk := if A 11 (A 0 5) - 1 < lo ∨ hi < A 11 (A 0 5) - 1 then mMk 5 A else A
def mNum (lo hi : Nat) (A : Bk) : Bool × Bk := mTk 3 (mOut lo hi A)
def mAddP (A : Bk) : Bk := if A 0 1 < 12 then u2 (u2 A 3 (A 0 1) (A 11 (A 0 5) - 1)) 0 1 (A 0 1 + 1) else A
def mPlank (A : Bk) : Bool × Bk := mNum 1 30 (mAddP (if A 0 1 < 12 then A else mMk 4 A))
def fW (A : Bk) (w : Nat) : Option Nat := fFind (fun k => decide (A 16 k = w)) (A 0 0)
def fPn (A : Bk) (w : Nat) : Option Nat := fFind (fun k => decide (A 17 k = w)) (A 0 2)
def mNewM (many : Bool) (A : Bk) : Bk := if (fW A (A 14 (A 0 5))).isSome = true ∨ (fPn A (A 14 (A 0 5))).isSome = true then mMk 2 A else if many = true then mMk 4 A else A
def mNew (many : Bool) (A : Bk) : Bool × Bk := mTk 2 (mNewM many A)
def oS : Option Nat → Nat
  | none => 0
  | some k => k + 1
def mRes (r : Option Nat) (A : Bk) : Bk := u2 A 11 (A 0 5) (oS r)
def mMk3 (r : Option Nat) (A : Bk) : Bk := if oS r = 0 then mMk 3 A else A
def mWho (A : Bk) : Bool × Bk := if 26 ≤ A 10 (A 0 5) ∧ A 10 (A 0 5) ≤ 29 then mTk (A 10 (A 0 5)) A else mTk 2 (mRes (fW A (A 14 (A 0 5))) (mMk3 (fW A (A 14 (A 0 5))) A))
def mPna (A : Bk) : Bool × Bk := mTk 2 (mRes (fPn A (A 14 (A 0 5))) (mMk3 (fPn A (A 14 (A 0 5))) A))
def mVal (A : Bk) : Bool × Bk := if 30 ≤ A 10 (A 0 5) ∧ A 10 (A 0 5) ≤ 36 then mTk (A 10 (A 0 5)) A else mTk 3 (mOut 0 99 A)
def gInc (k : Nat) (A : Bk) : Bk := u2 A 0 k (A 0 k + 1)
def mCmp1 (A : Bk) : Bool × Bk := bd (mVal A) fun A1 => bd (if 8 ≤ A1 10 (A1 0 5) ∧ A1 10 (A1 0 5) ≤ 10 then mTk (A1 10 (A1 0 5)) A1 else (false, A1)) fun A2 => bd (mVal A2) fun A3 => (true, gInc 9 A3)
def mCmp : Nat → Bk → Bool × Bk
  | 0, A => (false, A)
  | f + 1, A => bd (mCmp1 A) fun A1 => if A1 10 (A1 0 5) = 25 then mCmp f (mTk 25 A1).2 else (true, A1)
def gSet (r x v : Nat) (A : Bk) : Bk := u2 A r (x - 1) v
def gPe (x : Nat) (A : Bk) : Bk := gSet 19 x (A 0 8) A
def gEx (x : Nat) (A : Bk) : Bk := gSet 22 x (A 0 8) A
def gCs (x : Nat) (A : Bk) : Bk := gSet 20 x (A 0 9) A
def gIe (x : Nat) (A : Bk) : Bk := gSet 24 x (A 0 8) A
def gN (x : Nat) (A : Bk) : Bk := gSet 21 x (A 0 9 - A 20 (x - 1) - 1) A
def mBO (blk : Nat → Bk → Bool × Bk) (r x : Nat) (A : Bk) : Bool × Bk := ((blk x A).1, if x = 0 then (blk x A).2 else u2 (blk x A).2 r (x - 1) (if A 0 3 < (blk x A).2 0 3 then A 0 3 + 1 else 0))
def mEnd (x : Nat) (A : Bk) : Bool × Bk := mTk 6 (gPe x (gInc 8 A))
def mSend (x : Nat) (A : Bk) : Bool × Bk := bd (mTk 16 A) fun A => bd (mWho A) fun A => bd (if A 10 (A 0 5) = 17 then bd (mTk 17 A) mWho else (true, A)) (mEnd x)
def mSim (x : Nat) (A : Bk) : Bool × Bk := bd (mTk (A 10 (A 0 5)) A) fun A => bd (mVal A) (mEnd x)
def mDo (x : Nat) (A : Bk) : Bool × Bk := bd (mTk 21 A) fun A => bd (mPna A) (mEnd x)
def mWhile (blk : Nat → Bk → Bool × Bk) (x : Nat) (A : Bk) : Bool × Bk := bd (mTk 22 A) fun A => bd (mCmp 400 (gCs x A)) fun A => bd (mBO blk 8 x (gInc 8 (gN x A))) fun A => (true, gPe x (gInc 8 A))
def mElse (blk : Nat → Bk → Bool × Bk) (x : Nat) (A : Bk) : Bool × Bk := if A 10 (A 0 5) = 24 then bd (mTk 24 (gEx x (gInc 8 A))) fun A => bd (mBO blk 9 x A) fun A => (true, gPe x A) else (true, gPe x (gEx x A))
def mIf (blk : Nat → Bk → Bool × Bk) (x : Nat) (A : Bk) : Bool × Bk := bd (mTk 23 A) fun A => bd (mCmp 400 (gCs x A)) fun A => bd (mBO blk 8 x (gInc 8 (gN x A))) fun A => mElse blk x (gIe x A)
def mAct (blk : Nat → Bk → Bool × Bk) (x : Nat) (A : Bk) : Bool × Bk :=
  if A 10 (A 0 5) = 16 then mSend x A
  else if A 10 (A 0 5) = 18 ∨ A 10 (A 0 5) = 19 ∨ A 10 (A 0 5) = 20 then mSim x A
  else if A 10 (A 0 5) = 21 then mDo x A
  else if A 10 (A 0 5) = 22 then mWhile blk x A
  else if A 10 (A 0 5) = 23 then mIf blk x A
  else (false, A)
def mAddA (o : Nat) (A : Bk) : Bk := if A 0 3 < 60 then u2 (u2 (u2 (u2 (u2 (u2 (u2 (u2 (u2 A 5 (A 0 3) (A 0 5)) 6 (A 0 3) o) 7 (A 0 3) 0) 8 (A 0 3) 0) 9 (A 0 3) 0) 12 (A 0 3) (if o = 0 then 0 else A 12 (o - 1) + 1)) 13 (A 0 3) (A 0 2)) 18 (A 0 3) (A 0 8)) 0 3 (A 0 3 + 1) else mMk 4 A
def mAddX (A : Bk) : Nat := if A 0 3 < 60 then A 0 3 + 1 else 0
def mLink (last x : Nat) (A : Bk) : Bk := if last = 0 then A else u2 A 7 (last - 1) x
def mLoop (act : Nat → Bk → Bool × Bk) (o : Nat) : Nat → Nat → Bk → Bool × Bk
  | 0, _, A => mTk 5 A
  | f + 1, last, A => if A 10 (A 0 5) = 5 then mTk 5 A else bd (act (mAddX A) (mLink last (mAddX A) (mAddA o A))) (mLoop act o f (mAddX A))
def mBlk : Nat → Nat → Bk → Bool × Bk
  | 0, _, A => (false, A)
  | k + 1, o, A => bd (mTk 4 A) (mLoop (mAct (mBlk k)) o 400 0)
def mAddPl (nm a0 q0 : Nat) (A : Bk) : Bk := if A 0 2 < 6 then u2 (u2 (u2 (u2 (u2 A 17 (A 0 2) (A 14 nm)) 4 (A 0 2) (if a0 < A 0 3 then a0 + 1 else 0)) 23 (A 0 2) q0) 25 (A 0 2) (A 0 8 - 1)) 0 2 (A 0 2 + 1) else A
def mPl : Nat → Bk → Bool × Bk
  | 0, A => (true, A)
  | f + 1, A => if A 10 (A 0 5) = 15 then bd (bd (mTk 15 A) fun A1 => bd (mNew (decide (6 ≤ A1 0 2)) A1) (mBlk 3 0)) fun A3 => mPl f (mAddPl (A 0 5 + 1) (A 0 3) (A 0 8) (gInc 8 A3)) else (true, A)
def mAddW (first : Nat) (A : Bk) : Bk := if A 0 0 < 8 then u2 (u2 (u2 (u2 A 16 (A 0 0) (A 14 (first + 1))) 1 (A 0 0) (A 11 (first + 3) - 1)) 2 (A 0 0) (A 11 (first + 5) - 1)) 0 0 (A 0 0 + 1) else A
def mWk1 (A : Bk) : Bool × Bk := bd (mTk 11 A) fun A1 => bd (mNew (decide (8 ≤ A1 0 0)) A1) fun A => bd (mTk 12 A) fun A => bd (mNum 1 9 A) fun A => bd (mTk 13 A) fun A => bd (mNum 1 20 A) fun A => mTk 6 A
def mWk : Nat → Bk → Bool × Bk
  | 0, A => (true, A)
  | f + 1, A => if A 10 (A 0 5) = 11 then bd (mWk1 A) fun A1 => mWk f (mAddW (A 0 5) A1) else (true, A)
def mFin (A : Bk) : Bool × Bk := mTk 6 (if A 0 1 < 4 then mMk 5 A else A)
def mPsL : Nat → Bk → Bool × Bk
  | 0, A => mFin A
  | f + 1, A => if A 10 (A 0 5) = 7 then bd (bd (mTk 7 A) mPlank) (mPsL f) else mFin A
def mPs (A : Bk) : Bool × Bk := bd (bd (mTk 14 A) mPlank) (mPsL 400)
def mBook (A : Bk) : Bool × Bk := bd (bd (mWk 400 A) mPs) (mPl 400)
/-! where it lies -/
def lc (B r k : Nat) : Nat := if r = 0 then (if k = 4 then B + 12 else if k < 4 then B else 3) else if r = 11 then B + 15 else if r = 15 then B + 14 else if r ≤ 3 then B + r + 1 else B + r + 2
def lj (r k : Nat) : Nat := if r = 0 then (if k = 0 then 4 else if k = 1 then 6 else if k = 2 then 9 else if k = 3 then 15 else if k = 4 then 4 else if k = 5 then 2 else if k = 6 then 4 else 5) else k
def ir (r k : Nat) : Prop := (r = 0 ∧ k < 8) ∨ (1 ≤ r ∧ r ≤ 9) ∨ r = 11 ∨ r = 15
def cv (r k v : Nat) : Int32 := if (r = 0 ∧ k = 7) ∨ r = 4 ∨ (6 ≤ r ∧ r ≤ 9) ∨ r = 11 then oN v else nI v
def RI (B : Nat) (A : Bk) (st : St) : Prop := ∀ r k, ir r k → gI st (lc B r k) (lj r k) = cv r k (A r k)
theorem l_inj {B r k r' k' : Nat} (hB : 20 ≤ B) (h : ir r k) (h' : ir r' k') (e1 : lc B r' k' = lc B r k) (e2 : lj r' k' = lj r k) : r' = r ∧ k' = k := by
  unfold ir at h h'
  by_cases q : r = 0 <;> by_cases q' : r' = 0
  · subst q q'
    unfold lj at e2
    unfold lc at e1
    rw [if_pos rfl, if_pos rfl] at e1 e2
    have hk : k < 8 := by omega
    have hk' : k' < 8 := by omega
    refine ⟨rfl, ?_⟩
    have c1 : k = 0 ∨ k = 1 ∨ k = 2 ∨ k = 3 ∨ k = 4 ∨ k = 5 ∨ k = 6 ∨ k = 7 := by omega
    have c2 : k' = 0 ∨ k' = 1 ∨ k' = 2 ∨ k' = 3 ∨ k' = 4 ∨ k' = 5 ∨ k' = 6 ∨ k' = 7 := by omega
    rcases c1 with rfl | rfl | rfl | rfl | rfl | rfl | rfl | rfl <;> rcases c2 with rfl | rfl | rfl | rfl | rfl | rfl | rfl | rfl <;> first | rfl | (exfalso; simp at e1 e2; try omega)
  · exfalso
    subst q
    unfold lc at e1
    rw [if_pos rfl, if_neg q'] at e1
    (repeat' split at e1) <;> omega
  · exfalso
    subst q'
    unfold lc at e1
    rw [if_pos rfl, if_neg q] at e1
    (repeat' split at e1) <;> omega
  · unfold lj at e2
    rw [if_neg q, if_neg q'] at e2
    refine ⟨?_, e2⟩
    unfold lc at e1
    rw [if_neg q, if_neg q'] at e1
    (repeat' split at e1) <;> omega
theorem RI.u {B r k v : Nat} {A : Bk} {st : St} (h : RI B A st) (hB : 20 ≤ B) (hv : ir r k) : RI B (u2 A r k v) (uI st (lc B r k) (lj r k) (cv r k v)) := by
  intro r' k' hv'
  rw [gI_uI, u2_a]
  by_cases e : r' = r ∧ k' = k
  · obtain ⟨rfl, rfl⟩ := e
    rw [if_pos ⟨rfl, rfl⟩, if_pos ⟨rfl, rfl⟩]
  · rw [if_neg e, if_neg (fun q => e (l_inj hB hv hv' q.1 q.2))]
    exact h r' k' hv'
theorem RI.g {B r k v : Nat} {A : Bk} {st : St} (h : RI B A st) (hv : ¬ ir r k) : RI B (u2 A r k v) st := by
  intro r' k' hv'
  rw [u2_a, if_neg (fun e => hv (by rw [← e.1, ← e.2]; exact hv'))]
  exact h r' k' hv'
theorem RI.st {B : Nat} {A : Bk} {st st' : St} (h : RI B A st) (he : st'.1 = st.1) : RI B A st' := fun r k hv => by
  show st'.1 _ _ = _
  rw [he]
  exact h r k hv
/-- bounds -/
def mI (A : Bk) : Prop := A 0 0 ≤ 8 ∧ A 0 1 ≤ 12 ∧ A 0 2 ≤ 6 ∧ A 0 3 ≤ 60 ∧ A 0 4 ≤ 401 ∧ A 0 5 < A 0 4 ∧ A 0 6 ≤ 5 ∧ A 0 7 ≤ A 0 4 ∧ (∀ i, i < A 0 4 → A 10 i < 37 ∧ (2 ≤ A 10 i ↔ i + 1 ≠ A 0 4) ∧ vw (A 14 i)) ∧ (∀ k, k < A 0 0 → vw (A 16 k)) ∧ ∀ k, k < A 0 2 → vw (A 17 k)
def RJ (B : Nat) (A : Bk) (st : St) : Prop := (∀ i, i < A 0 4 → gJ st (B + 16) i = lN (gw (A 14 i))) ∧ (∀ k, k < A 0 0 → gJ st (B + 1) k = lN (gw (A 16 k))) ∧ ∀ k, k < A 0 2 → gJ st (B + 5) k = lN (gw (A 17 k))
def RKK (B : Nat) (A : Bk) (st : St) : Prop := gK st 3 3 = some (A 10 (A 0 5)) ∧ ∀ i, i < A 0 4 → gK st (B + 13) i = some (A 10 i)
def PQ (B d : Nat) : Prop := d = 3 ∨ (B ≤ d ∧ d ≤ B + 16)
def CP (s0 : St) (B : Nat) (A : Bk) (st : St) : Prop := RI B A st ∧ RJ B A st ∧ RKK B A st ∧ mI A ∧ gR st 3 0 = B + 12 ∧ gR st 3 1 = B ∧ FP (PQ B) s0 st
def NF (A : Bk) : Prop := ∀ i, A 0 5 ≤ i → i < A 0 4 → 1 ≤ A 11 i ∧ A 11 i ≤ 1000
def PO (s0 : St) (B : Nat) (Q : Int32 → St → Prop) (r : Bool × Bk) : Prop := ∀ st', CP s0 B r.2 st' → (r.1 = true → NF r.2) → Q (bI r.1) st'
section CPS
variable {s0 : St} {B : Nat} {A : Bk} {st st' : St} {Q : Int32 → St → Prop} {Qv : St → Prop} {Qk : Option Nat → St → Prop} {Qj : Int64 → St → Prop}
theorem bI_t {b : Bool} (h : ¬ bI b = 0) : b = true := (Bool.not_eq_false _).mp (fun e => h (bI0.mpr e))
theorem PO.f {r : Bool × Bk} {f : Bk → Bool × Bk} (h : PO s0 B Q (bd r f)) (e : r.1 = false) (hc : CP s0 B r.2 st) : Q 0 st := by
  rw [bd_f e] at h
  exact h st hc (fun z => by cases z)
theorem PO.t {r : Bool × Bk} {f : Bk → Bool × Bk} (h : PO s0 B Q (bd r f)) (e : r.1 = true) : PO s0 B Q (f r.2) := by
  rw [bd_t e] at h
  exact h
/-- a step, and what stands behind it -/
theorem PO.b {r : Bool × Bk} {f : Bk → Bool × Bk} {Q2 : St → Prop} (h : PO s0 B Q (bd r f)) (hk : ∀ st', r.1 = true → CP s0 B r.2 st' → NF r.2 → PO s0 B Q (f r.2) → Q2 st') : PO s0 B (fun x st' => (x = 0 → Q 0 st') ∧ (¬ x = 0 → Q2 st')) r := by
  intro st' hc hn
  exact ⟨fun q => h.f (bI0.mp q) hc, fun q => hk st' (bI_t q) hc (hn (bI_t q)) (h.t (bI_t q))⟩
theorem PO.b2 {r : Bool × Bk} {f : Bk → Bool × Bk} {Q2 : St → Prop} (h : PO s0 B Q (bd r f)) (hk : ∀ st', r.1 = true → CP s0 B r.2 st' → NF r.2 → PO s0 B Q (f r.2) → Q2 st') : PO s0 B (fun x st' => (¬ x = 0 → Q2 st') ∧ (x = 0 → Q 0 st')) r := by
  intro st' hc hn
  exact ⟨fun q => hk st' (bI_t q) hc (hn (bI_t q)) (h.t (bI_t q)), fun q => h.f (bI0.mp q) hc⟩
theorem CP.at (h : CP s0 B A st) : gI st 3 2 = nI (A 0 5) := h.1 0 5 (Or.inl ⟨rfl, by omega⟩)
theorem CP.tc (h : CP s0 B A st) : gI st (B + 12) 4 = nI (A 0 4) := h.1 0 4 (Or.inl ⟨rfl, by omega⟩)
theorem CP.er (h : CP s0 B A st) : gI st 3 4 = nI (A 0 6) := h.1 0 6 (Or.inl ⟨rfl, by omega⟩)
theorem CP.wn (h : CP s0 B A st) : gI st B 4 = nI (A 0 0) := h.1 0 0 (Or.inl ⟨rfl, by omega⟩)
theorem CP.pn (h : CP s0 B A st) : gI st B 6 = nI (A 0 1) := h.1 0 1 (Or.inl ⟨rfl, by omega⟩)
theorem CP.ln (h : CP s0 B A st) : gI st B 9 = nI (A 0 2) := h.1 0 2 (Or.inl ⟨rfl, by omega⟩)
theorem CP.an (h : CP s0 B A st) : gI st B 15 = nI (A 0 3) := h.1 0 3 (Or.inl ⟨rfl, by omega⟩)
theorem CP.nu (h : CP s0 B A st) (i : Nat) : gI st (B + 15) i = oN (A 11 i) := h.1 11 i (Or.inr (Or.inr (Or.inl rfl)))
theorem CP.po (h : CP s0 B A st) (i : Nat) : gI st (B + 14) i = nI (A 15 i) := h.1 15 i (Or.inr (Or.inr (Or.inr rfl)))
theorem CP.wd (h : CP s0 B A st) {i : Nat} (hi : i < A 0 4) : gJ st (B + 16) i = lN (gw (A 14 i)) := h.2.1.1 i hi
theorem CP.kd (h : CP s0 B A st) : gK st 3 3 = some (A 10 (A 0 5)) := h.2.2.1.1
theorem CP.mi (h : CP s0 B A st) : mI A := h.2.2.2.1
theorem CP.r0 (h : CP s0 B A st) : gR st 3 0 = B + 12 := h.2.2.2.2.1
theorem CP.r1 (h : CP s0 B A st) : gR st 3 1 = B := h.2.2.2.2.2.1
theorem CP.fr (h : CP s0 B A st) : FP (PQ B) s0 st := h.2.2.2.2.2.2
theorem mI.k37 (h : mI A) : A 10 (A 0 5) < 37 := (h.2.2.2.2.2.2.2.2.1 _ h.2.2.2.2.2.1).1
/-- a change of one int -/
theorem CP.u {r k v c j : Nat} {x : Int32} (h : CP s0 B A st) (hB : 20 ≤ B) (hv : ir r k) (hc : c = lc B r k) (hj : j = lj r k) (hx : x = cv r k v) (hm : mI (u2 A r k v)) (hr : (r = 0 → k ≠ 5 ∧ k ≠ 4 ∧ k ≠ 0 ∧ k ≠ 2)) : CP s0 B (u2 A r k v) (uI st c j x) := by
  subst hc hj hx
  obtain ⟨h1, h2, h3, h4, h5, h6, h7⟩ := h
  have hpq : PQ B (lc B r k) := by
    unfold PQ lc
    unfold ir at hv
    (repeat' split) <;> omega
  have same : ∀ r' k', (r' = 0 ∧ (k' = 5 ∨ k' = 4 ∨ k' = 0 ∨ k' = 2)) ∨ r' = 10 ∨ r' = 14 ∨ r' = 16 ∨ r' = 17 → u2 A r k v r' k' = A r' k' := by
    intro r' k' hq
    rw [u2_a, if_neg]
    rintro ⟨e1, e2⟩
    unfold ir at hv
    by_cases z : r = 0
    · have := hr z; omega
    · omega
  refine ⟨h1.u hB hv, ?_, ?_, hm, h5, h6, h7.tr (FP.uI hpq)⟩
  · unfold RJ
    rw [same 0 4 (by omega), same 0 0 (by omega), same 0 2 (by omega)]
    exact ⟨fun i hi => by rw [same 14 i (by omega)]; exact h2.1 i hi, fun i hi => by rw [same 16 i (by omega)]; exact h2.2.1 i hi, fun i hi => by rw [same 17 i (by omega)]; exact h2.2.2 i hi⟩
  · unfold RKK
    rw [same 0 4 (by omega), same 0 5 (by omega), same 10 _ (by omega)]
    exact ⟨h3.1, fun i hi => by rw [same 10 i (by omega)]; exact h3.2 i hi⟩
/-- a change that the class's cells do not show -/
theorem CP.g {r k v : Nat} (h : CP s0 B A st) (hr : (r = 0 ∧ 8 ≤ k) ∨ r = 12 ∨ r = 13 ∨ 18 ≤ r) : CP s0 B (u2 A r k v) st := by
  obtain ⟨h1, h2, h3, h4, h5, h6, h7⟩ := h
  have same : ∀ r' k', (r' = 0 ∧ k' < 8) ∨ (1 ≤ r' ∧ r' ≤ 11) ∨ (14 ≤ r' ∧ r' ≤ 17) → u2 A r k v r' k' = A r' k' := by
    intro r' k' hq
    rw [u2_a, if_neg (by omega)]
  refine ⟨h1.g (by unfold ir; omega), ?_, ?_, ?_, h5, h6, h7⟩
  · unfold RJ
    rw [same 0 4 (by omega), same 0 0 (by omega), same 0 2 (by omega)]
    exact ⟨fun i hi => by rw [same 14 i (by omega)]; exact h2.1 i hi, fun i hi => by rw [same 16 i (by omega)]; exact h2.2.1 i hi, fun i hi => by rw [same 17 i (by omega)]; exact h2.2.2 i hi⟩
  · unfold RKK
    rw [same 0 4 (by omega), same 0 5 (by omega), same 10 _ (by omega)]
    exact ⟨h3.1, fun i hi => by rw [same 10 i (by omega)]; exact h3.2 i hi⟩
  · unfold mI
    rw [same 0 0 (by omega), same 0 1 (by omega), same 0 2 (by omega), same 0 3 (by omega), same 0 4 (by omega), same 0 5 (by omega), same 0 6 (by omega), same 0 7 (by omega)]
    obtain ⟨g1, g2, g3, g4, g5, g6, g7, g8, g9, g10, g11⟩ := h4
    exact ⟨g1, g2, g3, g4, g5, g6, g7, g8, fun i hi => by rw [same 10 i (by omega), same 14 i (by omega)]; exact g9 i hi, fun i hi => by rw [same 16 i (by omega)]; exact g10 i hi, fun i hi => by rw [same 17 i (by omega)]; exact g11 i hi⟩
theorem NF.g {r k v : Nat} (h : NF A) (hr : (r = 0 ∧ k ≠ 5 ∧ k ≠ 4) ∨ (r ≠ 0 ∧ r ≠ 11)) : NF (u2 A r k v) := by
  intro i h1 h2
  rw [u2_a, if_neg (by omega)] at h1 h2
  rw [u2_a, if_neg (by omega)]
  exact h i h1 h2
/-- bounds stay where none of their numbers changes -/
theorem mI.s {r k v : Nat} (h : mI A) (hr : (r = 0 ∧ 8 ≤ k) ∨ (r ≠ 0 ∧ r ≠ 10 ∧ r ≠ 14 ∧ r ≠ 16 ∧ r ≠ 17)) : mI (u2 A r k v) := by
  have same : ∀ r' k', (r' = 0 ∧ k' < 8) ∨ r' = 10 ∨ r' = 14 ∨ r' = 16 ∨ r' = 17 → u2 A r k v r' k' = A r' k' := by
    intro r' k' hq
    rw [u2_a, if_neg (by omega)]
  unfold mI
  rw [same 0 0 (by omega), same 0 1 (by omega), same 0 2 (by omega), same 0 3 (by omega), same 0 4 (by omega), same 0 5 (by omega), same 0 6 (by omega), same 0 7 (by omega)]
  obtain ⟨g1, g2, g3, g4, g5, g6, g7, g8, g9, g10, g11⟩ := h
  exact ⟨g1, g2, g3, g4, g5, g6, g7, g8, fun i hi => by rw [same 10 i (by omega), same 14 i (by omega)]; exact g9 i hi, fun i hi => by rw [same 16 i (by omega)]; exact g10 i hi, fun i hi => by rw [same 17 i (by omega)]; exact g11 i hi⟩
/-- a number of the head changes, but the tokens', the names' -/
theorem mI.h {k v : Nat} (h : mI A) (hk : k = 1 ∨ k = 3 ∨ k = 5 ∨ k = 6 ∨ k = 7) (hv : (k = 1 → v ≤ 12) ∧ (k = 3 → v ≤ 60) ∧ (k = 5 → v < A 0 4) ∧ (k = 6 → v ≤ 5) ∧ (k = 7 → v ≤ A 0 4)) : mI (u2 A 0 k v) := by
  have same : ∀ r' k', (r' = 0 ∧ k' ≠ k) ∨ r' = 10 ∨ r' = 14 ∨ r' = 16 ∨ r' = 17 → u2 A 0 k v r' k' = A r' k' := by
    intro r' k' hq
    rw [u2_a, if_neg (by omega)]
  obtain ⟨g1, g2, g3, g4, g5, g6, g7, g8, g9, g10, g11⟩ := h
  have e0 := same 0 0 (by omega)
  have e2 := same 0 2 (by omega)
  have e4 := same 0 4 (by omega)
  have ev : ∀ k', u2 A 0 k v 0 k' = if k' = k then v else A 0 k' := fun k' => by
    rw [u2_a]
    by_cases z : k' = k
    · rw [if_pos ⟨rfl, z⟩, if_pos z]
    · rw [if_neg (fun y => z y.2), if_neg z]
  unfold mI
  rw [e0, e2, e4, ev 1, ev 3, ev 5, ev 6, ev 7]
  refine ⟨g1, by split <;> omega, g3, by split <;> omega, g5, by split <;> omega, by split <;> omega, by split <;> omega, fun i hi => by rw [same 10 i (by omega), same 14 i (by omega)]; exact g9 i hi, fun i hi => by rw [same 16 i (by omega)]; exact g10 i hi, fun i hi => by rw [same 17 i (by omega)]; exact g11 i hi⟩
theorem mI.in2 (h : mI A) (hk : 2 ≤ A 10 (A 0 5)) : A 0 5 + 1 < A 0 4 := by
  obtain ⟨g1, g2, g3, g4, g5, g6, g7, g8, g9, g10, g11⟩ := h
  exact Nat.lt_of_le_of_ne g6 ((g9 _ g6).2.1.mp hk)
end CPS

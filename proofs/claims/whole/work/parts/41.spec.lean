/-! the bridge's state as numbers, a row M: 0 lamp (1 far), 1 oil, 2 night, 3 minute, 4 over, 5 fell, 6 noted, 8.. sides, 16.. strengths, 28.. rotten, 40.. notes; what each step makes of it -/
def bI (b : Bool) : Int32 := if b = true then nI 1 else nI 0
theorem bI0 {b : Bool} : (bI b = nI 0) ↔ b = false := by cases b <;> decide
theorem bI1 {b : Bool} : (bI b = nI 1) ↔ b = true := by cases b <;> decide
theorem bI_bz {b : Bool} : bz (bI b) := by cases b; exact Or.inl rfl; exact Or.inr rfl
def oI : Option Nat → Int32
  | none => -nI 1
  | some k => nI k
def sru (M : Nat → Nat) (k s r : Nat) : Nat → Nat := fun j => if j = 28 + k then r else if j = 16 + k then s else M j
def fWeak (M : Nat → Nat) : Bool := decide (nI (M 2) - nI (M 2) / nI 3 * nI 3 = nI 2)
def fBear (M : Nat → Nat) (k : Nat) : Nat := if fWeak M = true then M (16 + k) - 3 else M (16 + k)
def fMiss (M : Nat → Nat) : Nat → Nat
  | 0 => 0
  | k + 1 => fMiss M k + (if M (16 + k) = 0 then 1 else 0)
def fPassN (M : Nat → Nat) : Nat → Bool
  | 0 => true
  | k + 1 => fPassN M k && decide (¬ (1 ≤ k ∧ M (16 + k) = 0 ∧ M (16 + k - 1) = 0))
def fWst (M : Nat → Nat) (snd : Bool) : Nat → Option Nat
  | 0 => none
  | k + 1 => if M (16 + k) = 0 ∨ (snd = true ∧ M (28 + k) = 1) then fWst M snd k else match fWst M snd k with
    | none => some k
    | some j => if M (16 + k) < M (16 + j) then some k else some j
def fRot1 (k : Nat) (M : Nat → Nat) : Nat → Nat := if M (28 + k) = 0 then M else sru M k (M (16 + k) - 1) (if M (16 + k) = 1 then 0 else 1)
def fRot (M : Nat → Nat) : Nat → Nat → Nat
  | 0 => M
  | k + 1 => fRot1 k (fRot M k)
def fMark (M : Nat → Nat) (pl : Nat) : Nat → Nat := if fWeak M = true then (match fWst M true pl with
  | none => M
  | some w => sru M w (M (16 + w)) 1) else M
def fNight (pl : Nat) (M : Nat → Nat) : Nat → Nat := fMark (fRot (up (up M 2 (M 2 + 1)) 1 60) pl) pl
def fBy (pl : Nat) : Nat → (Nat → Nat) → Nat × (Nat → Nat)
  | 0, M => (0, M)
  | f + 1, M => if M 3 < 120 then (0, M) else ((fBy pl f (fNight pl (up M 3 (M 3 - 120)))).1 + 1, (fBy pl f (fNight pl (up M 3 (M 3 - 120)))).2)
def fGo (pl min : Nat) (M : Nat → Nat) : Nat × (Nat → Nat) := fBy pl 7 (up M 3 (M 3 + min))
def fStep1 (w k : Nat) (M : Nat → Nat) : Nat → Nat := if 0 < M (16 + k) ∧ fBear M k < w then sru M k 0 0 else if 0 < M (16 + k) ∧ fBear M k < 2 * w then sru M k (if 1 < M (16 + k) - 1 then M (16 + k) - 1 else 1) (M (28 + k)) else M
def fPl (M : Nat → Nat) (pl i : Nat) : Nat := if M 0 = 0 then i else pl - 1 - i
def fSteps (w pl : Nat) : Nat → Bool → (Nat → Nat) → Bool × (Nat → Nat)
  | 0, _, M => (true, M)
  | r + 1, was, M => if decide (fStep1 w (fPl M pl (pl - (r + 1))) M (16 + fPl M pl (pl - (r + 1))) = 0) && was then (false, fStep1 w (fPl M pl (pl - (r + 1))) M) else fSteps w pl r (decide (fStep1 w (fPl M pl (pl - (r + 1))) M (16 + fPl M pl (pl - (r + 1))) = 0)) (fStep1 w (fPl M pl (pl - (r + 1))) M)
def fTakes (mi : Nat → Nat) (one : Nat) : Option Nat → Nat
  | none => mi one
  | some o => if mi one < mi o then mi o else mi one
def fLoad (wt : Nat → Nat) (one : Nat) : Option Nat → Nat
  | none => wt one
  | some o => wt one + wt o
def fThere (M : Nat → Nat) : Option Nat → Bool
  | none => true
  | some k => decide (M (8 + k) = M 0)
def fCan (pl : Nat) (mi : Nat → Nat) (one : Nat) (other : Option Nat) (M : Nat → Nat) : Bool := fThere M (some one) && (fThere M other && (fPassN M pl && (decide (fTakes mi one other ≤ M 1) && decide (M 3 + fTakes mi one other ≤ 120))))
def fOver (one : Nat) (other : Option Nat) (M : Nat → Nat) : Nat → Nat := fun j => if j = 0 then 1 - M 0 else if j = 8 + one then 1 - M 0 else if (∃ o, other = some o ∧ j = 8 + o) then 1 - M 0 else if j = 4 then M 4 + 1 else M j
def fMid (one : Nat) (other : Option Nat) (ok : Bool) (M : Nat → Nat) : Nat → Nat := if ok = true then fOver one other M else up M 5 (M 5 + 1)
def fAft (pl min one : Nat) (other : Option Nat) (ok : Bool) (M : Nat → Nat) : Nat → Nat := (fGo pl min (up (fMid one other ok M) 1 (M 1 - min))).2
def fCross (pl : Nat) (wt mi : Nat → Nat) (one : Nat) (other : Option Nat) (M : Nat → Nat) : Bool × (Nat → Nat) :=
  ((fSteps (fLoad wt one other) pl pl false M).1, fAft pl (fTakes mi one other) one other (fSteps (fLoad wt one other) pl pl false M).1 (fSteps (fLoad wt one other) pl pl false M).2)
def fNear (M : Nat → Nat) : Nat → Nat
  | 0 => 0
  | k + 1 => fNear M k + (1 - M (8 + k))
/-- a value as it is written: 0 to 99 a number, 100 to 106 a measure -/
def vI (c : Nat) : Int32 := if c < 100 then nI c else -nI (c - 99)
def fVal (nw pl : Nat) (M : Nat → Nat) (c : Nat) : Nat := if c < 100 then c else if c = 100 then fNear M nw else if c = 101 then nw - fNear M nw else if c = 102 then M 1 else if c = 103 then M 3 else if c = 104 then M 2 else if c = 105 then fMiss M pl else match fWst M false pl with
  | none => 0
  | some w => M (16 + w)
def fF0 (M : Nat → Nat) : Nat → Option Nat
  | 0 => none
  | k + 1 => match fF0 M k with
    | some j => some j
    | none => if M (16 + k) = 0 then some k else none
def fMend (pl v : Nat) (M : Nat → Nat) : Bool × (Nat → Nat) := if 1 ≤ v ∧ v ≤ 30 then (match fF0 M pl with
  | some k => (true, sru M k v 0)
  | none => (false, M)) else (false, M)
def fWrite (v : Nat) (M : Nat → Nat) : Nat → Nat := fun j => if j = 40 then v else if 41 ≤ j ∧ j < 50 then M (j - 1) else if j = 6 then M 6 + 1 else M j
/-- who is meant: 0 to 7 a walker, 8 to 11 a choice (fastest, slowest, lightest, heaviest) -/
def wI (c : Nat) : Int32 := if c < 8 then nI c else -nI (c - 6)
def fRather (wt mi : Nat → Nat) (how k j : Nat) : Bool := if how = 0 then decide (mi k < mi j) else if how = 1 then decide (mi j < mi k) else if how = 2 then decide (wt k < wt j) else decide (wt j < wt k)
def fCh (wt mi : Nat → Nat) (M : Nat → Nat) (how : Nat) (but : Option Nat) : Nat → Option Nat
  | 0 => none
  | k + 1 => if some k = but ∨ M (8 + k) ≠ M 0 then fCh wt mi M how but k else match fCh wt mi M how but k with
    | none => some k
    | some j => if fRather wt mi how k j = true then some k else some j
def fWho (nw : Nat) (wt mi : Nat → Nat) (M : Nat → Nat) (c : Nat) (but : Option Nat) : Option Nat := if c < 8 then some c else fCh wt mi M (c - 8) but nw
/-- bounds -/
def Bd (t j v : Nat) : Prop := (j = 0 → v ≤ 1) ∧ (j = 1 → v ≤ 60) ∧ (j = 3 → v < t) ∧ (8 ≤ j → j < 16 → v ≤ 1) ∧ (16 ≤ j → j < 28 → v ≤ 30) ∧ (28 ≤ j → j < 40 → v ≤ 1)
def MB (t : Nat) (M : Nat → Nat) : Prop := (∀ j, Bd t j (M j)) ∧ ∀ k, k < 12 → M (28 + k) = 1 → 1 ≤ M (16 + k)
def BB (nw pl : Nat) (wt mi : Nat → Nat) : Prop := nw ≤ 8 ∧ pl ≤ 12 ∧ ∀ k, wt k ≤ 9 ∧ mi k ≤ 20
theorem MB.st {t : Nat} {M : Nat → Nat} (h : MB t M) {k : Nat} (hk : k < 12) : M (16 + k) ≤ 30 := (h.1 (16 + k)).2.2.2.2.1 (by omega) (by omega)
theorem MB.ro {t : Nat} {M : Nat → Nat} (h : MB t M) {k : Nat} (hk : k < 12) : M (28 + k) ≤ 1 := (h.1 (28 + k)).2.2.2.2.2 (by omega) (by omega)
theorem MB.si {t : Nat} {M : Nat → Nat} (h : MB t M) {k : Nat} (hk : k < 8) : M (8 + k) ≤ 1 := (h.1 (8 + k)).2.2.2.1 (by omega) (by omega)
theorem MB.la {t : Nat} {M : Nat → Nat} (h : MB t M) : M 0 ≤ 1 := (h.1 0).1 rfl
theorem MB.oi {t : Nat} {M : Nat → Nat} (h : MB t M) : M 1 ≤ 60 := (h.1 1).2.1 rfl
theorem MB.mi {t : Nat} {M : Nat → Nat} (h : MB t M) : M 3 < t := (h.1 3).2.2.1 rfl
theorem MB.mo {t t2 : Nat} {M : Nat → Nat} (h : MB t M) (h2 : M 3 < t2) : MB t2 M := ⟨fun j => by
  have := h.1 j
  unfold Bd at this ⊢
  refine ⟨this.1, this.2.1, fun e => by subst e; exact h2, this.2.2.2⟩, h.2⟩
theorem MB.up {t : Nat} {M : Nat → Nat} (h : MB t M) {j v : Nat} (hv : Bd t j v) (hj : j < 16 ∨ 40 ≤ j) : MB t (up M j v) := by
  refine ⟨fun i => ?_, fun k hk => ?_⟩
  · rw [up_a]
    split
    · next e => rw [e]; exact hv
    · exact h.1 i
  · rw [up_a, up_a, if_neg (by omega), if_neg (by omega)]
    exact h.2 k hk
theorem MB.sr {t : Nat} {M : Nat → Nat} (h : MB t M) {k s r : Nat} (hk : k < 12) (hs : s ≤ 30) (hr : r ≤ 1) (hrs : r = 1 → 1 ≤ s) : MB t (sru M k s r) := by
  refine ⟨fun i => ?_, fun i hi => ?_⟩
  · have hi := h.1 i
    unfold sru
    unfold Bd at hi ⊢
    split
    · refine ⟨?_, ?_, ?_, ?_, ?_, ?_⟩ <;> intros <;> omega
    split
    · refine ⟨?_, ?_, ?_, ?_, ?_, ?_⟩ <;> intros <;> omega
    exact hi
  · have h2 := h.2 i hi
    unfold sru
    by_cases e : i = k
    · subst e
      rw [if_pos rfl, if_neg (by omega), if_pos rfl]
      exact hrs
    · rw [if_neg (by omega), if_neg (by omega), if_neg (by omega), if_neg (by omega)]
      exact h2

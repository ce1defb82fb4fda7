/-! where the lamp is far, somebody is far -/
def LF (nw : Nat) (M : Nat → Nat) : Prop := M 0 = 1 → ∃ k, k < nw ∧ M (8 + k) = 1
section FAR
variable {nw pl : Nat} {wt mi M M' : Nat → Nat} {A : Bk}
theorem LF.cg (h : LF nw M) (h8 : nw ≤ 8) (e : ∀ j, j = 0 ∨ (8 ≤ j ∧ j < 16) → M' j = M j) : LF nw M' := fun h0 => by
  rw [e 0 (by omega)] at h0
  obtain ⟨k, k1, k2⟩ := h h0
  exact ⟨k, k1, by rw [e _ (by omega)]; exact k2⟩
theorem LF.go {min : Nat} (h : LF nw M) (h8 : nw ≤ 8) (hp : pl ≤ 12) : LF nw (fGo pl min M).2 := h.cg h8 (fun j hj => fGo_ne hp (by omega) (by omega) (by omega) (by omega))
theorem LF.write {v : Nat} (h : LF nw M) (h8 : nw ≤ 8) : LF nw (fWrite v M) := h.cg h8 (fun j hj => by unfold fWrite; rw [if_neg (by omega), if_neg (by omega), if_neg (by omega)])
theorem LF.sr {k s r : Nat} (h : LF nw M) (h8 : nw ≤ 8) : LF nw (sru M k s r) := h.cg h8 (fun j hj => by unfold sru; rw [if_neg (by omega), if_neg (by omega)])
theorem LF.mend {v : Nat} (h : LF nw M) (h8 : nw ≤ 8) : LF nw (fMend pl v M).2 := by
  unfold fMend
  split
  · cases h0 : fF0 M pl with
    | none => exact h
    | some k => exact h.sr h8
  · exact h
theorem LF.cross {one : Nat} {other : Option Nat} (hB : BB nw pl wt mi) (hO : OK2 nw one other) (h : LF nw M) : LF nw (fCross pl wt mi one other M).2 := by
  have h8 := hB.1
  have hp := hB.2.1
  have h1 := hO.1
  unfold fCross fAft
  have st : ∀ j, j = 0 ∨ (8 ≤ j ∧ j < 16) → (fSteps (fLoad wt one other) pl pl false M).2 j = M j := fun j hj => fSteps_ne hp (by omega) (Nat.le_refl _)
  generalize fSteps (fLoad wt one other) pl pl false M = r at st
  have out : ∀ j, j = 0 ∨ (8 ≤ j ∧ j < 16) → (fGo pl (fTakes mi one other) (up (fMid one other r.1 r.2) 1 (r.2 1 - fTakes mi one other))).2 j = fMid one other r.1 r.2 j := fun j hj => by
    rw [fGo_ne hp (by omega) (by omega) (by omega) (by omega), up_a, if_neg (by omega)]
  show LF nw (fGo pl (fTakes mi one other) (up (fMid one other r.1 r.2) 1 (r.2 1 - fTakes mi one other))).2
  refine LF.cg ?_ h8 out
  unfold fMid
  cases r.1 with
  | false =>
    rw [if_neg (by decide)]
    exact h.cg h8 (fun j hj => by rw [up_a, if_neg (by omega)]; exact st j hj)
  | true =>
    rw [if_pos rfl]
    intro h0
    refine ⟨one, h1, ?_⟩
    rw [fOver_one]
    have : fOver one other r.2 0 = 1 - r.2 0 := by unfold fOver; rw [if_pos rfl]
    omega
theorem LF.snd1 {one : Nat} {other : Option Nat} (hB : BB nw pl wt mi) (hO : OK2 nw one other) (h : LF nw M) : LF nw (fSnd1 pl wt mi one other M).2 := by
  unfold fSnd1
  split
  · exact h.cross hB hO
  · exact h
theorem LF.send {c1 : Nat} {c2 : Option Nat} (hB : BB nw pl wt mi) (h1 : c1 < 8 → c1 < nw) (h2 : ∀ c, c2 = some c → c < 8 → c < nw) (h : LF nw M) : LF nw (fSend nw pl wt mi c1 c2 M).2 := by
  unfold fSend
  cases hw : fWho nw wt mi M c1 none with
  | none => exact h
  | some one =>
    have ho := fWho_lt h1 hw
    cases c2 with
    | none => exact h.snd1 hB ⟨ho, fun o e => by cases e⟩
    | some c =>
      show LF nw (match fWho nw wt mi M c (some one) with | none => (false, M) | some o => if o = one then (false, M) else fSnd1 pl wt mi one (some o) M).2
      cases hv : fWho nw wt mi M c (some one) with
      | none => exact h
      | some o =>
        have ho2 := fWho_lt (h2 c rfl) hv
        show LF nw (if o = one then (false, M) else fSnd1 pl wt mi one (some o) M).2
        split
        · exact h
        · next q => exact h.snd1 hB ⟨ho, fun o' e => by cases e; exact ⟨ho2, q⟩⟩
theorem LF.eff {a : Nat} (hB : BB (A 0 0) (A 0 1) (A 1) (A 2)) (hk : kOK A a) (h : LF (A 0 0) M) : LF (A 0 0) (fEff A a M).2 := by
  have hp := hB.2.1
  have h8 := hB.1
  unfold fEff
  split
  · next q =>
    have hh : hOK A (A 5 a + 1) ∧ (A 10 (A 5 a + 2) = 17 → hOK A (A 5 a + 3)) := by
      rcases hk with ⟨_, h1, h2⟩ | ⟨h1 | h1 | h1, _⟩ | ⟨h1, _⟩ | ⟨h1 | h1, _⟩
      · exact ⟨h1, h2⟩
      all_goals omega
    refine h.send hB (fWc_lt h8 hh.1).2 (fun c e => ?_)
    unfold fWith at e
    split at e
    · next q2 => cases e; exact (fWc_lt h8 (hh.2 q2)).2
    · cases e
  split
  · exact h.go h8 hp
  split
  · exact h.write h8
  split
  · exact h.mend h8
  · exact h
theorem LF.perf (hO : bOK A) (hB : BB (A 0 0) (A 0 1) (A 1) (A 2)) : ∀ (f x dp : Nat) (op : Nat → Nat) (done : Nat) (M : Nat → Nat), LI A x dp op → LF (A 0 0) M → LF (A 0 0) (fPerf A f x dp op done M).2 := by
  intro f
  induction f with
  | zero => intro x dp op done M _ h; exact h
  | succ f ih =>
    intro x dp op done M hL h
    unfold fPerf
    split
    · exact h
    split
    · split
      · exact h
      · next q => exact ih _ _ _ _ _ (hL.pop hO q) h
    · next q100 qx =>
      have hk : kOK A (x - 1) := by
        rcases hL.1 with e | e
        · exact absurd e qx
        · exact (hO.2.2.2.2.2.2 _ e.1).2.2.2.2.2.2.2.2
      have hE := h.eff hB hk
      have hN := hL.next (M := M) hO qx
      split
      · unfold fDp fOp at hN
        split
        · next q => rw [if_pos q, if_pos q] at hN; exact ih _ _ _ _ _ hN hE
        · next q => rw [if_neg q, if_neg q] at hN; exact ih _ _ _ _ _ hN hE
      · exact h
theorem LF.runP {p : Nat} (hO : bOK A) (hB : BB (A 0 0) (A 0 1) (A 1) (A 2)) (hp : p < A 0 2) (h : LF (A 0 0) M) : LF (A 0 0) (fRunP A p M).2 := LF.perf hO hB 1000 _ _ _ _ _ (LI.first hO hp) h
end FAR

/-! the reference's reader: planks -/
section MPK
variable {n : Nat} {tp : Nat → Nat} {s0 : St} {P : Nat → Prop} {op : Nat → Prop} {q0 c0 : Nat} {g0 h0 : Nat → Int32} {pd : Nat} {ph : Bool} {z k y : Nat} {A : Bk} {st st' : St} {Q : Int32 → St → Prop} {Qv : St → Prop}
/-- a plank's strength is written, and counted -/
theorem RP.pl {v : Nat} {s1 s2 : St} (hP : P 70 ∧ P 73) (hv : v = A 11 (A 0 5) - 1) (h : RP n tp s0 P op q0 c0 g0 h0 pd ph z k A st) (e1 : s1 = uI st 73 (A 0 1) (nI v)) (e2 : s2 = if A 0 1 < 12 then uI s1 70 1 (nI (A 0 1 + 1)) else s1) : RP n tp s0 P op q0 c0 g0 h0 pd ph z k (mAddP A) s2 := by
  obtain ⟨⟨t1, t2, t3⟩, l, ⟨k1, k2, k3, k4, k5⟩, ⟨a1, a2, a3, a4, a5, a6⟩, c3, c4, c5, c6⟩ := h
  have s : ∀ r j, (r ≠ 0 ∨ j ≠ 1) → (r ≠ 3 ∨ j ≠ A 0 1) → mAddP A r j = A r j := fun r j w1 w2 => by
    unfold mAddP
    split
    · rw [u2_a, if_neg (by omega), u2_a, if_neg (by omega)]
    · rfl
  have v1 : mAddP A 0 1 = if A 0 1 < 12 then A 0 1 + 1 else A 0 1 := by
    unfold mAddP
    split
    · rw [u2_a, if_pos ⟨rfl, rfl⟩]
    · rfl
  have v3 : A 0 1 < 12 → mAddP A 3 (A 0 1) = v := fun w => by
    unfold mAddP
    rw [if_pos w, u2_a, if_neg (by omega), u2_a, if_pos ⟨rfl, rfl⟩, hv]
  have o' : ∀ d i, (d ≠ 70 ∨ i ≠ 1) → (d ≠ 73 ∨ i ≠ A 0 1) → gI s2 d i = gI st d i := fun d i w1 w2 => by
    rw [e2]
    split
    · rw [gI_uI, if_neg (by omega), e1, gI_uI, if_neg (by omega)]
    · rw [e1, gI_uI, if_neg (by omega)]
  have g1 : gI s2 70 1 = nI (mAddP A 0 1) := by
    rw [e2, v1]
    split
    · rw [gI_uI, if_pos ⟨rfl, rfl⟩]
    · rw [e1, gI_uI, if_neg (by omega)]; exact a2
  have g73 : gI s2 73 (A 0 1) = nI v := by
    rw [e2]
    split
    · rw [gI_uI, if_neg (by omega), e1, gI_uI, if_pos ⟨rfl, rfl⟩]
    · rw [e1, gI_uI, if_pos ⟨rfl, rfl⟩]
  have J : s2.2 = st.2 := by
    rw [e2]
    split
    · rw [e1]; rfl
    · rw [e1]; rfl
  have F1 : FP (fun d => d = 70 ∨ d = 73) st s2 := by
    rw [e2]
    split
    · rw [e1]; exact (FP.uI (P := fun d => d = 70 ∨ d = 73) (Or.inr rfl)).tr (FP.uI (P := fun d => d = 70 ∨ d = 73) (Or.inl rfl))
    · rw [e1]; exact FP.uI (P := fun d => d = 70 ∨ d = 73) (Or.inr rfl)
  clear e1 e2
  have s0' : ∀ j, j ≠ 1 → mAddP A 0 j = A 0 j := fun j w => s 0 j (by omega) (by omega)
  refine ⟨⟨?_, ?_, t3.tr (F1.mo (fun d hd => by rcases hd with rfl | rfl; exact hP.1; exact hP.2))⟩, ?_, ⟨by rw [s0' 0 (by omega)]; exact k1, by rw [v1]; split <;> omega, by rw [s0' 2 (by omega)]; exact k3, by rw [s0' 3 (by omega)]; exact k4, by rw [s0' 8 (by omega), s0' 9 (by omega), s0' 5 (by omega)]; exact k5⟩, ?_, ?_, ?_, ?_, fun e => ?_⟩
  · exact ⟨(o' 54 2 (by omega) (by omega)).trans t1.1, t1.2.1, fun i hi => (o' 55 i (by omega) (by omega)).trans (t1.2.2.1 i hi), t1.2.2.2⟩
  · rw [s0' 5 (by omega)]
    obtain ⟨r1, r2, r3, r4, r5, r6⟩ := t2
    refine ⟨(o' 68 6 (by omega) (by omega)).trans r1, (o' 68 7 (by omega) (by omega)).trans r2, fun w => (o' 68 8 (by omega) (by omega)).trans (r3 w), fun w => ?_, (o' 68 10 (by omega) (by omega)).trans r5, fun w => (o' 68 5 (by omega) (by omega)).trans (r6 w)⟩
    show s2.2.1 68 9 = _
    rw [J]; exact r4 w
  · unfold KT
    rw [s0' 5 (by omega), s0' 4 (by omega)]
    exact ⟨l.1, l.2.1, fun i hi => by rw [s 10 i (by omega) (by omega), s 14 i (by omega) (by omega)]; exact l.2.2.1 i hi, fun i h1 h2 => by rw [s 11 i (by omega) (by omega)]; exact l.2.2.2 i h1 h2⟩
  · unfold CN
    rw [s0' 0 (by omega), s0' 2 (by omega), s0' 3 (by omega), s0' 8 (by omega), s0' 9 (by omega)]
    exact ⟨(o' 70 0 (by omega) (by omega)).trans a1, g1, (o' 70 2 (by omega) (by omega)).trans a3, (o' 70 3 (by omega) (by omega)).trans a4, (o' 70 9 (by omega) (by omega)).trans a5, (o' 70 11 (by omega) (by omega)).trans a6⟩
  · unfold FLt
    rw [s0' 6 (by omega), s0' 7 (by omega), s0' 5 (by omega), o' 68 11 (by omega) (by omega), o' 68 12 (by omega) (by omega)]; exact c3
  · unfold NMs
    rw [s0' 6 (by omega), s0' 0 (by omega), s0' 2 (by omega), o' 68 2 (by omega) (by omega), o' 68 3 (by omega) (by omega), o' 68 4 (by omega) (by omega)]; exact c4
  · unfold ANc
    rw [s0' 8 (by omega), s0' 9 (by omega)]
    exact ⟨fun i hi => by rw [o' 75 i (by omega) (by omega)]; exact c5.1 i hi, c5.2.1, fun i hi => by rw [o' 76 i (by omega) (by omega)]; exact c5.2.2.1 i hi, c5.2.2.2⟩
  · rw [s0' 6 (by omega)] at e
    obtain ⟨b1, b2, b3, b4, b5, b6, b7⟩ := c6 e
    have Jj : ∀ i, gJ s2 69 i = gJ st 69 i := fun i => by show s2.2.1 69 i = _; rw [J]; rfl
    unfold RD
    rw [s0' 0 (by omega), s0' 2 (by omega), s0' 8 (by omega), s0' 3 (by omega)]
    refine ⟨fun k hk => by rw [Jj, s 16 k (by omega) (by omega)]; exact b1 k hk, fun k hk => by rw [Jj, s 17 k (by omega) (by omega)]; exact b2 k hk, fun k hk => by rw [o' 71 k (by omega) (by omega), o' 72 k (by omega) (by omega), s 1 k (by omega) (by omega), s 2 k (by omega) (by omega)]; exact b3 k hk, fun k hk => ?_, fun k w1 w2 => ?_, fun p hp => ?_, fun a ha ho => ?_⟩
    · by_cases w : k = A 0 1
      · rw [v1] at hk
        have w12 : A 0 1 < 12 := by
          apply Decidable.byContradiction
          intro w'
          rw [if_neg w'] at hk
          omega
        rw [w, g73, v3 w12]
      · rw [o' 73 k (by omega) (by omega), s 3 k (by omega) (by omega)]
        refine b4 k ?_
        rw [v1] at hk
        split at hk <;> omega
    · rw [v1] at w1
      have w3 : k ≠ A 0 1 := by split at w1 <;> omega
      rw [o' 73 k (by omega) (by omega)]
      exact b5 k (by split at w1 <;> omega) w2
    · rw [o' 74 p (by omega) (by omega), s 23 p (by omega) (by omega), s 25 p (by omega) (by omega), o' 75 _ (by omega) (by omega)]; exact b6 p hp
    · exact (b7 a ha ho).fx (fun i => s 10 i (by omega) (by omega)) (fun r hr _ => s r a (by unfold ar at hr; omega) (by unfold ar at hr; omega)) (fun i _ => s 11 i (by omega) (by omega)) (Nat.le_of_eq (s0' 5 (by omega)).symm) (Nat.le_of_eq (s0' 8 (by omega)).symm) (Nat.le_of_eq (s0' 9 (by omega)).symm) (fun i _ _ => o' 75 i (by omega) (by omega)) (fun i _ => o' 76 i (by omega) (by omega))
end MPK

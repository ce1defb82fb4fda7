/-! the reference's reader: acts of all kinds, blocks -/
theorem act_code : ∀ a, a < 37 → ((a = 16 ∨ a = 18 ∨ a = 19 ∨ a = 20 ∨ a = 21 ∨ a = 22 ∨ a = 23) → ¬ nI (rkd a) < 205 ∧ ¬ (212 : Int32) < nI (rkd a) ∧ ¬ nI (rkd a) = 206 ∧ nI (rkd a) = nI (189 + a)) ∧ (¬ (a = 16 ∨ a = 18 ∨ a = 19 ∨ a = 20 ∨ a = 21 ∨ a = 22 ∨ a = 23) → nI (rkd a) < 205 ∨ (212 : Int32) < nI (rkd a) ∨ nI (rkd a) = 206) := by decide +kernel
section MBK
variable {n : Nat} {tp : Nat → Nat} {s0 : St} {P : Nat → Prop} {op : Nat → Prop} {q0 c0 : Nat} {g0 h0 : Nat → Int32} {pd : Nat} {ph : Bool} {z k y : Nat} {A : Bk} {st st' : St} {Q : Int32 → St → Prop} {Qv : St → Prop}
/-- the place of the next act changes -/
theorem RP.lk {last x : Nat} (h : RP n tp s0 P op q0 c0 g0 h0 pd ph z k A st) : RP n tp s0 P op q0 c0 g0 h0 pd ph z k (mLink last x A) st := by
  unfold mLink
  split
  · exact h
  · obtain ⟨t, l, c1, c2, c3, c4, c5, c6⟩ := h
    refine ⟨t, l, c1, c2, c3, c4, c5, fun e => ?_⟩
    obtain ⟨b1, b2, b3, b4, b5, b6, b7⟩ := c6 e
    exact ⟨b1, b2, b3, b4, b5, b6, fun a ha ho => (b7 a ha ho).fx (A' := u2 A 7 (last - 1) x) (fun _ => rfl) (fun r _ h7 => by rw [u2_a, if_neg (by omega)]) (fun _ _ => rfl) (Nat.le_refl _) (Nat.le_refl _) (Nat.le_refl _) (fun _ _ _ => rfl) (fun _ _ => rfl)⟩
/-- an act is begun -/
theorem RP.add {o : Nat} {s1 : St} (hP : P 70) (h60 : A 0 3 < 60) (hy : y = A 0 3) (h : RP n tp s0 P op q0 c0 g0 h0 pd ph z k A st) (e1 : s1 = uI st 70 3 (nI (A 0 3 + 1))) : RP n tp s0 P (fun a => op a ∨ a = y) q0 c0 g0 h0 pd ph z k (mAddA o A) s1 := by
  obtain ⟨⟨t1, t2, t3⟩, l, ⟨k1, k2, k3, k4, k5⟩, ⟨a1, a2, a3, a4, a5, a6⟩, c3, c4, c5, c6⟩ := h
  have v3 := (addA_v (o := o) h60).2.2.2.2.2.2.2.2
  have s : ∀ r k, (r ≠ 0 ∨ k ≠ 3) ∧ (k ≠ A 0 3 ∨ ¬ ((5 ≤ r ∧ r ≤ 9) ∨ r = 12 ∨ r = 13 ∨ r = 18)) → mAddA o A r k = A r k := fun r k w => addA_s h60 w
  have s0' : ∀ k, k ≠ 3 → mAddA o A 0 k = A 0 k := fun k w => s 0 k (by omega)
  have o' : ∀ d i, (d ≠ 70 ∨ i ≠ 3) → gI s1 d i = gI st d i := fun d i w => by rw [e1, gI_uI, if_neg (by omega)]
  have J : s1.2 = st.2 := by rw [e1]; rfl
  have F1 : FP (fun d => d = 70) st s1 := by rw [e1]; exact FP.uI (P := fun d => d = 70) rfl
  have g3 : gI s1 70 3 = nI (A 0 3 + 1) := by rw [e1, gI_uI, if_pos ⟨rfl, rfl⟩]
  clear e1
  refine ⟨⟨?_, ?_, t3.tr (F1.mo (fun d hd => by rw [hd]; exact hP))⟩, ?_, ⟨by rw [s0' 0 (by omega)]; exact k1, by rw [s0' 1 (by omega)]; exact k2, by rw [s0' 2 (by omega)]; exact k3, by omega, by rw [s0' 8 (by omega), s0' 9 (by omega), s0' 5 (by omega)]; exact k5⟩, ?_, ?_, ?_, ?_, fun e => ?_⟩
  · exact ⟨(o' 54 2 (by omega)).trans t1.1, t1.2.1, fun i hi => (o' 55 i (by omega)).trans (t1.2.2.1 i hi), t1.2.2.2⟩
  · rw [s0' 5 (by omega)]
    obtain ⟨r1, r2, r3, r4, r5, r6⟩ := t2
    refine ⟨(o' 68 6 (by omega)).trans r1, (o' 68 7 (by omega)).trans r2, fun w => (o' 68 8 (by omega)).trans (r3 w), fun w => ?_, (o' 68 10 (by omega)).trans r5, fun w => (o' 68 5 (by omega)).trans (r6 w)⟩
    show s1.2.1 68 9 = _
    rw [J]; exact r4 w
  · unfold KT
    rw [s0' 5 (by omega), s0' 4 (by omega)]
    exact ⟨l.1, l.2.1, fun i hi => by rw [s 10 i (by omega), s 14 i (by omega)]; exact l.2.2.1 i hi, fun i h1 h2 => by rw [s 11 i (by omega)]; exact l.2.2.2 i h1 h2⟩
  · unfold CN
    rw [s0' 0 (by omega), s0' 1 (by omega), s0' 2 (by omega), v3, s0' 8 (by omega), s0' 9 (by omega)]
    exact ⟨(o' 70 0 (by omega)).trans a1, (o' 70 1 (by omega)).trans a2, (o' 70 2 (by omega)).trans a3, g3, (o' 70 9 (by omega)).trans a5, (o' 70 11 (by omega)).trans a6⟩
  · unfold FLt
    rw [s0' 6 (by omega), s0' 7 (by omega), s0' 5 (by omega), o' 68 11 (by omega), o' 68 12 (by omega)]; exact c3
  · unfold NMs
    rw [s0' 6 (by omega), s0' 0 (by omega), s0' 2 (by omega), o' 68 2 (by omega), o' 68 3 (by omega), o' 68 4 (by omega)]; exact c4
  · unfold ANc
    rw [s0' 8 (by omega), s0' 9 (by omega)]
    exact ⟨fun i hi => by rw [o' 75 i (by omega)]; exact c5.1 i hi, c5.2.1, fun i hi => by rw [o' 76 i (by omega)]; exact c5.2.2.1 i hi, c5.2.2.2⟩
  · rw [s0' 6 (by omega)] at e
    obtain ⟨b1, b2, b3, b4, b5, b6, b7⟩ := c6 e
    have Jj : ∀ i, gJ s1 69 i = gJ st 69 i := fun i => by show s1.2.1 69 i = _; rw [J]; rfl
    unfold RD
    rw [s0' 0 (by omega), s0' 1 (by omega), s0' 2 (by omega), s0' 8 (by omega), v3]
    refine ⟨fun k hk => by rw [Jj, s 16 k (by omega)]; exact b1 k hk, fun k hk => by rw [Jj, s 17 k (by omega)]; exact b2 k hk, fun k hk => by rw [o' 71 k (by omega), o' 72 k (by omega), s 1 k (by omega), s 2 k (by omega)]; exact b3 k hk, fun k hk => by rw [o' 73 k (by omega), s 3 k (by omega)]; exact b4 k hk, fun k w1 w2 => by rw [o' 73 k (by omega)]; exact b5 k w1 w2, fun p hp => ?_, fun a ha ho => ?_⟩
    · rw [o' 74 p (by omega), s 23 p (by omega), s 25 p (by omega), o' 75 _ (by omega)]; exact b6 p hp
    · have hne : a ≠ A 0 3 := fun w => ho (Or.inr (by omega))
      refine (b7 a (by omega) (fun w => ho (Or.inl w))).fx (fun i => s 10 i (by omega)) (fun r hr _ => s r a (by unfold ar at hr; omega)) (fun i _ => s 11 i (by omega)) (Nat.le_of_eq (s0' 5 (by omega)).symm) (Nat.le_of_eq (s0' 8 (by omega)).symm) (Nat.le_of_eq (s0' 9 (by omega)).symm) (fun i _ _ => o' 75 i (by omega)) (fun i _ => o' 76 i (by omega))
theorem rb_1 (hP : P 68) : SBk n tp s0 P pd ph (fun st Q => wX11_block_1 68 (nI 3 + 1) st Q) (mBlk 0) 3 := by
  intro op q0 c0 g0 h0 k o A st Q _ _ _ h hq
  show wX11_block_1 68 (nI 3 + 1) st Q
  unfold wX11_block_1 wX11_block_1_L14
  have w : ∀ {Q : Int32 → St → Prop}, (∀ s1, RF n tp s0 P A s1 → Q 0 s1) → wX11_wrong 68 st Q := fun hh => r_wr hP h hh
  refine ⟨fun _ => w (fun s1 h1 => hq.2 rfl s1 h1), fun _ => ⟨fun q => absurd q (by decide), fun _ => w (fun s1 h1 => hq.2 rfl s1 h1)⟩⟩
end MBK

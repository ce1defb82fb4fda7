/-! the reference's reader: planks -/
section MPK
variable {n : Nat} {tp : Nat → Nat} {s0 : St} {P : Nat → Prop} {op : Nat → Prop} {q0 c0 : Nat} {g0 h0 : Nat → Int32} {pd : Nat} {ph : Bool} {z k y : Nat} {A : Bk} {st st' : St} {Q : Int32 → St → Prop} {Qv : St → Prop}
/-- a plank's strength is written, and counted -/
theorem RP.pl {v : Nat} {s1 s2 : St} (hP : P 70 ∧ P 73) (hv : v = A 11 (A 0 5) - 1) (h : RP n tp s0 P op q0 c0 g0 h0 pd ph z k A st) (e1 : s1 = uI st 73 (A 0 1) (nI v)) (e2 : s2 = if A 0 1 < 12 then uI s1 70 1 (nI (A 0 1 + 1)) else s1) : RP n tp s0 P op q0 c0 g0 h0 pd ph z k (mAddP A) s2 := by
  obtain ⟨⟨t1, t2, t3⟩, l, ⟨k1, k2, k3, k4, k5⟩, ⟨a1, a2, a3, a4, a5, a6⟩, c3, c4, c5, c6⟩ := h
  have s : ∀ r j, (r ≠ 0 ∨ j ≠ 1) → (r ≠ 3 ∨ j ≠ A 0 1) → mAddP A r j = A r j := fun r j w1 w2 => by
    unfold mAddP
    split
    · rw [u2_a, if_neg (by omega), u2_a, if_neg (by omega)]
    · rfl
  have v1 : mAddP A 0 1 = if A 0 1 < 12 then A 0 1 + 1 else A 0 1 := by
    unfold mAddP
    split
    · rw [u2_a, if_pos ⟨rfl, rfl⟩]
    · rfl
  have v3 : A 0 1 < 12 → mAddP A 3 (A 0 1) = v := fun w => by
    unfold mAddP
    rw [if_pos w, u2_a, if_neg (by omega), u2_a, if_pos ⟨rfl, rfl⟩, hv]
  have o' : ∀ d i, (d ≠ 70 ∨ i ≠ 1) → (d ≠ 73 ∨ i ≠ A 0 1) → gI s2 d i = gI st d i := fun d i w1 w2 => by
    rw [e2]
    split
    · rw [gI_uI, if_neg (by omega), e1, gI_uI, if_neg (by omega)]
    · rw [e1, gI_uI, if_neg (by omega)]
  have g1 : gI s2 70 1 = nI (mAddP A 0 1) := by
    rw [e2, v1]
    split
    · rw [gI_uI, if_pos ⟨rfl, rfl⟩]
    · rw [e1, gI_uI, if_neg (by omega)]; exact a2
  have g73 : gI s2 73 (A 0 1) = nI v := by
    rw [e2]
    split
    · rw [gI_uI, if_neg (by omega), e1, gI_uI, if_pos ⟨rfl, rfl⟩]
    · rw [e1, gI_uI, if_pos ⟨rfl, rfl⟩]
  have J : s2.2 = st.2 := by
    rw [e2]
    split
    · rw [e1]; rfl
    · rw [e1]; rfl
  have F1 : FQ (fun d => d = 70 ∨ d = 73) st s2 := by
    rw [e2]
    split
    · rw [e1]; exact (FQ.uI (P := fun d => d = 70 ∨ d = 73) (Or.inr rfl)).tr (FQ.uI (P := fun d => d = 70 ∨ d = 73) (Or.inl rfl))
    · rw [e1]; exact FQ.uI (P := fun d => d = 70 ∨ d = 73) (Or.inr rfl)
  clear e1 e2
  have s0' : ∀ j, j ≠ 1 → mAddP A 0 j = A 0 j := fun j w => s 0 j (by omega) (by omega)
  refine ⟨⟨?_, ?_, t3.tr (F1.mo (fun d hd => by rcases hd with rfl | rfl; exact hP.1; exact hP.2))⟩, ?_, ⟨by rw [s0' 0 (by omega)]; exact k1, by rw [v1]; split <;> omega, by rw [s0' 2 (by omega)]; exact k3, by rw [s0' 3 (by omega)]; exact k4, by rw [s0' 8 (by omega), s0' 9 (by omega), s0' 5 (by omega)]; exact k5⟩, ?_, ?_, ?_, ?_, fun e => ?_⟩
  · exact ⟨(o' 54 2 (by omega) (by omega)).trans t1.1, t1.2.1, fun i hi => (o' 55 i (by omega) (by omega)).trans (t1.2.2.1 i hi), t1.2.2.2⟩
  · rw [s0' 5 (by omega)]
    obtain ⟨r1, r2, r3, r4, r5, r6⟩ := t2
    refine ⟨(o' 68 6 (by omega) (by omega)).trans r1, (o' 68 7 (by omega) (by omega)).trans r2, fun w => (o' 68 8 (by omega) (by omega)).trans (r3 w), fun w => ?_, (o' 68 10 (by omega) (by omega)).trans r5, fun w => (o' 68 5 (by omega) (by omega)).trans (r6 w)⟩
    show s2.2.1 68 9 = _
    rw [J]; exact r4 w
  · unfold KT
    rw [s0' 5 (by omega), s0' 4 (by omega)]
    exact ⟨l.1, l.2.1, fun i hi => by rw [s 10 i (by omega) (by omega), s 14 i (by omega) (by omega)]; exact l.2.2.1 i hi, fun i h1 h2 => by rw [s 11 i (by omega) (by omega)]; exact l.2.2.2 i h1 h2⟩
  · unfold CN
    rw [s0' 0 (by omega), s0' 2 (by omega), s0' 3 (by omega), s0' 8 (by omega), s0' 9 (by omega)]
    exact ⟨(o' 70 0 (by omega) (by omega)).trans a1, g1, (o' 70 2 (by omega) (by omega)).trans a3, (o' 70 3 (by omega) (by omega)).trans a4, (o' 70 9 (by omega) (by omega)).trans a5, (o' 70 11 (by omega) (by omega)).trans a6⟩
  · unfold FLt
    rw [s0' 6 (by omega), s0' 7 (by omega), s0' 5 (by omega), o' 68 11 (by omega) (by omega), o' 68 12 (by omega) (by omega)]; exact c3
  · unfold NMs
    rw [s0' 6 (by omega), s0' 0 (by omega), s0' 2 (by omega), o' 68 2 (by omega) (by omega), o' 68 3 (by omega) (by omega), o' 68 4 (by omega) (by omega)]; exact c4
  · unfold ANc
    rw [s0' 8 (by omega), s0' 9 (by omega)]
    exact ⟨fun i hi => by rw [o' 75 i (by omega) (by omega)]; exact c5.1 i hi, c5.2.1, fun i hi => by rw [o' 76 i (by omega) (by omega)]; exact c5.2.2.1 i hi, c5.2.2.2⟩
  · rw [s0' 6 (by omega)] at e
    obtain ⟨b1, b2, b3, b4, b5, b6, b7⟩ := c6 e
    have Jj : ∀ i, gJ s2 69 i = gJ st 69 i := fun i => by show s2.2.1 69 i = _; rw [J]; rfl
    unfold RD
    rw [s0' 0 (by omega), s0' 2 (by omega), s0' 8 (by omega), s0' 3 (by omega)]
    refine ⟨fun k hk => by rw [Jj, s 16 k (by omega) (by omega)]; exact b1 k hk, fun k hk => by rw [Jj, s 17 k (by omega) (by omega)]; exact b2 k hk, fun k hk => by rw [o' 71 k (by omega) (by omega), o' 72 k (by omega) (by omega), s 1 k (by omega) (by omega), s 2 k (by omega) (by omega)]; exact b3 k hk, fun k hk => ?_, fun k w1 w2 => ?_, fun p hp => ?_, fun a ha ho => ?_⟩
    · by_cases w : k = A 0 1
      · rw [v1] at hk
        have w12 : A 0 1 < 12 := by
          apply Decidable.byContradiction
          intro w'
          rw [if_neg w'] at hk
          omega
        rw [w, g73, v3 w12]
      · rw [o' 73 k (by omega) (by omega), s 3 k (by omega) (by omega)]
        refine b4 k ?_
        rw [v1] at hk
        split at hk <;> omega
    · rw [v1] at w1
      have w3 : k ≠ A 0 1 := by split at w1 <;> omega
      rw [o' 73 k (by omega) (by omega)]
      exact b5 k (by split at w1 <;> omega) w2
    · rw [o' 74 p (by omega) (by omega), s 23 p (by omega) (by omega), s 25 p (by omega) (by omega), o' 75 _ (by omega) (by omega)]; exact b6 p hp
    · exact (b7 a ha ho).fx (fun i => s 10 i (by omega) (by omega)) (fun r hr _ => s r a (by unfold ar at hr; omega) (by unfold ar at hr; omega)) (fun i _ => s 11 i (by omega) (by omega)) (Nat.le_of_eq (s0' 5 (by omega)).symm) (Nat.le_of_eq (s0' 8 (by omega)).symm) (Nat.le_of_eq (s0' 9 (by omega)).symm) (fun i _ _ => o' 75 i (by omega) (by omega)) (fun i _ => o' 76 i (by omega) (by omega))
theorem mMk_addP {e : Nat} : mMk e (mAddP A) = mAddP (mMk e A) := by
  by_cases h6 : A 0 6 = 0
  · have a6 : mAddP A 0 6 = 0 := by rw [addP_6]; exact h6
    have m1 : mMk e A = u2 (u2 A 0 6 e) 0 7 (A 0 5 + 1) := by unfold mMk; rw [if_pos h6]
    have a5 : mAddP A 0 5 = A 0 5 := by
      unfold mAddP
      split
      · rw [u2_a, if_neg (by omega), u2_a, if_neg (by omega)]
      · rfl
    have m2 : mMk e (mAddP A) = u2 (u2 (mAddP A) 0 6 e) 0 7 (A 0 5 + 1) := by unfold mMk; rw [if_pos a6, a5]
    rw [m1, m2]
    by_cases h : A 0 1 < 12
    · have q1 : mAddP A = u2 (u2 A 3 (A 0 1) (A 11 (A 0 5) - 1)) 0 1 (A 0 1 + 1) := by unfold mAddP; rw [if_pos h]
      have q2 : mAddP (u2 (u2 A 0 6 e) 0 7 (A 0 5 + 1)) = u2 (u2 (u2 (u2 A 0 6 e) 0 7 (A 0 5 + 1)) 3 (A 0 1) (A 11 (A 0 5) - 1)) 0 1 (A 0 1 + 1) := by
        unfold mAddP
        exact if_pos h
      rw [q1, q2]
      rw [u2_cm (r1 := 0) (k1 := 1) (r2 := 0) (k2 := 6) (by omega), u2_cm (r1 := 0) (k1 := 1) (r2 := 0) (k2 := 7) (by omega), u2_cm (r1 := 3) (r2 := 0) (k2 := 6) (by omega), u2_cm (r1 := 3) (r2 := 0) (k2 := 7) (by omega)]
    · have q1 : mAddP A = A := by unfold mAddP; rw [if_neg h]
      have q2 : mAddP (u2 (u2 A 0 6 e) 0 7 (A 0 5 + 1)) = u2 (u2 A 0 6 e) 0 7 (A 0 5 + 1) := by
        unfold mAddP
        exact if_neg h
      rw [q1, q2]
  · have a6 : mAddP A 0 6 ≠ 0 := by rw [addP_6]; exact h6
    have m1 : mMk e A = A := by unfold mMk; rw [if_neg h6]
    have m2 : mMk e (mAddP A) = mAddP A := by unfold mMk; rw [if_neg a6]
    rw [m1, m2]
theorem mOut_addP {lo hi : Nat} : mOut lo hi (mAddP A) = mAddP (mOut lo hi A) := by
  have a : mAddP A 11 (mAddP A 0 5) = A 11 (A 0 5) := by
    unfold mAddP
    split
    · rfl
    · rfl
  unfold mOut
  rw [a]
  split
  · exact mMk_addP
  · rfl
/-- a plank read -/
theorem r_plk {R : Int32 × St → Prop} {v1 : Int32} (hP : P 68 ∧ P 70 ∧ P 73) (hv : ¬ v1 = 0) (h : RP n tp s0 P op q0 c0 g0 h0 pd ph 0 k A st) (hq1 : (mPlank A).1 = true → ∀ st', RP n tp s0 P op q0 c0 g0 h0 pd ph 0 (k + 1) (mPlank A).2 st' → ((¬ (gI st' 68 6) = 44 → wX11_bridge_L117 68 R 0 st' Q) ∧ ((gI st' 68 6) = 44 → wX11_bridge_L117 68 R 1 st' Q))) (hq0 : (mPlank A).1 = false → ∀ st', RF n tp s0 P (mPlank A).2 st' → Q 0 st') : wX11_bridge_L14 68 R v1 st Q := by
  unfold wX11_bridge_L14
  refine ⟨fun q => absurd q hv, fun _ => ?_⟩
  obtain ⟨k1, k2⟩ := r_kd h
  have g1 := h.2.2.2.1.2.1
  have c12 := h.2.2.1.2.1
  rw [k1, g1, show (3 : Int32) = nI (rkd 3) from rfl, rkd_iff k2 (by omega)]
  have L43 : ∀ A' s1, A' = (if A 0 1 < 12 then A else mMk 4 A) → RP n tp s0 P op q0 c0 g0 h0 pd ph 1 k A' s1 → (A' 0 6 ≠ 0 → A' 0 7 = A' 0 5 + 1 → A' 0 6 < 5) → wX11_bridge_L43 68 R s1 Q := by
    intro A' s1 eA h1 hs
    have mp : mPlank A = mTk 3 (mAddP (mOut 1 30 A')) := by rw [← mOut_addP, eA]; rfl
    have a10 : A' 10 (A' 0 5) = A 10 (A 0 5) := by
      rw [eA]
      split
      · rfl
      · rw [mMk_s (by omega), mMk_s (by omega)]
    have b5 : ∀ B : Bk, mAddP B 0 5 = B 0 5 ∧ mAddP B 10 = B 10 := fun B => by
      unfold mAddP
      split
      · exact ⟨rfl, rfl⟩
      · exact ⟨rfl, rfl⟩
    have o5 : mOut 1 30 A' 0 5 = A' 0 5 := mOut_s (by omega)
    have o10 : ∀ i, mOut 1 30 A' 10 i = A' 10 i := fun i => mOut_s (by omega)
    have o1 : mOut 1 30 A' 0 1 = A' 0 1 := mOut_s (by omega)
    have o11 : ∀ i, mOut 1 30 A' 11 i = A' 11 i := fun i => mOut_s (by omega)
    unfold wX11_bridge_L43
    refine r_num (lo := 1) (hi := 30) hP.1 h1 (by omega) hs (by omega) (by omega) (fun e s2 h2 g8 => ⟨fun _ => ?_, fun q => absurd q (by decide)⟩) (fun e s2 h2 => ⟨fun q => absurd rfl q, fun _ => ?_⟩)
    · have g21 := h2.2.2.2.1.2.1
      have c2 := h2.2.2.1.2.1
      rw [g21, nI_clamp (by omega), g8]
      refine ⟨(vin_iff (by omega)).mpr (by omega), ?_⟩
      intro s9 e9
      have g91 : gI s9 70 1 = nI (mOut 1 30 A' 0 1) := by rw [e9, gI_uI, if_neg (by omega)]; exact g21
      rw [g91]
      have L99 : ∀ s10, RP n tp s0 P op q0 c0 g0 h0 pd ph 1 k (mAddP (mOut 1 30 A')) s10 → wX11_bridge_L99 68 R s10 Q := by
        intro s10 h10
        unfold wX11_bridge_L99
        have kk : mAddP (mOut 1 30 A') 10 (mAddP (mOut 1 30 A') 0 5) = 3 := by rw [(b5 _).1, (b5 _).2, o5, o10]; exact e
        refine r_nx hP.1 h10 (by omega) (by omega) (fun s11 h11 _ => ?_)
        have m3 : mPlank A = (true, u2 (mAddP (mOut 1 30 A')) 0 5 (mAddP (mOut 1 30 A') 0 5 + 1)) := by
          rw [mp]; unfold mTk; rw [if_pos kk]
        exact hq1 (by rw [m3]) s11 (by rw [m3]; exact h11)
      refine ⟨fun q => ?_, fun q => ?_⟩
      · have q' := (nI_leI (a := 12) (by omega) (by omega)).mp q
        exact L99 s9 (h2.pl ⟨hP.2.1, hP.2.2⟩ (by rw [o5, o11]) e9 (by rw [if_neg (by omega)]))
      · have q' : mOut 1 30 A' 0 1 < 12 := Nat.lt_of_not_le (fun w => q (nI_le (a := 12) w (by omega)))
        rw [nI_1]
        intro s10 e10
        exact L99 s10 (h2.pl ⟨hP.2.1, hP.2.2⟩ (by rw [o5, o11]) e9 (by rw [if_pos q']; exact e10))
    · have m3 : mPlank A = (false, mAddP (mOut 1 30 A')) := by
        rw [mp]; unfold mTk; rw [(b5 _).1, (b5 _).2, o5, o10, if_neg e]
      refine hq0 (by rw [m3]) s2 ⟨h2.1, ?_⟩
      rw [h2.2, m3]
      show _ = nI (tfr n tp (mAddP (mOut 1 30 A') 0 5))
      rw [(b5 _).1, o5]
  have f5 := h.2.2.2.2.1.2.2.2.2
  refine ⟨fun w => ?_, fun w => ⟨fun q => ?_, fun q => ?_⟩⟩
  · unfold wX11_bridge_L43
    refine r_num (lo := 1) (hi := 30) hP.1 h (by omega) (fun _ y => by omega) (by omega) (by omega) (fun e => absurd e w) (fun e s2 h2 => ⟨fun q => absurd rfl q, fun _ => ?_⟩)
    obtain ⟨A', eA⟩ : ∃ A', A' = (if A 0 1 < 12 then A else mMk 4 A) := ⟨_, rfl⟩
    have mp : mPlank A = mTk 3 (mAddP (mOut 1 30 A')) := by rw [← mOut_addP, eA]; rfl
    have a5 : A' 0 5 = A 0 5 := by
      rw [eA]
      split
      · rfl
      · exact mMk_s (by omega)
    have a10 : ∀ i, A' 10 i = A 10 i := fun i => by
      rw [eA]
      split
      · rfl
      · exact mMk_s (by omega)
    have b5 : ∀ B : Bk, mAddP B 0 5 = B 0 5 ∧ mAddP B 10 = B 10 := fun B => by
      unfold mAddP
      split
      · exact ⟨rfl, rfl⟩
      · exact ⟨rfl, rfl⟩
    have o5 : mOut 1 30 A' 0 5 = A' 0 5 := mOut_s (by omega)
    have o10 : ∀ i, mOut 1 30 A' 10 i = A' 10 i := fun i => mOut_s (by omega)
    have m3 : mPlank A = (false, mAddP (mOut 1 30 A')) := by
      rw [mp]; unfold mTk; rw [(b5 _).1, (b5 _).2, o5, o10, a5, a10, if_neg e]
    refine hq0 (by rw [m3]) s2 ⟨h2.1, ?_⟩
    rw [h2.2, m3]
    show _ = nI (tfr n tp (mAddP (mOut 1 30 A') 0 5))
    rw [(b5 _).1, o5, a5]
  · have q' : A 0 1 ≠ 12 := fun e => q (by rw [e]; rfl)
    exact L43 A st (by rw [if_pos (by omega)]) (h.z1 (by omega)) (fun _ y => by omega)
  · have q' : A 0 1 = 12 := (nI_eq (b := 12) (by omega) (by omega)).mp q
    refine r_note (e := 4) hP.1 h (by omega) (by omega) (by omega) (fun _ y => by omega) (fun s1 h1 _ _ _ => L43 _ s1 (by rw [if_neg (by omega)]) h1 (fun y1 y2 => ?_))
    unfold mMk at y1 y2 ⊢
    split at y2
    · next e => rw [if_pos e, u2_a, if_neg (by omega), u2_a, if_pos ⟨rfl, rfl⟩]; omega
    · next e => omega
theorem plank_adv (h : (mPlank A).1 = true) : (mPlank A).2 0 5 = A 0 5 + 1 := by
  unfold mPlank mNum at h ⊢
  rw [(tk_at h).1, mOut_s (by omega)]
  have b5 : ∀ B : Bk, mAddP B 0 5 = B 0 5 := fun B => by
    unfold mAddP
    split
    · rfl
    · rfl
  rw [b5]
  split
  · rfl
  · rw [mMk_s (by omega)]
theorem r_fin {R : Int32 × St → Prop} {kk : Nat} (hP : P 68) (h : RP n tp s0 P op q0 c0 g0 h0 pd ph 0 kk A st) (hk : k ≤ kk + 1) (hq : RO n tp s0 P op q0 c0 g0 h0 pd ph k Q (mFin A)) : wX11_bridge_L14 68 R 0 st Q := by
  unfold wX11_bridge_L14
  refine ⟨fun _ => ?_, fun q => absurd rfl q⟩
  obtain ⟨k1, k2⟩ := r_kd h
  have g1 := h.2.2.2.1.2.1
  have c12 := h.2.2.1.2.1
  have f5 := h.2.2.2.2.1.2.2.2.2
  rw [k1, g1, show (59 : Int32) = nI (rkd 6) from rfl, rkd_iff k2 (by omega)]
  unfold mFin at hq
  refine ⟨fun w => ?_, fun w => ⟨fun q => ?_, fun q => ?_⟩⟩
  · unfold wX11_bridge_L154
    have m : mTk 6 (if A 0 1 < 4 then mMk 5 A else A) = (false, if A 0 1 < 4 then mMk 5 A else A) := by
      unfold mTk
      rw [if_neg]
      split
      · rw [mMk_s (by omega), mMk_s (by omega)]; exact w
      · exact w
    rw [m] at hq
    refine r_take (kk := 6) (z := 0) (k := kk) hP h (by omega) (by omega) (by omega) ?_
    have m2 : mTk 6 A = (false, A) := by unfold mTk; rw [if_neg w]
    rw [m2]
    refine ⟨fun t => (by cases t), fun _ s1 h1 => hq.2 rfl s1 ⟨h1.1, ?_⟩⟩
    rw [h1.2]
    show _ = nI (tfr n tp ((if A 0 1 < 4 then mMk 5 A else A) 0 5))
    split
    · rw [mMk_s (by omega)]
    · rfl
  · unfold wX11_bridge_L154
    have q' := (nI_leI (a := 4) (by omega) (by omega)).mp q
    rw [if_neg (by omega)] at hq
    exact r_take (kk := 6) (z := 0) (k := kk) hP h (by omega) (by omega) (by omega) (hq.km hk)
  · have q' : A 0 1 < 4 := Nat.lt_of_not_le (fun w => q (nI_le (a := 4) w (by omega)))
    rw [if_pos q'] at hq
    refine r_note (e := 5) hP h (by omega) (by omega) (by omega) (fun _ y => by omega) (fun s1 h1 _ _ _ => ?_)
    unfold wX11_bridge_L154
    exact r_take (kk := 6) (z := 1) (k := kk) hP h1 (by omega) (by omega) (by omega) (hq.km hk)
theorem r_bridge (hP : P 68 ∧ P 70 ∧ P 73) (h : RP n tp s0 P op q0 c0 g0 h0 pd ph 0 k A st) (hq : RO n tp s0 P op q0 c0 g0 h0 pd ph k Q (mPs A)) : wX11_bridge 68 st Q := by
  unfold wX11_bridge
  unfold mPs at hq
  rw [bd_as] at hq
  have key : ∀ (f kk : Nat) (A : Bk) (st : St) (v1 : Int32), ¬ v1 = 0 → 401 ≤ f + A 0 5 → k ≤ kk → RP n tp s0 P op q0 c0 g0 h0 pd ph 0 kk A st → RO n tp s0 P op q0 c0 g0 h0 pd ph k Q (bd (mPlank A) (mPsL f)) → lp (fun R s => wX11_bridge_L14 68 R s.1 s.2 Q) (f + 1) (v1, st) := by
    intro f
    induction f with
    | zero =>
      intro kk A st v1 _ hf _ h _
      have := h.2.1.1
      have := h.2.1.2.1
      omega
    | succ f ih =>
      intro kk A st v1 hv hf hk h hq
      show wX11_bridge_L14 68 (lp (fun R s => wX11_bridge_L14 68 R s.1 s.2 Q) (f + 1)) v1 st Q
      have done : ∀ A1 s', RP n tp s0 P op q0 c0 g0 h0 pd ph 0 (kk + 1) A1 s' → RO n tp s0 P op q0 c0 g0 h0 pd ph k Q (mFin A1) → lp (fun R s => wX11_bridge_L14 68 R s.1 s.2 Q) (f + 1) (0, s') := fun A1 s' h' q' => r_fin (kk := kk + 1) hP.1 h' (by omega) q'
      generalize lp (fun R s => wX11_bridge_L14 68 R s.1 s.2 Q) (f + 1) = RR at ih done ⊢
      refine r_plk hP hv h (fun t s1 h1 => ?_) (fun t s1 h1 => by rw [bd_f t] at hq; exact hq.2 rfl s1 h1)
      rw [bd_t t] at hq
      have adv := plank_adv t
      generalize (mPlank A).2 = A1 at h1 hq adv
      obtain ⟨k1, k2⟩ := r_kd h1
      rw [k1, show (44 : Int32) = nI (rkd 7) from rfl, rkd_iff k2 (by omega)]
      unfold mPsL at hq
      unfold wX11_bridge_L117
      refine ⟨fun w => ⟨fun _ => ?_, fun q => absurd rfl q⟩, fun w => ⟨fun q => absurd q (by decide), fun _ => ?_⟩⟩
      · rw [if_neg w] at hq
        exact done A1 s1 h1 hq
      · rw [if_pos w, bd_as] at hq
        have m7 : mTk 7 A1 = (true, u2 A1 0 5 (A1 0 5 + 1)) := by unfold mTk; rw [if_pos w]
        rw [m7, bd_t rfl] at hq
        refine r_nx hP.1 h1 (by omega) (by omega) (fun s2 h2 _ => ?_)
        have a5 : u2 A1 0 5 (A1 0 5 + 1) 0 5 = A1 0 5 + 1 := by rw [u2_a, if_pos ⟨rfl, rfl⟩]
        have hq : RO n tp s0 P op q0 c0 g0 h0 pd ph k Q (bd (mPlank (u2 A1 0 5 (A1 0 5 + 1))) (mPsL f)) := hq
        exact ih (kk + 2) _ s2 1 (by decide) (by omega) (by omega) h2 hq
  by_cases w : A 10 (A 0 5) = 14
  · have m : mTk 14 A = (true, u2 A 0 5 (A 0 5 + 1)) := by unfold mTk; rw [if_pos w]
    rw [m, bd_t rfl] at hq
    refine r_take (kk := 14) hP.1 h (by omega) (by omega) (by omega) ?_
    rw [m]
    refine ⟨fun _ s1 h1 => ⟨fun _ => ⟨401, ?_⟩, fun q => absurd q (by decide)⟩, fun t => (by cases t)⟩
    have a5 : u2 A 0 5 (A 0 5 + 1) 0 5 = A 0 5 + 1 := by rw [u2_a, if_pos ⟨rfl, rfl⟩]
    have h1 : RP n tp s0 P op q0 c0 g0 h0 pd ph 0 (k + 1) (u2 A 0 5 (A 0 5 + 1)) s1 := h1
    have hq : RO n tp s0 P op q0 c0 g0 h0 pd ph k Q (bd (mPlank (u2 A 0 5 (A 0 5 + 1))) (mPsL 400)) := hq
    exact key 400 (k + 1) _ s1 1 (by decide) (by omega) (by omega) h1 hq
  · have m : mTk 14 A = (false, A) := by unfold mTk; rw [if_neg w]
    rw [m, bd_f rfl] at hq
    refine r_take (kk := 14) hP.1 h (by omega) (by omega) (by omega) ?_
    rw [m]
    exact ⟨fun t => (by cases t), fun _ s1 h1 => ⟨fun q => absurd rfl q, fun _ => hq.2 rfl s1 h1⟩⟩
end MPK

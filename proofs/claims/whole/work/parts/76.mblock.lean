/-! the reference's reader: acts of all kinds, blocks -/
theorem act_code : ∀ a, a < 37 → ((a = 16 ∨ a = 18 ∨ a = 19 ∨ a = 20 ∨ a = 21 ∨ a = 22 ∨ a = 23) → ¬ nI (rkd a) < 205 ∧ ¬ (212 : Int32) < nI (rkd a) ∧ ¬ nI (rkd a) = 206 ∧ nI (rkd a) = nI (189 + a)) ∧ (¬ (a = 16 ∨ a = 18 ∨ a = 19 ∨ a = 20 ∨ a = 21 ∨ a = 22 ∨ a = 23) → nI (rkd a) < 205 ∨ (212 : Int32) < nI (rkd a) ∨ nI (rkd a) = 206) := by decide +kernel
theorem bd_adv {kk : Nat} {A : Bk} {f : Bk → Bool × Bk} (hf : Fx f) (h : (bd (mTk kk A) f).1 = true) : A 0 5 + 1 ≤ (bd (mTk kk A) f).2 0 5 := by
  cases e : (mTk kk A).1 with
  | true =>
    rw [bd_t e]
    have := (hf (mTk kk A).2).2.1
    rw [(tk_at e).1] at this
    exact this
  | false => rw [bd_f e] at h; cases h
theorem act_adv {blk : Nat → Bk → Bool × Bk} {x : Nat} {A : Bk} (hb : ∀ o, Fx (blk o)) (h : (mAct blk x A).1 = true) : A 0 5 + 1 ≤ (mAct blk x A).2 0 5 := by
  unfold mAct at h ⊢
  split at h
  · next q =>
    rw [if_pos q]
    refine bd_adv (fun A1 => bd_fx (fx_who A1) (fun A2 => bd_fx ?_ fx_end)) h
    split
    · exact bd_fx (fx_tk A2) fx_who
    · exact FxR.rf
  · next q =>
    rw [if_neg q]
    split at h
    · next q => rw [if_pos q]; exact bd_adv (fun A1 => bd_fx (fx_val A1) fx_end) h
    · next q =>
      rw [if_neg q]
      split at h
      · next q => rw [if_pos q]; exact bd_adv (fun A1 => bd_fx (fx_pna A1) fx_end) h
      · next q =>
        rw [if_neg q]
        split at h
        · next q =>
          rw [if_pos q]
          exact bd_adv (fun A1 => bd_fx ((fx_set (r := 20) (by omega)).tr (fx_cmp _)) (fun A2 => bd_fx (((fx_set (r := 21) (by omega)).tr (fx_inc (by omega))).tr (fx_bo (by omega) hb _)) (fun A3 => (fx_inc (by omega)).tr (fx_set (r := 19) (by omega))))) h
        · next q =>
          rw [if_neg q]
          split at h
          · next q =>
            rw [if_pos q]
            refine bd_adv (fun A1 => bd_fx ((fx_set (r := 20) (by omega)).tr (fx_cmp _)) (fun A2 => bd_fx (((fx_set (r := 21) (by omega)).tr (fx_inc (by omega))).tr (fx_bo (by omega) hb _)) (fun A3 => ?_))) h
            refine FxR.tr (A1 := gIe x A3) (fx_set (r := 24) (by omega)) ?_
            show FxR (gIe x A3) (mElse blk x (gIe x A3)).2
            generalize gIe x A3 = A3
            unfold mElse
            split
            · exact bd_fx (((fx_inc (k := 8) (by omega)).tr (fx_set (r := 22) (by omega))).tr (fx_tk _)) (fun A4 => bd_fx (fx_bo (by omega) hb A4) (fun A5 => fx_set (r := 19) (by omega)))
            · exact (fx_set (r := 22) (by omega)).tr (fx_set (r := 19) (by omega))
          · cases h
/-- one act of a block's loop -/
theorem ls_act {K dp o last : Nat} {As A : Bk} (hk : dp + 1 + K = 3) (hL : LIn As o dp last A) (ho : o ≤ As 0 3) (hdo : (if o = 0 then 0 else A 12 (o - 1) + 1) = dp) (hn : NF A) (hl : A 0 5 < A 0 4) (hT : TkL A) (h60 : A 0 3 < 60) (t : (mAct (mBlk K) (mAddX A) (mLink last (mAddX A) (mAddA o A))).1 = true) (e : (mAct (mBlk K) (mAddX A) (mLink last (mAddX A) (mAddA o A))).2 0 6 = 0) : LIn As o dp (mAddX A) (mAct (mBlk K) (mAddX A) (mLink last (mAddX A) (mAddA o A))).2 := by
  have hx : mAddX A = A 0 3 + 1 := by unfold mAddX; rw [if_pos h60]
  rw [hx] at t e ⊢
  obtain ⟨v5, v6, v7, v8, v9, v12, v13, v18, v03⟩ := addA_v (o := o) h60
  have ls : ∀ r k, r ≠ 7 → mLink last (A 0 3 + 1) (mAddA o A) r k = mAddA o A r k := fun r k z => link_s z
  have a1 : ∀ k, k ≠ 3 → mLink last (A 0 3 + 1) (mAddA o A) 0 k = A 0 k := fun k hk => by rw [ls 0 k (by omega), addA_s h60 (by omega)]
  have n2 : NF (mLink last (A 0 3 + 1) (mAddA o A)) := hn.addA.link
  have T2 : TkL (mLink last (A 0 3 + 1) (mAddA o A)) := hT.fx (fx_addA.tr fx_link)
  refine p_act (F := fun A3 => LIn As o dp (A 0 3 + 1) A3) (dp := dp + 1) (fun o => fx_blk) (p_blk (k := K) (dp := dp + 1) hk) ⟨n2, by rw [a1 5 (by omega), a1 4 (by omega)]; exact hl, T2, by omega, by rw [ls 0 3 (by omega), v03], ?_, ?_, ?_, ?_, ?_⟩ ?_ (fun A3 hA _ _ => hL.step (by omega) ho hdo h60 rfl hA) t e
  · rw [a1 5 (by omega), ls 5 _ (by omega)]; exact v5
  · rw [a1 8 (by omega), ls 18 _ (by omega)]; exact v18
  · rw [a1 2 (by omega), ls 13 _ (by omega)]; exact v13
  · rw [ls 8 _ (by omega)]; exact v8
  · rw [ls 9 _ (by omega)]; exact v9
  · rw [ls 12 _ (by omega), show A 0 3 + 1 - 1 = A 0 3 by omega, v12, hdo]
section MBK
variable {n : Nat} {tp : Nat → Nat} {s0 : St} {P : Nat → Prop} {op : Nat → Prop} {q0 c0 : Nat} {g0 h0 : Nat → Int32} {pd : Nat} {ph : Bool} {z k y : Nat} {A : Bk} {st st' : St} {Q : Int32 → St → Prop} {Qv : St → Prop}
/-- the place of the next act changes -/
theorem RP.lk {last x : Nat} (h : RP n tp s0 P op q0 c0 g0 h0 pd ph z k A st) : RP n tp s0 P op q0 c0 g0 h0 pd ph z k (mLink last x A) st := by
  unfold mLink
  split
  · exact h
  · obtain ⟨t, l, c1, c2, c3, c4, c5, c6⟩ := h
    refine ⟨t, l, c1, c2, c3, c4, c5, fun e => ?_⟩
    obtain ⟨b1, b2, b3, b4, b5, b6, b7⟩ := c6 e
    exact ⟨b1, b2, b3, b4, b5, b6, fun a ha ho => (b7 a ha ho).fx (A' := u2 A 7 (last - 1) x) (fun _ => rfl) (fun r _ h7 => by rw [u2_a, if_neg (by omega)]) (fun _ _ => rfl) (Nat.le_refl _) (Nat.le_refl _) (Nat.le_refl _) (fun _ _ _ => rfl) (fun _ _ => rfl)⟩
/-- an act is begun -/
theorem RP.add {o : Nat} {s1 : St} (hP : P 70) (h60 : A 0 3 < 60) (hy : y = A 0 3) (h : RP n tp s0 P op q0 c0 g0 h0 pd ph z k A st) (e1 : s1 = uI st 70 3 (nI (A 0 3 + 1))) : RP n tp s0 P (fun a => op a ∨ a = y) q0 c0 g0 h0 pd ph z k (mAddA o A) s1 := by
  obtain ⟨⟨t1, t2, t3⟩, l, ⟨k1, k2, k3, k4, k5⟩, ⟨a1, a2, a3, a4, a5, a6⟩, c3, c4, c5, c6⟩ := h
  have v3 := (addA_v (o := o) h60).2.2.2.2.2.2.2.2
  have s : ∀ r k, (r ≠ 0 ∨ k ≠ 3) ∧ (k ≠ A 0 3 ∨ ¬ ((5 ≤ r ∧ r ≤ 9) ∨ r = 12 ∨ r = 13 ∨ r = 18)) → mAddA o A r k = A r k := fun r k w => addA_s h60 w
  have s0' : ∀ k, k ≠ 3 → mAddA o A 0 k = A 0 k := fun k w => s 0 k (by omega)
  have o' : ∀ d i, (d ≠ 70 ∨ i ≠ 3) → gI s1 d i = gI st d i := fun d i w => by rw [e1, gI_uI, if_neg (by omega)]
  have J : s1.2 = st.2 := by rw [e1]; rfl
  have F1 : FQ (fun d => d = 70) st s1 := by rw [e1]; exact FQ.uI (P := fun d => d = 70) rfl
  have g3 : gI s1 70 3 = nI (A 0 3 + 1) := by rw [e1, gI_uI, if_pos ⟨rfl, rfl⟩]
  clear e1
  refine ⟨⟨?_, ?_, t3.tr (F1.mo (fun d hd => by rw [hd]; exact hP))⟩, ?_, ⟨by rw [s0' 0 (by omega)]; exact k1, by rw [s0' 1 (by omega)]; exact k2, by rw [s0' 2 (by omega)]; exact k3, by omega, by rw [s0' 8 (by omega), s0' 9 (by omega), s0' 5 (by omega)]; exact k5⟩, ?_, ?_, ?_, ?_, fun e => ?_⟩
  · exact ⟨(o' 54 2 (by omega)).trans t1.1, t1.2.1, fun i hi => (o' 55 i (by omega)).trans (t1.2.2.1 i hi), t1.2.2.2⟩
  · rw [s0' 5 (by omega)]
    obtain ⟨r1, r2, r3, r4, r5, r6⟩ := t2
    refine ⟨(o' 68 6 (by omega)).trans r1, (o' 68 7 (by omega)).trans r2, fun w => (o' 68 8 (by omega)).trans (r3 w), fun w => ?_, (o' 68 10 (by omega)).trans r5, fun w => (o' 68 5 (by omega)).trans (r6 w)⟩
    show s1.2.1 68 9 = _
    rw [J]; exact r4 w
  · unfold KT
    rw [s0' 5 (by omega), s0' 4 (by omega)]
    exact ⟨l.1, l.2.1, fun i hi => by rw [s 10 i (by omega), s 14 i (by omega)]; exact l.2.2.1 i hi, fun i h1 h2 => by rw [s 11 i (by omega)]; exact l.2.2.2 i h1 h2⟩
  · unfold CN
    rw [s0' 0 (by omega), s0' 1 (by omega), s0' 2 (by omega), v3, s0' 8 (by omega), s0' 9 (by omega)]
    exact ⟨(o' 70 0 (by omega)).trans a1, (o' 70 1 (by omega)).trans a2, (o' 70 2 (by omega)).trans a3, g3, (o' 70 9 (by omega)).trans a5, (o' 70 11 (by omega)).trans a6⟩
  · unfold FLt
    rw [s0' 6 (by omega), s0' 7 (by omega), s0' 5 (by omega), o' 68 11 (by omega), o' 68 12 (by omega)]; exact c3
  · unfold NMs
    rw [s0' 6 (by omega), s0' 0 (by omega), s0' 2 (by omega), o' 68 2 (by omega), o' 68 3 (by omega), o' 68 4 (by omega)]; exact c4
  · unfold ANc
    rw [s0' 8 (by omega), s0' 9 (by omega)]
    exact ⟨fun i hi => by rw [o' 75 i (by omega)]; exact c5.1 i hi, c5.2.1, fun i hi => by rw [o' 76 i (by omega)]; exact c5.2.2.1 i hi, c5.2.2.2⟩
  · rw [s0' 6 (by omega)] at e
    obtain ⟨b1, b2, b3, b4, b5, b6, b7⟩ := c6 e
    have Jj : ∀ i, gJ s1 69 i = gJ st 69 i := fun i => by show s1.2.1 69 i = _; rw [J]; rfl
    unfold RD
    rw [s0' 0 (by omega), s0' 1 (by omega), s0' 2 (by omega), s0' 8 (by omega), v3]
    refine ⟨fun k hk => by rw [Jj, s 16 k (by omega)]; exact b1 k hk, fun k hk => by rw [Jj, s 17 k (by omega)]; exact b2 k hk, fun k hk => by rw [o' 71 k (by omega), o' 72 k (by omega), s 1 k (by omega), s 2 k (by omega)]; exact b3 k hk, fun k hk => by rw [o' 73 k (by omega), s 3 k (by omega)]; exact b4 k hk, fun k w1 w2 => by rw [o' 73 k (by omega)]; exact b5 k w1 w2, fun p hp => ?_, fun a ha ho => ?_⟩
    · rw [o' 74 p (by omega), s 23 p (by omega), s 25 p (by omega), o' 75 _ (by omega)]; exact b6 p hp
    · have hne : a ≠ A 0 3 := fun w => ho (Or.inr (by omega))
      refine (b7 a (by omega) (fun w => ho (Or.inl w))).fx (fun i => s 10 i (by omega)) (fun r hr _ => s r a (by unfold ar at hr; omega)) (fun i _ => s 11 i (by omega)) (Nat.le_of_eq (s0' 5 (by omega)).symm) (Nat.le_of_eq (s0' 8 (by omega)).symm) (Nat.le_of_eq (s0' 9 (by omega)).symm) (fun i _ _ => o' 75 i (by omega)) (fun i _ => o' 76 i (by omega))
theorem rb_1 (hP : P 68) : SBk n tp s0 P pd ph (fun st Q => wX11_block_1 68 (nI 3 + 1) st Q) (mBlk 0) 3 := by
  intro op q0 c0 g0 h0 k o A st Q _ _ _ h hq
  show wX11_block_1 68 (nI 3 + 1) st Q
  unfold wX11_block_1 wX11_block_1_L14
  have w : ∀ {Q : Int32 → St → Prop}, (∀ s1, RF n tp s0 P A s1 → Q 0 s1) → wX11_wrong 68 st Q := fun hh => r_wr hP h hh
  refine ⟨fun _ => w (fun s1 h1 => hq.2 rfl s1 h1), fun _ => ⟨fun q => absurd q (by decide), fun _ => w (fun s1 h1 => hq.2 rfl s1 h1)⟩⟩
theorem ra_77_2 {x : Nat} (hP : P 68 ∧ P 70 ∧ P 75 ∧ P 76) (hph : ph = true) (hS : SBk n tp s0 P pd ph (fun st Q => wX11_block_1 68 (nI 3 + 1) st Q) (mBlk 0) 3) (hy : y = x - 1) (hz : z ≤ 1) (hyl : y < A 0 3) (hol : ∀ a, op a → a < A 0 3) (hAH : A 0 6 = 0 → AH x A ∧ 3 = A 12 (x - 1) + 1) (hK : A 10 (A 0 5) = 16 ∨ A 10 (A 0 5) = 18 ∨ A 10 (A 0 5) = 19 ∨ A 10 (A 0 5) = 20 ∨ A 10 (A 0 5) = 21 ∨ A 10 (A 0 5) = 22 ∨ A 10 (A 0 5) = 23)
    (h : RP n tp s0 P (fun a => op a ∨ a = y) q0 c0 g0 h0 pd ph z k A st) (hAN : AN x A (mAct (mBlk 0) x A)) (hq : RO n tp s0 P op q0 c0 g0 h0 pd ph (k + 2) Q (mAct (mBlk 0) x A)) : wX11_act_2_L77 68 (nI 3) (nI 3) st Q := by
  unfold wX11_act_2_L77
  have k1 := (r_kd h).1
  rw [(act_code _ (by omega)).1 hK |>.2.2.2] at k1
  intro x5 e5
  rw [k1] at e5
  refine r_nx hP.1 h hz (by omega) (fun s6 h6 _ => ?_)
  have P3 : P 68 ∧ P 70 ∧ P 75 := ⟨hP.1, hP.2.1, hP.2.2.1⟩
  unfold mAct at hAN hq
  have sim : (A 10 (A 0 5) = 18 ∨ A 10 (A 0 5) = 19 ∨ A 10 (A 0 5) = 20) → wX11_act_2_L154 68 (nI 3) (nI (189 + A 10 (A 0 5))) s6 Q := fun hk => by
    rw [if_neg (by omega), if_pos hk] at hAN hq
    unfold wX11_act_2_L154
    exact ra_sim P3 hy hk rfl h6 hAN hq
  rcases hK with e | e | e | e | e | e | e
  · rw [e] at e5
    rw [e5]
    rw [if_pos e] at hAN hq
    exact ⟨fun q => absurd q (by decide), fun _ => ra_send P3 hph hy e h6 hAN hq, fun q => absurd q (by decide), fun q => absurd q (by decide), fun q => absurd q (by decide), fun q => absurd q (by decide), fun q => absurd q (by decide), fun q => absurd q (by decide), fun q => absurd q (by decide)⟩
  · have S := sim (by omega)
    rw [e] at e5 S
    rw [e5]
    exact ⟨fun _ => S, fun q => absurd q (by decide), fun _ => S, fun _ => S, fun _ => S, fun _ => S, fun q => absurd q (by decide), fun q => absurd q (by decide), fun q => absurd q (by decide)⟩
  · have S := sim (by omega)
    rw [e] at e5 S
    rw [e5]
    exact ⟨fun _ => S, fun q => absurd q (by decide), fun _ => S, fun _ => S, fun _ => S, fun _ => S, fun q => absurd q (by decide), fun q => absurd q (by decide), fun q => absurd q (by decide)⟩
  · have S := sim (by omega)
    rw [e] at e5 S
    rw [e5]
    exact ⟨fun _ => S, fun q => absurd q (by decide), fun _ => S, fun _ => S, fun _ => S, fun _ => S, fun q => absurd q (by decide), fun q => absurd q (by decide), fun q => absurd q (by decide)⟩
  · rw [e] at e5
    rw [e5]
    rw [if_neg (by omega), if_neg (by omega), if_pos e] at hAN hq
    exact ⟨fun q => absurd q (by decide), fun q => absurd q (by decide), fun q => absurd q (by decide), fun q => absurd q (by decide), fun q => absurd q (by decide), fun q => absurd q (by decide), fun _ => ra_do P3 hph hy e h6 hAN hq, fun q => absurd q (by decide), fun q => absurd q (by decide)⟩
  · rw [e] at e5
    rw [e5]
    rw [if_neg (by omega), if_neg (by omega), if_neg (by omega), if_pos e] at hAN hq
    refine ⟨fun q => absurd q (by decide), fun q => absurd q (by decide), fun q => absurd q (by decide), fun q => absurd q (by decide), fun q => absurd q (by decide), fun q => absurd q (by decide), fun q => absurd q (by decide), fun _ => ?_, fun q => absurd q (by decide)⟩
    unfold wX11_loop_2
    exact ra_while hP (fun o => fx_blk) (fun o => mo_blk) (p_blk (k := 0) (dp := 3) rfl) hS hy hyl hol hAH e h6 hAN hq
  · rw [e] at e5
    rw [e5]
    rw [if_neg (by omega), if_neg (by omega), if_neg (by omega), if_neg (by omega), if_pos e] at hAN hq
    refine ⟨fun q => absurd q (by decide), fun q => absurd q (by decide), fun q => absurd q (by decide), fun q => absurd q (by decide), fun q => absurd q (by decide), fun q => absurd q (by decide), fun q => absurd q (by decide), fun q => absurd q (by decide), fun _ => ?_⟩
    unfold wX11_choice_2
    exact ra_if hP (fun o => fx_blk) (fun o => mo_blk) (p_blk (k := 0) (dp := 3) rfl) hS hy hyl hol hAH e h6 hAN hq (fun v3 s0' st => wX11_choice_2_L64 68 (nI 3) (nI 3) v3 s0' st Q) (fun v3 s0' st hh => by unfold wX11_choice_2_L64; exact hh)
theorem ra_act_2 {o last : Nat} (hP : P 68 ∧ P 70 ∧ P 75 ∧ P 76) (hph : ph = true) (hS : SBk n tp s0 P pd ph (fun st Q => wX11_block_1 68 (nI 3 + 1) st Q) (mBlk 0) 3) (hol : ∀ a, op a → a < A 0 3) (hd : A 0 6 = 0 → (if o = 0 then 0 else A 12 (o - 1) + 1) = 2) (hla : A 0 6 = 0 → last = 0 ∨ last - 1 < A 0 3) (h : RP n tp s0 P op q0 c0 g0 h0 pd ph 0 k A st) (hq : RO n tp s0 P op q0 c0 g0 h0 pd ph (k + 2) Q (mAct (mBlk 0) (mAddX A) (mLink last (mAddX A) (mAddA o A)))) : wX11_act_2 68 (nI 3) st Q := by
  unfold wX11_act_2
  obtain ⟨k1, k2⟩ := r_kd h
  have hT := h.2.1.tl
  have hN := h.2.1.nf
  have h60 := h.2.2.1.2.2.2.1
  have g3 := h.2.2.2.1.2.2.2.1
  rw [k1, g3]
  obtain ⟨w1, w2⟩ := act_code _ (show A 10 (A 0 5) < 37 by omega)
  have s2 : ∀ i, mLink last (mAddX A) (mAddA o A) 10 i = A 10 i := fun i => by
    rw [link_s (by omega)]; exact fx_addA.1 10 i (by unfold fxr; omega)
  have s05 : mLink last (mAddX A) (mAddA o A) 0 5 = A 0 5 := by
    rw [link_s (by omega)]
    by_cases q : A 0 3 < 60
    · exact addA_s q (by omega)
    · unfold mAddA; rw [if_neg q]; exact mMk_s (by omega)
  by_cases hK : A 10 (A 0 5) = 16 ∨ A 10 (A 0 5) = 18 ∨ A 10 (A 0 5) = 19 ∨ A 10 (A 0 5) = 20 ∨ A 10 (A 0 5) = 21 ∨ A 10 (A 0 5) = 22 ∨ A 10 (A 0 5) = 23
  · obtain ⟨v1, v2, v3, v4⟩ := w1 hK
    refine ⟨fun q => absurd q v1, fun _ => ⟨fun q => absurd q v2, fun _ => ⟨fun _ => ?_, fun q => absurd q v3⟩⟩⟩
    by_cases hlt : A 0 3 < 60
    · refine ⟨fun _ => ?_, fun q => absurd ((nI_eq (b := 60) (by omega) (by omega)).mp q) (by omega)⟩
      unfold wX11_act_2_L52
      rw [g3]
      refine ⟨fun q => absurd ((nI_leI (a := 60) (by omega) (by omega)).mp q) (by omega), fun _ => ?_⟩
      rw [nI_1]
      intro s4 e4
      have hx : mAddX A = A 0 3 + 1 := by unfold mAddX; rw [if_pos hlt]
      rw [hx] at hq s2 s05
      have hB : RP n tp s0 P (fun a => op a ∨ a = A 0 3) q0 c0 g0 h0 pd ph 0 k (mLink last (A 0 3 + 1) (mAddA o A)) s4 := (h.add (o := o) hP.2.1 hlt rfl e4).lk
      obtain ⟨u5, u6, u7, u8, u9, u12, u13, u18, u03⟩ := addA_v (o := o) hlt
      have ls : ∀ r k, r ≠ 7 → mLink last (A 0 3 + 1) (mAddA o A) r k = mAddA o A r k := fun r k w => link_s w
      have a1 : ∀ k, k ≠ 3 → mLink last (A 0 3 + 1) (mAddA o A) 0 k = A 0 k := fun k hk => by rw [ls 0 k (by omega), addA_s hlt (by omega)]
      have n2 : NF (mLink last (A 0 3 + 1) (mAddA o A)) := hN.addA.link
      have T2 : TkL (mLink last (A 0 3 + 1) (mAddA o A)) := hT.fx (fx_addA.tr fx_link)
      have l2 : mLink last (A 0 3 + 1) (mAddA o A) 0 5 < mLink last (A 0 3 + 1) (mAddA o A) 0 4 := hB.2.1.1
      have x3 : mLink last (A 0 3 + 1) (mAddA o A) 0 3 = A 0 3 + 1 := by rw [ls 0 3 (by omega), u03]
      have ah : AH (A 0 3 + 1) (mLink last (A 0 3 + 1) (mAddA o A)) := by
        refine ⟨n2, l2, T2, by omega, x3, ?_, ?_, ?_, ?_, ?_⟩
        · rw [a1 5 (by omega), ls 5 _ (by omega)]; exact u5
        · rw [a1 8 (by omega), ls 18 _ (by omega)]; exact u18
        · rw [a1 2 (by omega), ls 13 _ (by omega)]; exact u13
        · rw [ls 8 _ (by omega)]; exact u8
        · rw [ls 9 _ (by omega)]; exact u9
      have x12 : A 0 6 = 0 → mLink last (A 0 3 + 1) (mAddA o A) 12 (A 0 3 + 1 - 1) = 2 := fun e => by rw [ls 12 _ (by omega), show A 0 3 + 1 - 1 = A 0 3 by omega, u12]; exact hd e
      have e06 := a1 6 (by omega)
      refine ra_77_2 (y := A 0 3) (x := A 0 3 + 1) (z := 0) hP hph hS (by omega) (by omega) (by omega) (fun a ha => by have := hol a ha; omega) (fun e => ⟨ah, ?_⟩) (by rw [s05, s2]; exact hK) hB (fun t e => ?_) hq
      · rw [x12 (by omega)]
      · have e2 : mLink last (A 0 3 + 1) (mAddA o A) 0 6 = 0 := (fx_act (fun o => fx_blk) _).e0 e
        have e0 : A 0 6 = 0 := by omega
        have q12 := x12 e0
        refine ⟨p_act (F := fun A' => AQ (A 0 3 + 1) (mLink last (A 0 3 + 1) (mAddA o A)) A') (dp := 3) (fun o => fx_blk) (p_blk (k := 0) (dp := 3) rfl) ah (by rw [q12]) (fun A' a _ _ => a) t e, by omega, ah.2.2.2.2.2.1, ?_, by omega, ah.2.2.2.2.2.2.1, l2, n2, T2⟩
        rcases hla e0 with q | q
        · unfold mLink
          rw [if_pos q]; exact u7
        · by_cases ql : last = 0
          · unfold mLink
            rw [if_pos ql]; exact u7
          · unfold mLink
            rw [if_neg ql, u2_a, if_neg (by omega)]; exact u7
    · have e60 : A 0 3 = 60 := by omega
      refine ⟨fun q => absurd (by rw [e60]; rfl) q, fun _ => ?_⟩
      have hx : mAddX A = 0 := by unfold mAddX; rw [if_neg hlt]
      have ha : mAddA o A = mMk 4 A := by unfold mAddA; rw [if_neg hlt]
      rw [hx, ha] at hq s2 s05
      refine r_note (e := 4) hP.1 h (by omega) (by omega) (by omega) (fun _ q => by have := h.2.2.2.2.1.2.2.2.2; omega) (fun s1 h1 oth _ _ => ?_)
      unfold wX11_act_2_L52
      have g13 : gI s1 70 3 = nI 60 := by
        rw [show gI s1 70 3 = gI st 70 3 from congrFun (oth 70 (by omega)) 3, g3, e60]
      rw [g13]
      have no : ∀ A' : Bk, FxR (mLink last 0 (mMk 4 A)) A' → A' 0 6 = 0 → False := fun A' f e => by
        have e2 := f.e0 e
        rw [link_s (by omega)] at e2
        exact mMk_0 (by decide) e2
      refine ⟨fun _ => ?_, fun q => absurd (nI_le (Nat.le_refl 60) (by omega)) q⟩
      refine ra_77_2 (A := mLink last 0 (mMk 4 A)) (y := 0) (x := 0) (z := 1) hP hph hS rfl (by omega) ?_ (fun a ha => ?_) (fun e => (no _ FxR.rf e).elim) (by rw [s05, s2]; exact hK) (h1.lk.opn (y := 0)) (fun t e => (no _ (fx_act (fun o => fx_blk) _) e).elim) hq
      · rw [link_s (by omega), mMk_s (by omega)]; omega
      · have := hol a ha
        rw [link_s (by omega), mMk_s (by omega)]; exact this
  · have F : wX11_act_2_L30 68 (nI 3) st Q := by
      unfold wX11_act_2_L30
      have m : mAct (mBlk 0) (mAddX A) (mLink last (mAddX A) (mAddA o A)) = (false, mLink last (mAddX A) (mAddA o A)) := by
        unfold mAct
        rw [s05, s2, if_neg (by omega), if_neg (by omega), if_neg (by omega), if_neg (by omega), if_neg (by omega)]
      rw [m] at hq
      refine r_wr hP.1 h (fun s1 h1 => hq.2 rfl s1 ⟨h1.1, ?_⟩)
      rw [h1.2]
      show _ = nI (tfr n tp (mLink last (mAddX A) (mAddA o A) 0 5))
      rw [s05]
    refine ⟨fun _ => F, fun n1 => ⟨fun _ => F, fun n2 => ⟨fun n3 => ?_, fun _ => F⟩⟩⟩
    rcases w2 hK with q | q | q
    · exact absurd q n1
    · exact absurd q n2
    · exact absurd q n3
theorem rb_2 (hP : P 68 ∧ P 70 ∧ P 75 ∧ P 76) (hph : ph = true) (hS : SBk n tp s0 P pd ph (fun st Q => wX11_block_1 68 (nI 3 + 1) st Q) (mBlk 0) 3) : SBk n tp s0 P pd ph (fun st Q => wX11_block_2 68 (nI 2 + 1) st Q) (mBlk 1) 2 := by
  intro op q0 c0 g0 h0 k o A st Q hol hod h1 h hq
  show wX11_block_2 68 (nI 3) st Q
  unfold wX11_block_2
  unfold mBlk at hq
  obtain ⟨k1, k2⟩ := r_kd h
  rw [k1, show (40 : Int32) = nI (rkd 4) from rfl, rkd_iff k2 (by omega)]
  refine ⟨fun w => ?_, fun w => ⟨fun _ => ?_, fun q => absurd (nI_le (a := 3) (b := 3) (by omega) (by omega)) q⟩⟩
  · unfold wX11_block_2_L14
    have m : mTk 4 A = (false, A) := by unfold mTk; rw [if_neg w]
    rw [m, bd_f rfl] at hq
    exact r_wr hP.1 h (fun s1 h1 => hq.2 rfl s1 h1)
  · have m : mTk 4 A = (true, u2 A 0 5 (A 0 5 + 1)) := by unfold mTk; rw [if_pos w]
    rw [m, bd_t rfl] at hq
    refine r_nx hP.1 h (by omega) (by omega) (fun s1 h1' _ => ?_)
    have a15 : u2 A 0 5 (A 0 5 + 1) 0 5 = A 0 5 + 1 := by rw [u2_a, if_pos ⟨rfl, rfl⟩]
    have a13 : u2 A 0 5 (A 0 5 + 1) 0 3 = A 0 3 := by rw [u2_a, if_neg (by omega)]
    have hod' : u2 A 0 5 (A 0 5 + 1) 0 6 = 0 → (o = 0 → 2 = 0) ∧ (o ≠ 0 → o ≤ u2 A 0 5 (A 0 5 + 1) 0 3 ∧ 2 = u2 A 0 5 (A 0 5 + 1) 12 (o - 1) + 1) := hod
    have hq : RO n tp s0 P op q0 c0 g0 h0 pd ph (k + 1) Q (mLoop (mAct (mBlk 0)) o 400 0 (u2 A 0 5 (A 0 5 + 1))) := hq
    generalize u2 A 0 5 (A 0 5 + 1) = As at h1' hq a15 a13 hod'
    have hdoS : As 0 6 = 0 → o ≤ As 0 3 ∧ (if o = 0 then 0 else As 12 (o - 1) + 1) = 2 := fun e => by
      obtain ⟨d1, d2⟩ := hod' e
      by_cases z : o = 0
      · rw [if_pos z]; exact ⟨by omega, (d1 z).symm⟩
      · rw [if_neg z]; exact ⟨(d2 z).1, (d2 z).2.symm⟩
    have key : ∀ (f last : Nat) (A : Bk) (st : St), 401 ≤ f + A 0 5 → (A 0 6 = 0 → As 0 6 = 0 ∧ LIn As o 2 last A) → As 0 3 ≤ A 0 3 → RP n tp s0 P op q0 c0 g0 h0 pd ph 0 (k + 1) A st → RO n tp s0 P op q0 c0 g0 h0 pd ph (k + 1) Q (mLoop (mAct (mBlk 0)) o f last A) → lp (fun R s => wX11_block_2_L23 68 (nI 3) R s.1 s.2 Q) (f + 1) (nI 3, st) := by
      intro f
      induction f with
      | zero =>
        intro last A st hf _ _ h _
        have := h.2.1.1
        have := h.2.1.2.1
        omega
      | succ f ih =>
        intro last A st hf hI hm h hq
        show wX11_block_2_L23 68 (nI 3) (lp (fun R s => wX11_block_2_L23 68 (nI 3) R s.1 s.2 Q) (f + 1)) (nI 3) st Q
        generalize lp (fun R s => wX11_block_2_L23 68 (nI 3) R s.1 s.2 Q) (f + 1) = RR at ih ⊢
        unfold wX11_block_2_L23
        unfold mLoop at hq
        obtain ⟨k1, k2⟩ := r_kd h
        rw [k1, show (41 : Int32) = nI (rkd 5) from rfl, rkd_iff k2 (by omega)]
        have hdo' : A 0 6 = 0 → o ≤ As 0 3 ∧ (if o = 0 then 0 else A 12 (o - 1) + 1) = 2 := fun e => by
          obtain ⟨i1, i2⟩ := hI e
          obtain ⟨d1, d2⟩ := hdoS i1
          refine ⟨d1, ?_⟩
          by_cases z : o = 0
          · exact (if_pos z).trans ((if_pos z).symm.trans d2)
          · rw [if_neg z] at d2 ⊢
            rw [i2.1.2.1 12 _ (by unfold ar; omega) (by omega)]; exact d2
        refine ⟨fun w => ?_, fun w => ?_⟩
        · rw [if_pos w] at hq
          have m5 : mTk 5 A = (true, u2 A 0 5 (A 0 5 + 1)) := by unfold mTk; rw [if_pos w]
          rw [m5] at hq
          exact r_nx hP.1 h (by omega) (by omega) (fun s2 h2 _ => hq.1 rfl s2 (h2.km (by omega)))
        · rw [if_neg w] at hq
          have hnA := h.2.1.nf
          have hlA := h.2.1.1
          have hTA := h.2.1.tl
          refine ra_act_2 (o := o) (last := last) hP hph hS (fun a ha => by have := hol a ha; omega) (fun e => (hdo' e).2) (fun e => ?_) h ⟨fun t s2 h2 => ⟨fun _ => ?_, fun q => absurd q (by decide)⟩, fun t s2 h2 => ⟨fun q => absurd rfl q, fun _ => ?_⟩⟩
          · by_cases z : last = 0
            · exact Or.inl z
            · exact Or.inr ((hI e).2.2.2.1 z).2.1
          · rw [bd_t t] at hq
            have adv := act_adv (blk := mBlk 0) (fun o => fx_blk) t
            have fxa : FxR (mLink last (mAddX A) (mAddA o A)) (mAct (mBlk 0) (mAddX A) (mLink last (mAddX A) (mAddA o A))).2 := fx_act (fun o => fx_blk) _
            have moa : mLink last (mAddX A) (mAddA o A) 0 3 ≤ (mAct (mBlk 0) (mAddX A) (mLink last (mAddX A) (mAddA o A))).2 0 3 := mo_act (fun o => mo_blk) _
            have s05 : mLink last (mAddX A) (mAddA o A) 0 5 = A 0 5 := by
              rw [link_s (by omega)]
              by_cases q : A 0 3 < 60
              · exact addA_s q (by omega)
              · unfold mAddA; rw [if_neg q]; exact mMk_s (by omega)
            have s03 : A 0 3 ≤ mLink last (mAddX A) (mAddA o A) 0 3 := by rw [link_s (by omega), addA_3]; split <;> omega
            refine ih (mAddX A) _ s2 (by omega) (fun e => ?_) (by omega) (h2.km (by omega)) hq
            have e2 := (fx_addA (o := o) (A := A)).tr (fx_link (last := last) (x := mAddX A)) |>.e0 (fxa.e0 e)
            have h60 : A 0 3 < 60 := by
              apply Nat.lt_of_not_le
              intro z
              have e3 := (fx_link (last := last) (x := mAddX A) (A := mAddA o A)).e0 (fxa.e0 e)
              unfold mAddA at e3
              rw [if_neg (by omega)] at e3
              exact mMk_0 (by decide) e3
            obtain ⟨i1, i2⟩ := hI e2
            exact ⟨i1, ls_act (K := 0) (dp := 2) rfl i2 (hdo' e2).1 (hdo' e2).2 hnA hlA hTA h60 t e⟩
          · rw [bd_f t] at hq
            exact hq.2 rfl s2 h2
    exact ⟨401, key 400 0 As s1 (by omega) (fun e => ⟨e, ⟨FxR.rf, fun _ _ _ _ => rfl, Nat.le_refl _, Nat.le_refl _, fun _ _ => rfl, Nat.le_refl _⟩, fun _ => ⟨rfl, rfl⟩, fun z => absurd rfl z, fun b hb1 hb2 => by omega⟩) (Nat.le_refl _) h1' hq⟩
theorem ra_77_3 {x : Nat} (hP : P 68 ∧ P 70 ∧ P 75 ∧ P 76) (hph : ph = true) (hS : SBk n tp s0 P pd ph (fun st Q => wX11_block_2 68 (nI 2 + 1) st Q) (mBlk 1) 2) (hy : y = x - 1) (hz : z ≤ 1) (hyl : y < A 0 3) (hol : ∀ a, op a → a < A 0 3) (hAH : A 0 6 = 0 → AH x A ∧ 2 = A 12 (x - 1) + 1) (hK : A 10 (A 0 5) = 16 ∨ A 10 (A 0 5) = 18 ∨ A 10 (A 0 5) = 19 ∨ A 10 (A 0 5) = 20 ∨ A 10 (A 0 5) = 21 ∨ A 10 (A 0 5) = 22 ∨ A 10 (A 0 5) = 23)
    (h : RP n tp s0 P (fun a => op a ∨ a = y) q0 c0 g0 h0 pd ph z k A st) (hAN : AN x A (mAct (mBlk 1) x A)) (hq : RO n tp s0 P op q0 c0 g0 h0 pd ph (k + 2) Q (mAct (mBlk 1) x A)) : wX11_act_3_L77 68 (nI 2) (nI 2) st Q := by
  unfold wX11_act_3_L77
  have k1 := (r_kd h).1
  rw [(act_code _ (by omega)).1 hK |>.2.2.2] at k1
  intro x5 e5
  rw [k1] at e5
  refine r_nx hP.1 h hz (by omega) (fun s6 h6 _ => ?_)
  have P3 : P 68 ∧ P 70 ∧ P 75 := ⟨hP.1, hP.2.1, hP.2.2.1⟩
  unfold mAct at hAN hq
  have sim : (A 10 (A 0 5) = 18 ∨ A 10 (A 0 5) = 19 ∨ A 10 (A 0 5) = 20) → wX11_act_3_L154 68 (nI 2) (nI (189 + A 10 (A 0 5))) s6 Q := fun hk => by
    rw [if_neg (by omega), if_pos hk] at hAN hq
    unfold wX11_act_3_L154
    exact ra_sim P3 hy hk rfl h6 hAN hq
  rcases hK with e | e | e | e | e | e | e
  · rw [e] at e5
    rw [e5]
    rw [if_pos e] at hAN hq
    exact ⟨fun q => absurd q (by decide), fun _ => ra_send P3 hph hy e h6 hAN hq, fun q => absurd q (by decide), fun q => absurd q (by decide), fun q => absurd q (by decide), fun q => absurd q (by decide), fun q => absurd q (by decide), fun q => absurd q (by decide), fun q => absurd q (by decide)⟩
  · have S := sim (by omega)
    rw [e] at e5 S
    rw [e5]
    exact ⟨fun _ => S, fun q => absurd q (by decide), fun _ => S, fun _ => S, fun _ => S, fun _ => S, fun q => absurd q (by decide), fun q => absurd q (by decide), fun q => absurd q (by decide)⟩
  · have S := sim (by omega)
    rw [e] at e5 S
    rw [e5]
    exact ⟨fun _ => S, fun q => absurd q (by decide), fun _ => S, fun _ => S, fun _ => S, fun _ => S, fun q => absurd q (by decide), fun q => absurd q (by decide), fun q => absurd q (by decide)⟩
  · have S := sim (by omega)
    rw [e] at e5 S
    rw [e5]
    exact ⟨fun _ => S, fun q => absurd q (by decide), fun _ => S, fun _ => S, fun _ => S, fun _ => S, fun q => absurd q (by decide), fun q => absurd q (by decide), fun q => absurd q (by decide)⟩
  · rw [e] at e5
    rw [e5]
    rw [if_neg (by omega), if_neg (by omega), if_pos e] at hAN hq
    exact ⟨fun q => absurd q (by decide), fun q => absurd q (by decide), fun q => absurd q (by decide), fun q => absurd q (by decide), fun q => absurd q (by decide), fun q => absurd q (by decide), fun _ => ra_do P3 hph hy e h6 hAN hq, fun q => absurd q (by decide), fun q => absurd q (by decide)⟩
  · rw [e] at e5
    rw [e5]
    rw [if_neg (by omega), if_neg (by omega), if_neg (by omega), if_pos e] at hAN hq
    refine ⟨fun q => absurd q (by decide), fun q => absurd q (by decide), fun q => absurd q (by decide), fun q => absurd q (by decide), fun q => absurd q (by decide), fun q => absurd q (by decide), fun q => absurd q (by decide), fun _ => ?_, fun q => absurd q (by decide)⟩
    unfold wX11_loop_3
    exact ra_while hP (fun o => fx_blk) (fun o => mo_blk) (p_blk (k := 1) (dp := 2) rfl) hS hy hyl hol hAH e h6 hAN hq
  · rw [e] at e5
    rw [e5]
    rw [if_neg (by omega), if_neg (by omega), if_neg (by omega), if_neg (by omega), if_pos e] at hAN hq
    refine ⟨fun q => absurd q (by decide), fun q => absurd q (by decide), fun q => absurd q (by decide), fun q => absurd q (by decide), fun q => absurd q (by decide), fun q => absurd q (by decide), fun q => absurd q (by decide), fun q => absurd q (by decide), fun _ => ?_⟩
    unfold wX11_choice_3
    exact ra_if hP (fun o => fx_blk) (fun o => mo_blk) (p_blk (k := 1) (dp := 2) rfl) hS hy hyl hol hAH e h6 hAN hq (fun v3 s0' st => wX11_choice_3_L64 68 (nI 2) (nI 2) v3 s0' st Q) (fun v3 s0' st hh => by unfold wX11_choice_3_L64; exact hh)
theorem ra_act_3 {o last : Nat} (hP : P 68 ∧ P 70 ∧ P 75 ∧ P 76) (hph : ph = true) (hS : SBk n tp s0 P pd ph (fun st Q => wX11_block_2 68 (nI 2 + 1) st Q) (mBlk 1) 2) (hol : ∀ a, op a → a < A 0 3) (hd : A 0 6 = 0 → (if o = 0 then 0 else A 12 (o - 1) + 1) = 1) (hla : A 0 6 = 0 → last = 0 ∨ last - 1 < A 0 3) (h : RP n tp s0 P op q0 c0 g0 h0 pd ph 0 k A st) (hq : RO n tp s0 P op q0 c0 g0 h0 pd ph (k + 2) Q (mAct (mBlk 1) (mAddX A) (mLink last (mAddX A) (mAddA o A)))) : wX11_act_3 68 (nI 2) st Q := by
  unfold wX11_act_3
  obtain ⟨k1, k2⟩ := r_kd h
  have hT := h.2.1.tl
  have hN := h.2.1.nf
  have h60 := h.2.2.1.2.2.2.1
  have g3 := h.2.2.2.1.2.2.2.1
  rw [k1, g3]
  obtain ⟨w1, w2⟩ := act_code _ (show A 10 (A 0 5) < 37 by omega)
  have s2 : ∀ i, mLink last (mAddX A) (mAddA o A) 10 i = A 10 i := fun i => by
    rw [link_s (by omega)]; exact fx_addA.1 10 i (by unfold fxr; omega)
  have s05 : mLink last (mAddX A) (mAddA o A) 0 5 = A 0 5 := by
    rw [link_s (by omega)]
    by_cases q : A 0 3 < 60
    · exact addA_s q (by omega)
    · unfold mAddA; rw [if_neg q]; exact mMk_s (by omega)
  by_cases hK : A 10 (A 0 5) = 16 ∨ A 10 (A 0 5) = 18 ∨ A 10 (A 0 5) = 19 ∨ A 10 (A 0 5) = 20 ∨ A 10 (A 0 5) = 21 ∨ A 10 (A 0 5) = 22 ∨ A 10 (A 0 5) = 23
  · obtain ⟨v1, v2, v3, v4⟩ := w1 hK
    refine ⟨fun q => absurd q v1, fun _ => ⟨fun q => absurd q v2, fun _ => ⟨fun _ => ?_, fun q => absurd q v3⟩⟩⟩
    by_cases hlt : A 0 3 < 60
    · refine ⟨fun _ => ?_, fun q => absurd ((nI_eq (b := 60) (by omega) (by omega)).mp q) (by omega)⟩
      unfold wX11_act_3_L52
      rw [g3]
      refine ⟨fun q => absurd ((nI_leI (a := 60) (by omega) (by omega)).mp q) (by omega), fun _ => ?_⟩
      rw [nI_1]
      intro s4 e4
      have hx : mAddX A = A 0 3 + 1 := by unfold mAddX; rw [if_pos hlt]
      rw [hx] at hq s2 s05
      have hB : RP n tp s0 P (fun a => op a ∨ a = A 0 3) q0 c0 g0 h0 pd ph 0 k (mLink last (A 0 3 + 1) (mAddA o A)) s4 := (h.add (o := o) hP.2.1 hlt rfl e4).lk
      obtain ⟨u5, u6, u7, u8, u9, u12, u13, u18, u03⟩ := addA_v (o := o) hlt
      have ls : ∀ r k, r ≠ 7 → mLink last (A 0 3 + 1) (mAddA o A) r k = mAddA o A r k := fun r k w => link_s w
      have a1 : ∀ k, k ≠ 3 → mLink last (A 0 3 + 1) (mAddA o A) 0 k = A 0 k := fun k hk => by rw [ls 0 k (by omega), addA_s hlt (by omega)]
      have n2 : NF (mLink last (A 0 3 + 1) (mAddA o A)) := hN.addA.link
      have T2 : TkL (mLink last (A 0 3 + 1) (mAddA o A)) := hT.fx (fx_addA.tr fx_link)
      have l2 : mLink last (A 0 3 + 1) (mAddA o A) 0 5 < mLink last (A 0 3 + 1) (mAddA o A) 0 4 := hB.2.1.1
      have x3 : mLink last (A 0 3 + 1) (mAddA o A) 0 3 = A 0 3 + 1 := by rw [ls 0 3 (by omega), u03]
      have ah : AH (A 0 3 + 1) (mLink last (A 0 3 + 1) (mAddA o A)) := by
        refine ⟨n2, l2, T2, by omega, x3, ?_, ?_, ?_, ?_, ?_⟩
        · rw [a1 5 (by omega), ls 5 _ (by omega)]; exact u5
        · rw [a1 8 (by omega), ls 18 _ (by omega)]; exact u18
        · rw [a1 2 (by omega), ls 13 _ (by omega)]; exact u13
        · rw [ls 8 _ (by omega)]; exact u8
        · rw [ls 9 _ (by omega)]; exact u9
      have x12 : A 0 6 = 0 → mLink last (A 0 3 + 1) (mAddA o A) 12 (A 0 3 + 1 - 1) = 1 := fun e => by rw [ls 12 _ (by omega), show A 0 3 + 1 - 1 = A 0 3 by omega, u12]; exact hd e
      have e06 := a1 6 (by omega)
      refine ra_77_3 (y := A 0 3) (x := A 0 3 + 1) (z := 0) hP hph hS (by omega) (by omega) (by omega) (fun a ha => by have := hol a ha; omega) (fun e => ⟨ah, ?_⟩) (by rw [s05, s2]; exact hK) hB (fun t e => ?_) hq
      · rw [x12 (by omega)]
      · have e2 : mLink last (A 0 3 + 1) (mAddA o A) 0 6 = 0 := (fx_act (fun o => fx_blk) _).e0 e
        have e0 : A 0 6 = 0 := by omega
        have q12 := x12 e0
        refine ⟨p_act (F := fun A' => AQ (A 0 3 + 1) (mLink last (A 0 3 + 1) (mAddA o A)) A') (dp := 2) (fun o => fx_blk) (p_blk (k := 1) (dp := 2) rfl) ah (by rw [q12]) (fun A' a _ _ => a) t e, by omega, ah.2.2.2.2.2.1, ?_, by omega, ah.2.2.2.2.2.2.1, l2, n2, T2⟩
        rcases hla e0 with q | q
        · unfold mLink
          rw [if_pos q]; exact u7
        · by_cases ql : last = 0
          · unfold mLink
            rw [if_pos ql]; exact u7
          · unfold mLink
            rw [if_neg ql, u2_a, if_neg (by omega)]; exact u7
    · have e60 : A 0 3 = 60 := by omega
      refine ⟨fun q => absurd (by rw [e60]; rfl) q, fun _ => ?_⟩
      have hx : mAddX A = 0 := by unfold mAddX; rw [if_neg hlt]
      have ha : mAddA o A = mMk 4 A := by unfold mAddA; rw [if_neg hlt]
      rw [hx, ha] at hq s2 s05
      refine r_note (e := 4) hP.1 h (by omega) (by omega) (by omega) (fun _ q => by have := h.2.2.2.2.1.2.2.2.2; omega) (fun s1 h1 oth _ _ => ?_)
      unfold wX11_act_3_L52
      have g13 : gI s1 70 3 = nI 60 := by
        rw [show gI s1 70 3 = gI st 70 3 from congrFun (oth 70 (by omega)) 3, g3, e60]
      rw [g13]
      have no : ∀ A' : Bk, FxR (mLink last 0 (mMk 4 A)) A' → A' 0 6 = 0 → False := fun A' f e => by
        have e2 := f.e0 e
        rw [link_s (by omega)] at e2
        exact mMk_0 (by decide) e2
      refine ⟨fun _ => ?_, fun q => absurd (nI_le (Nat.le_refl 60) (by omega)) q⟩
      refine ra_77_3 (A := mLink last 0 (mMk 4 A)) (y := 0) (x := 0) (z := 1) hP hph hS rfl (by omega) ?_ (fun a ha => ?_) (fun e => (no _ FxR.rf e).elim) (by rw [s05, s2]; exact hK) (h1.lk.opn (y := 0)) (fun t e => (no _ (fx_act (fun o => fx_blk) _) e).elim) hq
      · rw [link_s (by omega), mMk_s (by omega)]; omega
      · have := hol a ha
        rw [link_s (by omega), mMk_s (by omega)]; exact this
  · have F : wX11_act_3_L30 68 (nI 2) st Q := by
      unfold wX11_act_3_L30
      have m : mAct (mBlk 1) (mAddX A) (mLink last (mAddX A) (mAddA o A)) = (false, mLink last (mAddX A) (mAddA o A)) := by
        unfold mAct
        rw [s05, s2, if_neg (by omega), if_neg (by omega), if_neg (by omega), if_neg (by omega), if_neg (by omega)]
      rw [m] at hq
      refine r_wr hP.1 h (fun s1 h1 => hq.2 rfl s1 ⟨h1.1, ?_⟩)
      rw [h1.2]
      show _ = nI (tfr n tp (mLink last (mAddX A) (mAddA o A) 0 5))
      rw [s05]
    refine ⟨fun _ => F, fun n1 => ⟨fun _ => F, fun n2 => ⟨fun n3 => ?_, fun _ => F⟩⟩⟩
    rcases w2 hK with q | q | q
    · exact absurd q n1
    · exact absurd q n2
    · exact absurd q n3
theorem rb_3 (hP : P 68 ∧ P 70 ∧ P 75 ∧ P 76) (hph : ph = true) (hS : SBk n tp s0 P pd ph (fun st Q => wX11_block_2 68 (nI 2 + 1) st Q) (mBlk 1) 2) : SBk n tp s0 P pd ph (fun st Q => wX11_block_3 68 (nI 1 + 1) st Q) (mBlk 2) 1 := by
  intro op q0 c0 g0 h0 k o A st Q hol hod h1 h hq
  show wX11_block_3 68 (nI 2) st Q
  unfold wX11_block_3
  unfold mBlk at hq
  obtain ⟨k1, k2⟩ := r_kd h
  rw [k1, show (40 : Int32) = nI (rkd 4) from rfl, rkd_iff k2 (by omega)]
  refine ⟨fun w => ?_, fun w => ⟨fun _ => ?_, fun q => absurd (nI_le (a := 2) (b := 3) (by omega) (by omega)) q⟩⟩
  · unfold wX11_block_3_L14
    have m : mTk 4 A = (false, A) := by unfold mTk; rw [if_neg w]
    rw [m, bd_f rfl] at hq
    exact r_wr hP.1 h (fun s1 h1 => hq.2 rfl s1 h1)
  · have m : mTk 4 A = (true, u2 A 0 5 (A 0 5 + 1)) := by unfold mTk; rw [if_pos w]
    rw [m, bd_t rfl] at hq
    refine r_nx hP.1 h (by omega) (by omega) (fun s1 h1' _ => ?_)
    have a15 : u2 A 0 5 (A 0 5 + 1) 0 5 = A 0 5 + 1 := by rw [u2_a, if_pos ⟨rfl, rfl⟩]
    have a13 : u2 A 0 5 (A 0 5 + 1) 0 3 = A 0 3 := by rw [u2_a, if_neg (by omega)]
    have hod' : u2 A 0 5 (A 0 5 + 1) 0 6 = 0 → (o = 0 → 1 = 0) ∧ (o ≠ 0 → o ≤ u2 A 0 5 (A 0 5 + 1) 0 3 ∧ 1 = u2 A 0 5 (A 0 5 + 1) 12 (o - 1) + 1) := hod
    have hq : RO n tp s0 P op q0 c0 g0 h0 pd ph (k + 1) Q (mLoop (mAct (mBlk 1)) o 400 0 (u2 A 0 5 (A 0 5 + 1))) := hq
    generalize u2 A 0 5 (A 0 5 + 1) = As at h1' hq a15 a13 hod'
    have hdoS : As 0 6 = 0 → o ≤ As 0 3 ∧ (if o = 0 then 0 else As 12 (o - 1) + 1) = 1 := fun e => by
      obtain ⟨d1, d2⟩ := hod' e
      by_cases z : o = 0
      · rw [if_pos z]; exact ⟨by omega, (d1 z).symm⟩
      · rw [if_neg z]; exact ⟨(d2 z).1, (d2 z).2.symm⟩
    have key : ∀ (f last : Nat) (A : Bk) (st : St), 401 ≤ f + A 0 5 → (A 0 6 = 0 → As 0 6 = 0 ∧ LIn As o 1 last A) → As 0 3 ≤ A 0 3 → RP n tp s0 P op q0 c0 g0 h0 pd ph 0 (k + 1) A st → RO n tp s0 P op q0 c0 g0 h0 pd ph (k + 1) Q (mLoop (mAct (mBlk 1)) o f last A) → lp (fun R s => wX11_block_3_L23 68 (nI 2) R s.1 s.2 Q) (f + 1) (nI 2, st) := by
      intro f
      induction f with
      | zero =>
        intro last A st hf _ _ h _
        have := h.2.1.1
        have := h.2.1.2.1
        omega
      | succ f ih =>
        intro last A st hf hI hm h hq
        show wX11_block_3_L23 68 (nI 2) (lp (fun R s => wX11_block_3_L23 68 (nI 2) R s.1 s.2 Q) (f + 1)) (nI 2) st Q
        generalize lp (fun R s => wX11_block_3_L23 68 (nI 2) R s.1 s.2 Q) (f + 1) = RR at ih ⊢
        unfold wX11_block_3_L23
        unfold mLoop at hq
        obtain ⟨k1, k2⟩ := r_kd h
        rw [k1, show (41 : Int32) = nI (rkd 5) from rfl, rkd_iff k2 (by omega)]
        have hdo' : A 0 6 = 0 → o ≤ As 0 3 ∧ (if o = 0 then 0 else A 12 (o - 1) + 1) = 1 := fun e => by
          obtain ⟨i1, i2⟩ := hI e
          obtain ⟨d1, d2⟩ := hdoS i1
          refine ⟨d1, ?_⟩
          by_cases z : o = 0
          · exact (if_pos z).trans ((if_pos z).symm.trans d2)
          · rw [if_neg z] at d2 ⊢
            rw [i2.1.2.1 12 _ (by unfold ar; omega) (by omega)]; exact d2
        refine ⟨fun w => ?_, fun w => ?_⟩
        · rw [if_pos w] at hq
          have m5 : mTk 5 A = (true, u2 A 0 5 (A 0 5 + 1)) := by unfold mTk; rw [if_pos w]
          rw [m5] at hq
          exact r_nx hP.1 h (by omega) (by omega) (fun s2 h2 _ => hq.1 rfl s2 (h2.km (by omega)))
        · rw [if_neg w] at hq
          have hnA := h.2.1.nf
          have hlA := h.2.1.1
          have hTA := h.2.1.tl
          refine ra_act_3 (o := o) (last := last) hP hph hS (fun a ha => by have := hol a ha; omega) (fun e => (hdo' e).2) (fun e => ?_) h ⟨fun t s2 h2 => ⟨fun _ => ?_, fun q => absurd q (by decide)⟩, fun t s2 h2 => ⟨fun q => absurd rfl q, fun _ => ?_⟩⟩
          · by_cases z : last = 0
            · exact Or.inl z
            · exact Or.inr ((hI e).2.2.2.1 z).2.1
          · rw [bd_t t] at hq
            have adv := act_adv (blk := mBlk 1) (fun o => fx_blk) t
            have fxa : FxR (mLink last (mAddX A) (mAddA o A)) (mAct (mBlk 1) (mAddX A) (mLink last (mAddX A) (mAddA o A))).2 := fx_act (fun o => fx_blk) _
            have moa : mLink last (mAddX A) (mAddA o A) 0 3 ≤ (mAct (mBlk 1) (mAddX A) (mLink last (mAddX A) (mAddA o A))).2 0 3 := mo_act (fun o => mo_blk) _
            have s05 : mLink last (mAddX A) (mAddA o A) 0 5 = A 0 5 := by
              rw [link_s (by omega)]
              by_cases q : A 0 3 < 60
              · exact addA_s q (by omega)
              · unfold mAddA; rw [if_neg q]; exact mMk_s (by omega)
            have s03 : A 0 3 ≤ mLink last (mAddX A) (mAddA o A) 0 3 := by rw [link_s (by omega), addA_3]; split <;> omega
            refine ih (mAddX A) _ s2 (by omega) (fun e => ?_) (by omega) (h2.km (by omega)) hq
            have e2 := (fx_addA (o := o) (A := A)).tr (fx_link (last := last) (x := mAddX A)) |>.e0 (fxa.e0 e)
            have h60 : A 0 3 < 60 := by
              apply Nat.lt_of_not_le
              intro z
              have e3 := (fx_link (last := last) (x := mAddX A) (A := mAddA o A)).e0 (fxa.e0 e)
              unfold mAddA at e3
              rw [if_neg (by omega)] at e3
              exact mMk_0 (by decide) e3
            obtain ⟨i1, i2⟩ := hI e2
            exact ⟨i1, ls_act (K := 1) (dp := 1) rfl i2 (hdo' e2).1 (hdo' e2).2 hnA hlA hTA h60 t e⟩
          · rw [bd_f t] at hq
            exact hq.2 rfl s2 h2
    exact ⟨401, key 400 0 As s1 (by omega) (fun e => ⟨e, ⟨FxR.rf, fun _ _ _ _ => rfl, Nat.le_refl _, Nat.le_refl _, fun _ _ => rfl, Nat.le_refl _⟩, fun _ => ⟨rfl, rfl⟩, fun z => absurd rfl z, fun b hb1 hb2 => by omega⟩) (Nat.le_refl _) h1' hq⟩
theorem ra_77_4 {x : Nat} (hP : P 68 ∧ P 70 ∧ P 75 ∧ P 76) (hph : ph = true) (hS : SBk n tp s0 P pd ph (fun st Q => wX11_block_3 68 (nI 1 + 1) st Q) (mBlk 2) 1) (hy : y = x - 1) (hz : z ≤ 1) (hyl : y < A 0 3) (hol : ∀ a, op a → a < A 0 3) (hAH : A 0 6 = 0 → AH x A ∧ 1 = A 12 (x - 1) + 1) (hK : A 10 (A 0 5) = 16 ∨ A 10 (A 0 5) = 18 ∨ A 10 (A 0 5) = 19 ∨ A 10 (A 0 5) = 20 ∨ A 10 (A 0 5) = 21 ∨ A 10 (A 0 5) = 22 ∨ A 10 (A 0 5) = 23)
    (h : RP n tp s0 P (fun a => op a ∨ a = y) q0 c0 g0 h0 pd ph z k A st) (hAN : AN x A (mAct (mBlk 2) x A)) (hq : RO n tp s0 P op q0 c0 g0 h0 pd ph (k + 2) Q (mAct (mBlk 2) x A)) : wX11_act_4_L77 68 (nI 1) (nI 1) st Q := by
  unfold wX11_act_4_L77
  have k1 := (r_kd h).1
  rw [(act_code _ (by omega)).1 hK |>.2.2.2] at k1
  intro x5 e5
  rw [k1] at e5
  refine r_nx hP.1 h hz (by omega) (fun s6 h6 _ => ?_)
  have P3 : P 68 ∧ P 70 ∧ P 75 := ⟨hP.1, hP.2.1, hP.2.2.1⟩
  unfold mAct at hAN hq
  have sim : (A 10 (A 0 5) = 18 ∨ A 10 (A 0 5) = 19 ∨ A 10 (A 0 5) = 20) → wX11_act_4_L154 68 (nI 1) (nI (189 + A 10 (A 0 5))) s6 Q := fun hk => by
    rw [if_neg (by omega), if_pos hk] at hAN hq
    unfold wX11_act_4_L154
    exact ra_sim P3 hy hk rfl h6 hAN hq
  rcases hK with e | e | e | e | e | e | e
  · rw [e] at e5
    rw [e5]
    rw [if_pos e] at hAN hq
    exact ⟨fun q => absurd q (by decide), fun _ => ra_send P3 hph hy e h6 hAN hq, fun q => absurd q (by decide), fun q => absurd q (by decide), fun q => absurd q (by decide), fun q => absurd q (by decide), fun q => absurd q (by decide), fun q => absurd q (by decide), fun q => absurd q (by decide)⟩
  · have S := sim (by omega)
    rw [e] at e5 S
    rw [e5]
    exact ⟨fun _ => S, fun q => absurd q (by decide), fun _ => S, fun _ => S, fun _ => S, fun _ => S, fun q => absurd q (by decide), fun q => absurd q (by decide), fun q => absurd q (by decide)⟩
  · have S := sim (by omega)
    rw [e] at e5 S
    rw [e5]
    exact ⟨fun _ => S, fun q => absurd q (by decide), fun _ => S, fun _ => S, fun _ => S, fun _ => S, fun q => absurd q (by decide), fun q => absurd q (by decide), fun q => absurd q (by decide)⟩
  · have S := sim (by omega)
    rw [e] at e5 S
    rw [e5]
    exact ⟨fun _ => S, fun q => absurd q (by decide), fun _ => S, fun _ => S, fun _ => S, fun _ => S, fun q => absurd q (by decide), fun q => absurd q (by decide), fun q => absurd q (by decide)⟩
  · rw [e] at e5
    rw [e5]
    rw [if_neg (by omega), if_neg (by omega), if_pos e] at hAN hq
    exact ⟨fun q => absurd q (by decide), fun q => absurd q (by decide), fun q => absurd q (by decide), fun q => absurd q (by decide), fun q => absurd q (by decide), fun q => absurd q (by decide), fun _ => ra_do P3 hph hy e h6 hAN hq, fun q => absurd q (by decide), fun q => absurd q (by decide)⟩
  · rw [e] at e5
    rw [e5]
    rw [if_neg (by omega), if_neg (by omega), if_neg (by omega), if_pos e] at hAN hq
    refine ⟨fun q => absurd q (by decide), fun q => absurd q (by decide), fun q => absurd q (by decide), fun q => absurd q (by decide), fun q => absurd q (by decide), fun q => absurd q (by decide), fun q => absurd q (by decide), fun _ => ?_, fun q => absurd q (by decide)⟩
    unfold wX11_loop_4
    exact ra_while hP (fun o => fx_blk) (fun o => mo_blk) (p_blk (k := 2) (dp := 1) rfl) hS hy hyl hol hAH e h6 hAN hq
  · rw [e] at e5
    rw [e5]
    rw [if_neg (by omega), if_neg (by omega), if_neg (by omega), if_neg (by omega), if_pos e] at hAN hq
    refine ⟨fun q => absurd q (by decide), fun q => absurd q (by decide), fun q => absurd q (by decide), fun q => absurd q (by decide), fun q => absurd q (by decide), fun q => absurd q (by decide), fun q => absurd q (by decide), fun q => absurd q (by decide), fun _ => ?_⟩
    unfold wX11_choice_4
    exact ra_if hP (fun o => fx_blk) (fun o => mo_blk) (p_blk (k := 2) (dp := 1) rfl) hS hy hyl hol hAH e h6 hAN hq (fun v3 s0' st => wX11_choice_4_L64 68 (nI 1) (nI 1) v3 s0' st Q) (fun v3 s0' st hh => by unfold wX11_choice_4_L64; exact hh)
theorem ra_act_4 {o last : Nat} (hP : P 68 ∧ P 70 ∧ P 75 ∧ P 76) (hph : ph = true) (hS : SBk n tp s0 P pd ph (fun st Q => wX11_block_3 68 (nI 1 + 1) st Q) (mBlk 2) 1) (hol : ∀ a, op a → a < A 0 3) (hd : A 0 6 = 0 → (if o = 0 then 0 else A 12 (o - 1) + 1) = 0) (hla : A 0 6 = 0 → last = 0 ∨ last - 1 < A 0 3) (h : RP n tp s0 P op q0 c0 g0 h0 pd ph 0 k A st) (hq : RO n tp s0 P op q0 c0 g0 h0 pd ph (k + 2) Q (mAct (mBlk 2) (mAddX A) (mLink last (mAddX A) (mAddA o A)))) : wX11_act_4 68 (nI 1) st Q := by
  unfold wX11_act_4
  obtain ⟨k1, k2⟩ := r_kd h
  have hT := h.2.1.tl
  have hN := h.2.1.nf
  have h60 := h.2.2.1.2.2.2.1
  have g3 := h.2.2.2.1.2.2.2.1
  rw [k1, g3]
  obtain ⟨w1, w2⟩ := act_code _ (show A 10 (A 0 5) < 37 by omega)
  have s2 : ∀ i, mLink last (mAddX A) (mAddA o A) 10 i = A 10 i := fun i => by
    rw [link_s (by omega)]; exact fx_addA.1 10 i (by unfold fxr; omega)
  have s05 : mLink last (mAddX A) (mAddA o A) 0 5 = A 0 5 := by
    rw [link_s (by omega)]
    by_cases q : A 0 3 < 60
    · exact addA_s q (by omega)
    · unfold mAddA; rw [if_neg q]; exact mMk_s (by omega)
  by_cases hK : A 10 (A 0 5) = 16 ∨ A 10 (A 0 5) = 18 ∨ A 10 (A 0 5) = 19 ∨ A 10 (A 0 5) = 20 ∨ A 10 (A 0 5) = 21 ∨ A 10 (A 0 5) = 22 ∨ A 10 (A 0 5) = 23
  · obtain ⟨v1, v2, v3, v4⟩ := w1 hK
    refine ⟨fun q => absurd q v1, fun _ => ⟨fun q => absurd q v2, fun _ => ⟨fun _ => ?_, fun q => absurd q v3⟩⟩⟩
    by_cases hlt : A 0 3 < 60
    · refine ⟨fun _ => ?_, fun q => absurd ((nI_eq (b := 60) (by omega) (by omega)).mp q) (by omega)⟩
      unfold wX11_act_4_L52
      rw [g3]
      refine ⟨fun q => absurd ((nI_leI (a := 60) (by omega) (by omega)).mp q) (by omega), fun _ => ?_⟩
      rw [nI_1]
      intro s4 e4
      have hx : mAddX A = A 0 3 + 1 := by unfold mAddX; rw [if_pos hlt]
      rw [hx] at hq s2 s05
      have hB : RP n tp s0 P (fun a => op a ∨ a = A 0 3) q0 c0 g0 h0 pd ph 0 k (mLink last (A 0 3 + 1) (mAddA o A)) s4 := (h.add (o := o) hP.2.1 hlt rfl e4).lk
      obtain ⟨u5, u6, u7, u8, u9, u12, u13, u18, u03⟩ := addA_v (o := o) hlt
      have ls : ∀ r k, r ≠ 7 → mLink last (A 0 3 + 1) (mAddA o A) r k = mAddA o A r k := fun r k w => link_s w
      have a1 : ∀ k, k ≠ 3 → mLink last (A 0 3 + 1) (mAddA o A) 0 k = A 0 k := fun k hk => by rw [ls 0 k (by omega), addA_s hlt (by omega)]
      have n2 : NF (mLink last (A 0 3 + 1) (mAddA o A)) := hN.addA.link
      have T2 : TkL (mLink last (A 0 3 + 1) (mAddA o A)) := hT.fx (fx_addA.tr fx_link)
      have l2 : mLink last (A 0 3 + 1) (mAddA o A) 0 5 < mLink last (A 0 3 + 1) (mAddA o A) 0 4 := hB.2.1.1
      have x3 : mLink last (A 0 3 + 1) (mAddA o A) 0 3 = A 0 3 + 1 := by rw [ls 0 3 (by omega), u03]
      have ah : AH (A 0 3 + 1) (mLink last (A 0 3 + 1) (mAddA o A)) := by
        refine ⟨n2, l2, T2, by omega, x3, ?_, ?_, ?_, ?_, ?_⟩
        · rw [a1 5 (by omega), ls 5 _ (by omega)]; exact u5
        · rw [a1 8 (by omega), ls 18 _ (by omega)]; exact u18
        · rw [a1 2 (by omega), ls 13 _ (by omega)]; exact u13
        · rw [ls 8 _ (by omega)]; exact u8
        · rw [ls 9 _ (by omega)]; exact u9
      have x12 : A 0 6 = 0 → mLink last (A 0 3 + 1) (mAddA o A) 12 (A 0 3 + 1 - 1) = 0 := fun e => by rw [ls 12 _ (by omega), show A 0 3 + 1 - 1 = A 0 3 by omega, u12]; exact hd e
      have e06 := a1 6 (by omega)
      refine ra_77_4 (y := A 0 3) (x := A 0 3 + 1) (z := 0) hP hph hS (by omega) (by omega) (by omega) (fun a ha => by have := hol a ha; omega) (fun e => ⟨ah, ?_⟩) (by rw [s05, s2]; exact hK) hB (fun t e => ?_) hq
      · rw [x12 (by omega)]
      · have e2 : mLink last (A 0 3 + 1) (mAddA o A) 0 6 = 0 := (fx_act (fun o => fx_blk) _).e0 e
        have e0 : A 0 6 = 0 := by omega
        have q12 := x12 e0
        refine ⟨p_act (F := fun A' => AQ (A 0 3 + 1) (mLink last (A 0 3 + 1) (mAddA o A)) A') (dp := 1) (fun o => fx_blk) (p_blk (k := 2) (dp := 1) rfl) ah (by rw [q12]) (fun A' a _ _ => a) t e, by omega, ah.2.2.2.2.2.1, ?_, by omega, ah.2.2.2.2.2.2.1, l2, n2, T2⟩
        rcases hla e0 with q | q
        · unfold mLink
          rw [if_pos q]; exact u7
        · by_cases ql : last = 0
          · unfold mLink
            rw [if_pos ql]; exact u7
          · unfold mLink
            rw [if_neg ql, u2_a, if_neg (by omega)]; exact u7
    · have e60 : A 0 3 = 60 := by omega
      refine ⟨fun q => absurd (by rw [e60]; rfl) q, fun _ => ?_⟩
      have hx : mAddX A = 0 := by unfold mAddX; rw [if_neg hlt]
      have ha : mAddA o A = mMk 4 A := by unfold mAddA; rw [if_neg hlt]
      rw [hx, ha] at hq s2 s05
      refine r_note (e := 4) hP.1 h (by omega) (by omega) (by omega) (fun _ q => by have := h.2.2.2.2.1.2.2.2.2; omega) (fun s1 h1 oth _ _ => ?_)
      unfold wX11_act_4_L52
      have g13 : gI s1 70 3 = nI 60 := by
        rw [show gI s1 70 3 = gI st 70 3 from congrFun (oth 70 (by omega)) 3, g3, e60]
      rw [g13]
      have no : ∀ A' : Bk, FxR (mLink last 0 (mMk 4 A)) A' → A' 0 6 = 0 → False := fun A' f e => by
        have e2 := f.e0 e
        rw [link_s (by omega)] at e2
        exact mMk_0 (by decide) e2
      refine ⟨fun _ => ?_, fun q => absurd (nI_le (Nat.le_refl 60) (by omega)) q⟩
      refine ra_77_4 (A := mLink last 0 (mMk 4 A)) (y := 0) (x := 0) (z := 1) hP hph hS rfl (by omega) ?_ (fun a ha => ?_) (fun e => (no _ FxR.rf e).elim) (by rw [s05, s2]; exact hK) (h1.lk.opn (y := 0)) (fun t e => (no _ (fx_act (fun o => fx_blk) _) e).elim) hq
      · rw [link_s (by omega), mMk_s (by omega)]; omega
      · have := hol a ha
        rw [link_s (by omega), mMk_s (by omega)]; exact this
  · have F : wX11_act_4_L30 68 (nI 1) st Q := by
      unfold wX11_act_4_L30
      have m : mAct (mBlk 2) (mAddX A) (mLink last (mAddX A) (mAddA o A)) = (false, mLink last (mAddX A) (mAddA o A)) := by
        unfold mAct
        rw [s05, s2, if_neg (by omega), if_neg (by omega), if_neg (by omega), if_neg (by omega), if_neg (by omega)]
      rw [m] at hq
      refine r_wr hP.1 h (fun s1 h1 => hq.2 rfl s1 ⟨h1.1, ?_⟩)
      rw [h1.2]
      show _ = nI (tfr n tp (mLink last (mAddX A) (mAddA o A) 0 5))
      rw [s05]
    refine ⟨fun _ => F, fun n1 => ⟨fun _ => F, fun n2 => ⟨fun n3 => ?_, fun _ => F⟩⟩⟩
    rcases w2 hK with q | q | q
    · exact absurd q n1
    · exact absurd q n2
    · exact absurd q n3
theorem rb_4 (hP : P 68 ∧ P 70 ∧ P 75 ∧ P 76) (hph : ph = true) (hS : SBk n tp s0 P pd ph (fun st Q => wX11_block_3 68 (nI 1 + 1) st Q) (mBlk 2) 1) : SBk n tp s0 P pd ph (fun st Q => wX11_block_4 68 (nI 0 + 1) st Q) (mBlk 3) 0 := by
  intro op q0 c0 g0 h0 k o A st Q hol hod h1 h hq
  show wX11_block_4 68 (nI 1) st Q
  unfold wX11_block_4
  unfold mBlk at hq
  obtain ⟨k1, k2⟩ := r_kd h
  rw [k1, show (40 : Int32) = nI (rkd 4) from rfl, rkd_iff k2 (by omega)]
  refine ⟨fun w => ?_, fun w => ⟨fun _ => ?_, fun q => absurd (nI_le (a := 1) (b := 3) (by omega) (by omega)) q⟩⟩
  · unfold wX11_block_4_L14
    have m : mTk 4 A = (false, A) := by unfold mTk; rw [if_neg w]
    rw [m, bd_f rfl] at hq
    exact r_wr hP.1 h (fun s1 h1 => hq.2 rfl s1 h1)
  · have m : mTk 4 A = (true, u2 A 0 5 (A 0 5 + 1)) := by unfold mTk; rw [if_pos w]
    rw [m, bd_t rfl] at hq
    refine r_nx hP.1 h (by omega) (by omega) (fun s1 h1' _ => ?_)
    have a15 : u2 A 0 5 (A 0 5 + 1) 0 5 = A 0 5 + 1 := by rw [u2_a, if_pos ⟨rfl, rfl⟩]
    have a13 : u2 A 0 5 (A 0 5 + 1) 0 3 = A 0 3 := by rw [u2_a, if_neg (by omega)]
    have hod' : u2 A 0 5 (A 0 5 + 1) 0 6 = 0 → (o = 0 → 0 = 0) ∧ (o ≠ 0 → o ≤ u2 A 0 5 (A 0 5 + 1) 0 3 ∧ 0 = u2 A 0 5 (A 0 5 + 1) 12 (o - 1) + 1) := hod
    have hq : RO n tp s0 P op q0 c0 g0 h0 pd ph (k + 1) Q (mLoop (mAct (mBlk 2)) o 400 0 (u2 A 0 5 (A 0 5 + 1))) := hq
    generalize u2 A 0 5 (A 0 5 + 1) = As at h1' hq a15 a13 hod'
    have hdoS : As 0 6 = 0 → o ≤ As 0 3 ∧ (if o = 0 then 0 else As 12 (o - 1) + 1) = 0 := fun e => by
      obtain ⟨d1, d2⟩ := hod' e
      by_cases z : o = 0
      · rw [if_pos z]; exact ⟨by omega, (d1 z).symm⟩
      · rw [if_neg z]; exact ⟨(d2 z).1, (d2 z).2.symm⟩
    have key : ∀ (f last : Nat) (A : Bk) (st : St), 401 ≤ f + A 0 5 → (A 0 6 = 0 → As 0 6 = 0 ∧ LIn As o 0 last A) → As 0 3 ≤ A 0 3 → RP n tp s0 P op q0 c0 g0 h0 pd ph 0 (k + 1) A st → RO n tp s0 P op q0 c0 g0 h0 pd ph (k + 1) Q (mLoop (mAct (mBlk 2)) o f last A) → lp (fun R s => wX11_block_4_L23 68 (nI 1) R s.1 s.2 Q) (f + 1) (nI 1, st) := by
      intro f
      induction f with
      | zero =>
        intro last A st hf _ _ h _
        have := h.2.1.1
        have := h.2.1.2.1
        omega
      | succ f ih =>
        intro last A st hf hI hm h hq
        show wX11_block_4_L23 68 (nI 1) (lp (fun R s => wX11_block_4_L23 68 (nI 1) R s.1 s.2 Q) (f + 1)) (nI 1) st Q
        generalize lp (fun R s => wX11_block_4_L23 68 (nI 1) R s.1 s.2 Q) (f + 1) = RR at ih ⊢
        unfold wX11_block_4_L23
        unfold mLoop at hq
        obtain ⟨k1, k2⟩ := r_kd h
        rw [k1, show (41 : Int32) = nI (rkd 5) from rfl, rkd_iff k2 (by omega)]
        have hdo' : A 0 6 = 0 → o ≤ As 0 3 ∧ (if o = 0 then 0 else A 12 (o - 1) + 1) = 0 := fun e => by
          obtain ⟨i1, i2⟩ := hI e
          obtain ⟨d1, d2⟩ := hdoS i1
          refine ⟨d1, ?_⟩
          by_cases z : o = 0
          · exact (if_pos z).trans ((if_pos z).symm.trans d2)
          · rw [if_neg z] at d2 ⊢
            rw [i2.1.2.1 12 _ (by unfold ar; omega) (by omega)]; exact d2
        refine ⟨fun w => ?_, fun w => ?_⟩
        · rw [if_pos w] at hq
          have m5 : mTk 5 A = (true, u2 A 0 5 (A 0 5 + 1)) := by unfold mTk; rw [if_pos w]
          rw [m5] at hq
          exact r_nx hP.1 h (by omega) (by omega) (fun s2 h2 _ => hq.1 rfl s2 (h2.km (by omega)))
        · rw [if_neg w] at hq
          have hnA := h.2.1.nf
          have hlA := h.2.1.1
          have hTA := h.2.1.tl
          refine ra_act_4 (o := o) (last := last) hP hph hS (fun a ha => by have := hol a ha; omega) (fun e => (hdo' e).2) (fun e => ?_) h ⟨fun t s2 h2 => ⟨fun _ => ?_, fun q => absurd q (by decide)⟩, fun t s2 h2 => ⟨fun q => absurd rfl q, fun _ => ?_⟩⟩
          · by_cases z : last = 0
            · exact Or.inl z
            · exact Or.inr ((hI e).2.2.2.1 z).2.1
          · rw [bd_t t] at hq
            have adv := act_adv (blk := mBlk 2) (fun o => fx_blk) t
            have fxa : FxR (mLink last (mAddX A) (mAddA o A)) (mAct (mBlk 2) (mAddX A) (mLink last (mAddX A) (mAddA o A))).2 := fx_act (fun o => fx_blk) _
            have moa : mLink last (mAddX A) (mAddA o A) 0 3 ≤ (mAct (mBlk 2) (mAddX A) (mLink last (mAddX A) (mAddA o A))).2 0 3 := mo_act (fun o => mo_blk) _
            have s05 : mLink last (mAddX A) (mAddA o A) 0 5 = A 0 5 := by
              rw [link_s (by omega)]
              by_cases q : A 0 3 < 60
              · exact addA_s q (by omega)
              · unfold mAddA; rw [if_neg q]; exact mMk_s (by omega)
            have s03 : A 0 3 ≤ mLink last (mAddX A) (mAddA o A) 0 3 := by rw [link_s (by omega), addA_3]; split <;> omega
            refine ih (mAddX A) _ s2 (by omega) (fun e => ?_) (by omega) (h2.km (by omega)) hq
            have e2 := (fx_addA (o := o) (A := A)).tr (fx_link (last := last) (x := mAddX A)) |>.e0 (fxa.e0 e)
            have h60 : A 0 3 < 60 := by
              apply Nat.lt_of_not_le
              intro z
              have e3 := (fx_link (last := last) (x := mAddX A) (A := mAddA o A)).e0 (fxa.e0 e)
              unfold mAddA at e3
              rw [if_neg (by omega)] at e3
              exact mMk_0 (by decide) e3
            obtain ⟨i1, i2⟩ := hI e2
            exact ⟨i1, ls_act (K := 2) (dp := 0) rfl i2 (hdo' e2).1 (hdo' e2).2 hnA hlA hTA h60 t e⟩
          · rw [bd_f t] at hq
            exact hq.2 rfl s2 h2
    exact ⟨401, key 400 0 As s1 (by omega) (fun e => ⟨e, ⟨FxR.rf, fun _ _ _ _ => rfl, Nat.le_refl _, Nat.le_refl _, fun _ _ => rfl, Nat.le_refl _⟩, fun _ => ⟨rfl, rfl⟩, fun z => absurd rfl z, fun b hb1 hb2 => by omega⟩) (Nat.le_refl _) h1' hq⟩
end MBK

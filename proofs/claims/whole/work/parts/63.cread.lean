/-! the class's reader, by the model: its small steps -/
section CRD
variable {s0 : St} {B : Nat} {A : Bk} {st st' : St} {Q : Int32 → St → Prop} {Qv : St → Prop} {Qk : Option Nat → St → Prop} {Qj : Int64 → St → Prop}
theorem mMk_s {e r k : Nat} (h : r ≠ 0 ∨ (k ≠ 6 ∧ k ≠ 7)) : mMk e A r k = A r k := by
  unfold mMk
  split
  · rw [u2_a, if_neg (by omega), u2_a, if_neg (by omega)]
  · rfl
theorem NF.mk {e : Nat} (h : NF A) : NF (mMk e A) := by
  intro i h1 h2
  rw [mMk_s (by omega)] at h1 h2
  rw [mMk_s (by omega)]
  exact h i h1 h2
theorem NF.tk {k : Nat} (h : NF A) (e : (mTk k A).1 = true) : NF (mTk k A).2 := by
  unfold mTk at e ⊢
  split at e
  · next q =>
    rw [if_pos q]
    intro i h1 h2
    have h1 : A 0 5 + 1 ≤ i := h1
    have h2 : i < A 0 4 := h2
    show 1 ≤ A 11 i ∧ A 11 i ≤ 1000
    exact h i (by omega) h2
  · cases e
theorem c_take {k : Nat} (hB : 20 ≤ B) (k6 : kd (B + 12) = 6) (h : CP s0 B A st) (hn : NF A) (hk2 : 2 ≤ k) (hk : k < 37) (hq : PO s0 B Q (mTk k A)) : wX4_take 3 (some k) st Q := by
  unfold wX4_take
  have hm := h.mi
  rw [h.kd, h.at]
  unfold PO mTk at hq
  refine ⟨kin_l hm.k37, kin_l hk, fun q => ?_, fun q => ?_⟩
  · have e : A 10 (A 0 5) = k := Option.some.inj q
    have i1 := hm.in2 (by omega)
    have h401 := hm.2.2.2.2.1
    rw [if_pos e] at hq
    intro s3 e3
    rw [nI_1] at e3
    have r3 : gR s3 3 0 = B + 12 := by rw [e3]; exact h.r0
    have a3 : gI s3 3 2 = nI (A 0 5 + 1) := by rw [e3, gI_uI, if_pos ⟨rfl, rfl⟩]
    refine ⟨by rw [r3]; exact k6, ?_⟩
    rintro _ rfl
    rw [r3, a3]
    unfold wX7_kindAt
    have t3 : gI s3 (B + 12) 4 = nI (A 0 4) := by rw [e3, gI_uI, if_neg (by omega)]; exact h.tc
    have hk3 : gK s3 (B + 12 + 1) (A 0 5 + 1) = some (A 10 (A 0 5 + 1)) := by rw [e3]; exact h.2.2.1.2 _ i1
    have k37 := (hm.2.2.2.2.2.2.2.2.1 _ i1).1
    rw [t3, nI_clamp (by omega)]
    have fin : ∀ s7, s7 = uK s3 3 3 (some (A 10 (A 0 5 + 1))) → Q 1 s7 := by
      intro s7 e7
      refine hq s7 ?_ (fun _ => ?_)
      · obtain ⟨h1, h2, h3, h4, h5, h6, h7⟩ := h
        have hr : RI B (u2 A 0 5 (A 0 5 + 1)) s3 := by rw [e3]; exact h1.u hB (Or.inl ⟨rfl, by omega⟩)
        refine ⟨hr.st (by rw [e7]; rfl), ?_, ?_, hm.h (by omega) (by omega), by rw [e7]; exact r3, by rw [e7, e3]; exact h6, ?_⟩
        · rw [e7, e3]; exact h2
        · refine ⟨by rw [e7, gK_uK, if_pos ⟨rfl, rfl⟩]; rfl, fun i hi => ?_⟩
          rw [e7, gK_uK, if_neg (by omega), e3]
          exact h3.2 i hi
        · rw [e7, e3]
          exact (h7.tr (FP.uI (Or.inl rfl))).tr (FP.uK (Or.inl rfl))
      · intro i h1 h2
        have h1 : A 0 5 + 1 ≤ i := h1
        have h2 : i < A 0 4 := h2
        show 1 ≤ A 11 i ∧ A 11 i ≤ 1000
        exact hn i (by omega) h2
    refine ⟨fun q2 => absurd q2 (nI_pos (by omega)), fun _ => ⟨fun _ => ⟨(vin_iff (by omega)).mpr (by omega), ?_⟩, fun q2 => absurd (nI_lt i1 (by omega)) q2⟩⟩
    rintro _ rfl
    rw [hk3]
    exact ⟨fun _ => ⟨kin_l k37, fin⟩, fun q2 => by cases q2⟩
  · rw [if_neg (fun e => q (by rw [e]))] at hq
    exact hq st h (fun z => by cases z)
theorem c_mark {e : Nat} (hB : 20 ≤ B) (h : CP s0 B A st) (he : e ≤ 5) (hq : ∀ st', CP s0 B (mMk e A) st' → Qv st') : wX4_mark 3 (nI e) st Qv := by
  unfold wX4_mark
  have hm := h.mi
  rw [h.er]
  unfold mMk at hq
  have h6 := hm.2.2.2.2.2.2.1
  refine ⟨fun q => ?_, fun q => ?_⟩
  · rw [if_neg (fun z => q (by rw [z]; rfl))] at hq
    exact hq st h
  · rw [if_pos ((nI_eq (b := 0) (by omega) (by omega)).mp q)] at hq
    intro s1 e1 s2 e2
    have a1 : gI s1 3 2 = nI (A 0 5) := by rw [e1, gI_uI, if_neg (by omega)]; exact h.at
    rw [a1] at e2
    have hm1 := hm.h (k := 6) (v := e) (by omega) (by omega)
    have h1 : CP s0 B (u2 A 0 6 e) s1 := by
      rw [e1]
      exact h.u (r := 0) (k := 6) (v := e) hB (Or.inl ⟨rfl, by omega⟩) rfl rfl rfl hm1 (fun _ => by omega)
    have hm2 := hm1.h (k := 7) (v := A 0 5 + 1) (by omega) (by
      have := hm.2.2.2.2.2.1
      have e4 : u2 A 0 6 e 0 4 = A 0 4 := by rw [u2_a, if_neg (by omega)]
      omega)
    refine hq s2 ?_
    rw [e2]
    exact h1.u (r := 0) (k := 7) (v := A 0 5 + 1) hB (Or.inl ⟨rfl, by omega⟩) rfl rfl rfl hm2 (fun _ => by omega)
theorem cp_num {i : Nat} (h : CP s0 B A st) (hi : i < A 0 4) (hq : Q (oN (A 11 i)) st) : wX7_numberAt (B + 12) (nI i) st Q := by
  unfold wX7_numberAt
  have h401 := h.mi.2.2.2.2.1
  rw [h.tc]
  refine ⟨fun q => absurd q (nI_pos (by omega)), fun _ => ⟨fun q => absurd ((nI_leI (by omega) (by omega)).mp q) (by omega), fun _ => ⟨(vin_iff (by omega)).mpr (by omega), ?_⟩⟩⟩
  rw [nI_clamp (by omega), show gI st (B + 12 + 3) i = oN (A 11 i) from h.nu i]
  exact hq
theorem cp_word {i : Nat} (h : CP s0 B A st) (hi : i < A 0 4) (hq : Qj (lN (gw (A 14 i))) st) : wX7_wordAt (B + 12) (nI i) st Qj := by
  unfold wX7_wordAt
  have h401 := h.mi.2.2.2.2.1
  rw [h.tc]
  refine ⟨fun q => absurd q (nI_pos (by omega)), fun _ => ⟨fun q => absurd ((nI_leI (by omega) (by omega)).mp q) (by omega), fun _ => ⟨(vin_iff (by omega)).mpr (by omega), ?_⟩⟩⟩
  rw [nI_clamp (by omega), show gJ st (B + 12 + 4) i = lN (gw (A 14 i)) from h.wd hi]
  exact hq
theorem NF.out {lo hi : Nat} (h : NF A) : NF (mOut lo hi A) := by
  unfold mOut
  split
  · exact h.mk
  · exact h
theorem c_out {lo hi : Nat} (hB : 20 ≤ B) (k6 : kd (B + 12) = 6) (h : CP s0 B A st) (hn : NF A) (hl : lo < 2 ^ 30) (hh : hi < 2 ^ 30) (hq : ∀ st', CP s0 B (mOut lo hi A) st' → Qv st') : wX4_markOutside 3 (nI lo) (nI hi) st Qv := by
  unfold wX4_markOutside wX4_markOutside_L22
  have hm := h.mi
  have hi5 := hm.2.2.2.2.2.1
  refine ⟨by rw [h.r0]; exact k6, ?_⟩
  rintro _ rfl
  rw [h.r0, h.at]
  refine cp_num h hi5 ?_
  obtain ⟨n1, n2⟩ := hn _ (Nat.le_refl _) hi5
  rw [oN_pos (by omega), nI_ltI (by omega) (by omega), nI_leI (by omega) (by omega)]
  unfold mOut at hq
  refine ⟨fun q => ?_, fun q => ⟨fun q2 => ?_, fun q2 => ?_⟩⟩
  · rw [if_pos (Or.inl q)] at hq
    exact c_mark (e := 5) hB h (by omega) hq
  · rw [if_neg (by omega)] at hq
    exact hq st h
  · rw [if_pos (Or.inr (by omega))] at hq
    exact c_mark (e := 5) hB h (by omega) hq
theorem c_numT {lo hi : Nat} (hB : 20 ≤ B) (k6 : kd (B + 12) = 6) (h : CP s0 B A st) (hn : NF A) (hl : lo < 2 ^ 30) (hh : hi < 2 ^ 30) (hq : PO s0 B Q (mNum lo hi A)) : wX4_takeNumber 3 (nI lo) (nI hi) st Q := by
  unfold wX4_takeNumber
  exact c_out hB k6 h hn hl hh (fun s1 h1 => c_take hB k6 h1 hn.out (by omega) (by omega) hq)
theorem c_addP {v : Nat} (hB : 20 ≤ B) (h : CP s0 B A st) (hv : v = A 11 (A 0 5) - 1) (hq : ∀ st', CP s0 B (mAddP A) st' → Qv st') : wX1_addPlank B (nI v) st Qv := by
  unfold wX1_addPlank
  have hm := h.mi
  have h12 := hm.2.1
  rw [h.pn]
  unfold mAddP at hq
  refine ⟨fun q => ?_, fun q => ⟨(vin_iff (by omega)).mpr ?_, ?_⟩⟩
  · rw [if_neg (by have := (nI_leI (a := 12) (by omega) (by omega)).mp q; omega)] at hq
    exact hq st h
  · exact Nat.lt_of_not_le (fun z => q (nI_le (a := 12) z (by omega)))
  · have hlt : A 0 1 < 12 := Nat.lt_of_not_le (fun z => q (nI_le (a := 12) z (by omega)))
    rw [if_pos hlt] at hq
    rw [nI_clamp (by omega)]
    intro s1 e1 s2 e2
    have hm1 := hm.s (r := 3) (k := A 0 1) (v := v) (by omega)
    have h1 : CP s0 B (u2 A 3 (A 0 1) v) s1 := by
      rw [e1]
      exact h.u (r := 3) (k := A 0 1) (v := v) hB (Or.inr (Or.inl (by omega))) rfl rfl rfl hm1 (fun z => by omega)
    have p1 : gI s1 B 6 = nI (A 0 1) := by rw [e1, gI_uI, if_neg (by omega)]; exact h.pn
    rw [p1, nI_1] at e2
    refine hq s2 ?_
    rw [e2, ← hv]
    exact h1.u (r := 0) (k := 1) (v := A 0 1 + 1) hB (Or.inl ⟨rfl, by omega⟩) rfl rfl rfl (hm1.h (by omega) (by omega)) (fun _ => by omega)
theorem NF.addP (h : NF A) : NF (mAddP A) := by
  unfold mAddP
  split
  · exact (h.g (by omega)).g (by omega)
  · exact h
theorem c_plank (hB : 20 ≤ B) (kB : kd B = 1) (k6 : kd (B + 12) = 6) (h : CP s0 B A st) (hn : NF A) (hq : PO s0 B Q (mPlank A)) : wX4_takePlank 3 st Q := by
  unfold wX4_takePlank
  have hm := h.mi
  have h12 := hm.2.1
  have hi5 := hm.2.2.2.2.2.1
  have key : ∀ A' s1, (A' = A ∨ A' = mMk 4 A) → CP s0 B A' s1 → NF A' → PO s0 B Q (mNum 1 30 (mAddP A')) → wX4_takePlank_L17 3 s1 Q := by
    intro A' s1 hA' h1 n1 hq1
    unfold wX4_takePlank_L17
    have hm1 := h1.mi
    have hi51 := hm1.2.2.2.2.2.1
    refine ⟨by rw [h1.r1]; exact kB, ?_⟩
    intro c3 e3
    rw [e3, h1.r1]
    refine ⟨by rw [h1.r0]; exact k6, ?_⟩
    intro c4 e4
    rw [e4, h1.r0, h1.at]
    refine cp_num h1 hi51 ?_
    obtain ⟨z1, z2⟩ := n1 _ (Nat.le_refl _) hi51
    rw [oN_pos (by omega)]
    exact c_addP hB h1 rfl (fun s2 h2 => c_numT (lo := 1) (hi := 30) hB k6 h2 n1.addP (by omega) (by omega) hq1)
  unfold mPlank at hq
  refine ⟨by rw [h.r1]; exact kB, ?_⟩
  intro c1 e1
  rw [e1, h.r1, h.pn]
  refine ⟨fun q => ?_, fun q => ?_⟩
  · rw [if_pos ((nI_ltI (b := 12) (by omega) (by omega)).mp q)] at hq
    exact key A st (Or.inl rfl) h hn hq
  · rw [if_neg (fun z => q (nI_lt (b := 12) z (by omega)))] at hq
    exact c_mark (e := 4) hB h (by omega) (fun s1 h1 => key _ s1 (Or.inr rfl) h1 hn.mk hq)
theorem gw_eq {a b : Nat} (ha : vw a) (hb : vw b) : (lg_cmp (lN (gw a)) (lN (gw b)) = 0) ↔ a = b := by
  have := gw_lt ha
  have := gw_lt hb
  rw [lg_cmp_eq, pk_lEQ (by omega) (by omega)]
  exact ⟨fun e => gw_inj ha hb e, fun e => by rw [e]⟩
theorem cp_findW {w : Nat} (h : CP s0 B A st) (hw : vw w) (hq : Q (oI (fW A w)) st) : wX1_findWalker B (lN (gw w)) st Q := by
  unfold wX1_findWalker
  have hm := h.mi
  have h8 := hm.1
  unfold fW at hq
  refine lp_inv (n := A 0 0) (I := fun k s => s = (lN (gw w), nI k, st) ∧ ∀ j, j < k → decide (A 16 j = w) = false) ?_ ?_ ⟨rfl, fun j hj => absurd hj (by omega)⟩
  · rintro k s hk ⟨rfl, hno⟩ R hR2
    show wX1_findWalker_L2 B (lN (gw w)) R (lN (gw w)) (nI k) st Q
    unfold wX1_findWalker_L2
    rw [h.wn]
    refine ⟨fun q => absurd ((nI_leI (by omega) (by omega)).mp q) (by omega), fun _ => ⟨(vin_iff (by omega)).mpr (by omega), ?_⟩⟩
    rw [nI_clamp (by omega), h.2.1.2.1 k hk, gw_eq (hm.2.2.2.2.2.2.2.2.2.1 k hk) hw]
    refine ⟨fun q => ?_, fun q => ?_⟩
    · rintro _ rfl
      rw [nI_1]
      refine hR2 _ ⟨rfl, fun j hj => ?_⟩
      by_cases e : j = k
      · subst e; exact decide_eq_false q
      · exact hno j (by omega)
    · rw [fFind_at hno (decide_eq_true q) hk] at hq
      exact hq
  · rintro s ⟨rfl, hno⟩ R
    show wX1_findWalker_L2 B (lN (gw w)) R (lN (gw w)) (nI (A 0 0)) st Q
    unfold wX1_findWalker_L2
    rw [h.wn]
    rw [fFind_no hno] at hq
    exact ⟨fun _ => hq, fun q => absurd (nI_le (Nat.le_refl _) (by omega)) q⟩
theorem cp_findP {w : Nat} (h : CP s0 B A st) (hw : vw w) (hq : Q (oI (fPn A w)) st) : wX1_findPlan B (lN (gw w)) st Q := by
  unfold wX1_findPlan
  have hm := h.mi
  have h8 := hm.2.2.1
  unfold fPn at hq
  refine lp_inv (n := A 0 2) (I := fun k s => s = (lN (gw w), nI k, st) ∧ ∀ j, j < k → decide (A 17 j = w) = false) ?_ ?_ ⟨rfl, fun j hj => absurd hj (by omega)⟩
  · rintro k s hk ⟨rfl, hno⟩ R hR2
    show wX1_findPlan_L2 B (lN (gw w)) R (lN (gw w)) (nI k) st Q
    unfold wX1_findPlan_L2
    rw [h.ln]
    refine ⟨fun q => absurd ((nI_leI (by omega) (by omega)).mp q) (by omega), fun _ => ⟨(vin_iff (by omega)).mpr (by omega), ?_⟩⟩
    rw [nI_clamp (by omega), h.2.1.2.2 k hk, gw_eq (hm.2.2.2.2.2.2.2.2.2.2 k hk) hw]
    refine ⟨fun q => ?_, fun q => ?_⟩
    · rintro _ rfl
      rw [nI_1]
      refine hR2 _ ⟨rfl, fun j hj => ?_⟩
      by_cases e : j = k
      · subst e; exact decide_eq_false q
      · exact hno j (by omega)
    · rw [fFind_at hno (decide_eq_true q) hk] at hq
      exact hq
  · rintro s ⟨rfl, hno⟩ R
    show wX1_findPlan_L2 B (lN (gw w)) R (lN (gw w)) (nI (A 0 2)) st Q
    unfold wX1_findPlan_L2
    rw [h.ln]
    rw [fFind_no hno] at hq
    exact ⟨fun _ => hq, fun q => absurd (nI_le (Nat.le_refl _) (by omega)) q⟩
theorem fW_lt {w k : Nat} (h : fW A w = some k) : k < A 0 0 := (fFind_some h).1
theorem fPn_lt {w k : Nat} (h : fPn A w = some k) : k < A 0 2 := (fFind_some h).1
theorem NF.newM {many : Bool} (h : NF A) : NF (mNewM many A) := by
  unfold mNewM
  split
  · exact h.mk
  · split
    · exact h.mk
    · exact h
theorem c_newT {many : Bool} (hB : 20 ≤ B) (kB : kd B = 1) (k6 : kd (B + 12) = 6) (h : CP s0 B A st) (hn : NF A) (hq : PO s0 B Q (mNew many A)) : wX4_takeNewName 3 (bI many) st Q := by
  unfold wX4_takeNewName wX4_takeNewName_L36
  have hm := h.mi
  have hi5 := hm.2.2.2.2.2.1
  have hv := (hm.2.2.2.2.2.2.2.2.1 _ hi5).2.2
  have h8 := hm.1
  have h62 := hm.2.2.1
  unfold mNew mNewM at hq
  have L53 : ∀ A' s1, CP s0 B A' s1 → NF A' → PO s0 B Q (mTk 2 A') → wX4_takeNewName_L53 3 (bI many) s1 Q := by
    intro A' s1 h1 n1 hq1
    unfold wX4_takeNewName_L53
    exact c_take hB k6 h1 n1 (by omega) (by omega) hq1
  have L36 : ((fW A (A 14 (A 0 5))).isSome = true ∨ (fPn A (A 14 (A 0 5))).isSome = true) → wX4_mark 3 2 st (fun st11 => wX4_takeNewName_L53 3 (bI many) st11 Q) := by
    intro hs
    rw [if_pos hs] at hq
    exact c_mark (e := 2) hB h (by omega) (fun s1 h1 => L53 _ s1 h1 hn.mk hq)
  refine ⟨by rw [h.r0]; exact k6, ?_⟩
  intro c1 e1
  rw [e1, h.r0, h.at]
  refine cp_word h hi5 ⟨by rw [h.r1]; exact kB, ?_⟩
  intro c4 e4
  rw [e4, h.r1]
  refine cp_findW h hv ?_
  rw [show (-1 : Int32) = -nI 1 from rfl, oI_m1 (fun j e => by have := fW_lt e; omega)]
  refine ⟨fun q => L36 (Or.inl ?_), fun q => ⟨by rw [h.r1]; exact kB, ?_⟩⟩
  · cases hf : fW A (A 14 (A 0 5)) with
    | none => exact absurd hf q
    | some k => rfl
  · intro c7 e7
    rw [e7, h.r1]
    refine cp_findP h hv ?_
    rw [oI_m1 (fun j e => by have := fPn_lt e; omega)]
    refine ⟨fun q2 => ?_, fun q2 => L36 (Or.inr ?_)⟩
    · rw [if_neg (by rw [q, q2]; rintro (a | a) <;> cases a)] at hq
      refine ⟨fun q3 => ?_, fun q3 => ?_⟩
      · rw [if_neg (by rw [bI0.mp q3]; decide)] at hq
        exact L53 A st h hn hq
      · rw [if_pos (bI_t q3)] at hq
        exact c_mark (e := 4) hB h (by omega) (fun s1 h1 => L53 _ s1 h1 hn.mk hq)
    · cases hf : fPn A (A 14 (A 0 5)) with
      | none => exact absurd hf q2
      | some k => rfl
theorem oN_oS (r : Option Nat) : oN (oS r) = oI r := by cases r <;> rfl
theorem mMk3_s {r : Option Nat} {x k : Nat} (h : x ≠ 0 ∨ (k ≠ 6 ∧ k ≠ 7)) : mMk3 r A x k = A x k := by
  unfold mMk3
  split
  · exact mMk_s h
  · rfl
theorem c_res {r : Option Nat} (hB : 20 ≤ B) (k6 : kd (B + 12) = 6) (h : CP s0 B A st) (hn : NF A) (hr : oS r ≤ 1000) (hq : PO s0 B Q (mTk 2 (mRes r A))) : ∀ c, c = gR st 3 0 → wX7_resolve c (gI st 3 2) (oI r) st (fun st9 => wX4_take 3 (some 2) st9 (fun r11 st10 => Q r11 st10)) := by
  have hm := h.mi
  have hi5 := hm.2.2.2.2.2.1
  have h401 := hm.2.2.2.2.1
  intro c e
  rw [e, h.r0, h.at]
  unfold wX7_resolve
  rw [h.tc]
  refine ⟨fun q => absurd q (nI_pos (by omega)), fun _ => ⟨fun q => absurd ((nI_leI (by omega) (by omega)).mp q) (by omega), fun _ => ⟨(vin_iff (by omega)).mpr (by omega), ?_⟩⟩⟩
  rw [nI_clamp (by omega)]
  intro s1 e1
  have h1 : CP s0 B (mRes r A) s1 := by
    rw [e1]
    exact h.u (r := 11) (k := A 0 5) (v := oS r) hB (Or.inr (Or.inr (Or.inl rfl))) rfl rfl (oN_oS r).symm (hm.s (by omega)) (fun z => by omega)
  have hm1 := h1.mi
  -- the take reads kinds alone: what is fresh behind it is fresh
  have at1 : mRes r A 0 5 = A 0 5 := by unfold mRes; rw [u2_a, if_neg (by omega)]
  have k1 : ∀ i, mRes r A 10 i = A 10 i := fun i => by unfold mRes; rw [u2_a, if_neg (by omega)]
  unfold wX4_take
  rw [h1.kd, h1.at]
  unfold PO mTk at hq
  refine ⟨kin_l hm1.k37, kin_l (by omega), fun q => ?_, fun q => ?_⟩
  · have e2 : mRes r A 10 (mRes r A 0 5) = 2 := Option.some.inj q
    rw [if_pos e2] at hq
    have i1 := hm1.in2 (by omega)
    have h4011 := hm1.2.2.2.2.1
    intro s3 e3
    rw [nI_1] at e3
    have r3 : gR s3 3 0 = B + 12 := by rw [e3]; exact h1.r0
    have a3 : gI s3 3 2 = nI (mRes r A 0 5 + 1) := by rw [e3, gI_uI, if_pos ⟨rfl, rfl⟩]
    refine ⟨by rw [r3]; exact k6, ?_⟩
    rintro _ rfl
    rw [r3, a3]
    unfold wX7_kindAt
    have t3 : gI s3 (B + 12) 4 = nI (mRes r A 0 4) := by rw [e3, gI_uI, if_neg (by omega)]; exact h1.tc
    have hk3 : gK s3 (B + 12 + 1) (mRes r A 0 5 + 1) = some (mRes r A 10 (mRes r A 0 5 + 1)) := by rw [e3]; exact h1.2.2.1.2 _ i1
    have k37 := (hm1.2.2.2.2.2.2.2.2.1 _ i1).1
    rw [t3, nI_clamp (by omega)]
    have fin : ∀ s7, s7 = uK s3 3 3 (some (mRes r A 10 (mRes r A 0 5 + 1))) → Q 1 s7 := by
      intro s7 e7
      refine hq s7 ?_ (fun _ => ?_)
      · obtain ⟨g1, g2, g3, g4, g5, g6, g7⟩ := h1
        have hr : RI B (u2 (mRes r A) 0 5 (mRes r A 0 5 + 1)) s3 := by rw [e3]; exact g1.u hB (Or.inl ⟨rfl, by omega⟩)
        refine ⟨hr.st (by rw [e7]; rfl), ?_, ?_, hm1.h (by omega) (by omega), by rw [e7]; exact r3, by rw [e7, e3]; exact g6, ?_⟩
        · rw [e7, e3]; exact g2
        · refine ⟨by rw [e7, gK_uK, if_pos ⟨rfl, rfl⟩]; rfl, fun i hi => ?_⟩
          rw [e7, gK_uK, if_neg (by omega), e3]
          exact g3.2 i hi
        · rw [e7, e3]
          exact (g7.tr (FP.uI (Or.inl rfl))).tr (FP.uK (Or.inl rfl))
      · intro i h1' h2'
        have h1' : mRes r A 0 5 + 1 ≤ i := h1'
        have h2' : i < A 0 4 := h2'
        show 1 ≤ mRes r A 11 i ∧ mRes r A 11 i ≤ 1000
        have : mRes r A 11 i = A 11 i := by unfold mRes; rw [u2_a, if_neg (by omega)]
        rw [this]
        exact hn i (by omega) h2'
    refine ⟨fun q2 => absurd q2 (nI_pos (by omega)), fun _ => ⟨fun _ => ⟨(vin_iff (by omega)).mpr (by omega), ?_⟩, fun q2 => absurd (nI_lt i1 (by omega)) q2⟩⟩
    rintro _ rfl
    rw [hk3]
    exact ⟨fun _ => ⟨kin_l k37, fin⟩, fun q2 => by cases q2⟩
  · rw [if_neg (fun e => q (by rw [e]))] at hq
    exact hq s1 h1 (fun z => by cases z)
theorem mRes_mk {r : Option Nat} : True := trivial
theorem c_whoT (hB : 20 ≤ B) (kB : kd B = 1) (k6 : kd (B + 12) = 6) (h : CP s0 B A st) (hn : NF A) (hq : PO s0 B Q (mWho A)) : wX4_takeWho 3 st Q := by
  unfold wX4_takeWho
  have hm := h.mi
  have hi5 := hm.2.2.2.2.2.1
  have hv := (hm.2.2.2.2.2.2.2.2.1 _ hi5).2.2
  have h8 := hm.1
  have k37 := hm.k37
  refine ⟨A 10 (A 0 5), h.kd, k37, ?_⟩
  unfold mWho at hq
  have L48 : ∀ A' s1, (∀ x k, (x ≠ 0 ∨ (k ≠ 6 ∧ k ≠ 7)) → A' x k = A x k) → CP s0 B A' s1 → NF A' → PO s0 B Q (mTk 2 (mRes (fW A (A 14 (A 0 5))) A')) → wX4_takeWho_L48 3 (oI (fW A (A 14 (A 0 5)))) s1 Q := by
    intro A' s1 hs h1 n1 hq1
    unfold wX4_takeWho_L48
    refine ⟨by rw [h1.r0]; exact k6, c_res hB k6 h1 n1 ?_ hq1⟩
    cases hf : fW A (A 14 (A 0 5)) with
    | none => show 0 ≤ 1000; omega
    | some k => have := fW_lt hf; show k + 1 ≤ 1000; omega
  have go : ∀ rr : Int32, (rr = bI (decide (26 ≤ A 10 (A 0 5) ∧ A 10 (A 0 5) ≤ 29))) → ((rr = 0 → (kd (gR st 3 1) = 1 ∧ ∀ c4, c4 = gR st 3 1 → (kd (gR st 3 0) = 6 ∧ ∀ c5, c5 = gR st 3 0 → (wX7_wordAt c5 (gI st 3 2) st (fun r7 st6 => (wX1_findWalker c4 r7 st6 (fun r9 st8 => ((¬ r9 = (-1) → wX4_takeWho_L48 3 r9 st8 Q) ∧ (r9 = (-1) → (wX4_mark 3 3 st8 (fun st10 => wX4_takeWho_L48 3 r9 st10 Q))))))))))) ∧ (¬ rr = 0 → (wX4_take 3 (gK st 3 3) st (fun r12 st11 => Q r12 st11)))) := by
    rintro rr rfl
    refine ⟨fun q => ⟨by rw [h.r1]; exact kB, ?_⟩, fun q => ?_⟩
    · have hnc := of_decide_eq_false (bI0.mp q)
      rw [if_neg hnc] at hq
      intro c4 e4
      rw [e4, h.r1]
      refine ⟨by rw [h.r0]; exact k6, ?_⟩
      intro c5 e5
      rw [e5, h.r0, h.at]
      refine cp_word h hi5 (cp_findW h hv ?_)
      unfold mMk3 at hq
      rw [show (-1 : Int32) = -nI 1 from rfl, oI_m1 (fun j e => by have := fW_lt e; omega)]
      refine ⟨fun q2 => ?_, fun q2 => ?_⟩
      · have : oS (fW A (A 14 (A 0 5))) ≠ 0 := by
          cases hf : fW A (A 14 (A 0 5)) with
          | none => exact absurd hf q2
          | some k => show k + 1 ≠ 0; omega
        rw [if_neg this] at hq
        exact L48 A st (fun _ _ _ => rfl) h hn hq
      · have : oS (fW A (A 14 (A 0 5))) = 0 := by rw [q2]; rfl
        rw [if_pos this] at hq
        exact c_mark (e := 3) hB h (by omega) (fun s1 h1 => L48 _ s1 (fun _ _ z => mMk_s z) h1 hn.mk hq)
    · have hc := of_decide_eq_true (bI_t q)
      rw [if_pos hc] at hq
      rw [h.kd]
      exact c_take hB k6 h hn (by omega) k37 hq
  unfold wX3_isChoice wX3_isChoice_L28
  have no : ∀ k, A 10 (A 0 5) ≠ k → ¬ some (A 10 (A 0 5)) = some k := fun k hk e => hk (Option.some.inj e)
  refine ⟨fun q => go 1 (by rw [decide_eq_true (by have := Option.some.inj q; omega)]; rfl), fun q => ⟨fun q2 => go 1 (by rw [decide_eq_true (by have := Option.some.inj q2; omega)]; rfl), fun q2 => ⟨fun q3 => go 1 (by rw [decide_eq_true (by have := Option.some.inj q3; omega)]; rfl), fun q3 => ⟨fun q4 => go 0 ?_, fun q4 => go 1 (by rw [decide_eq_true (by have := Option.some.inj q4; omega)]; rfl)⟩⟩⟩⟩
  rw [decide_eq_false]
  · rfl
  · rintro ⟨a, b⟩
    have c : A 10 (A 0 5) = 26 ∨ A 10 (A 0 5) = 27 ∨ A 10 (A 0 5) = 28 ∨ A 10 (A 0 5) = 29 := by omega
    rcases c with e | e | e | e
    · exact q (by rw [e])
    · exact q2 (by rw [e])
    · exact q3 (by rw [e])
    · exact q4 (by rw [e])
theorem c_pnT (hB : 20 ≤ B) (kB : kd B = 1) (k6 : kd (B + 12) = 6) (h : CP s0 B A st) (hn : NF A) (hq : PO s0 B Q (mPna A)) : wX4_takePlanName 3 st Q := by
  unfold wX4_takePlanName
  have hm := h.mi
  have hi5 := hm.2.2.2.2.2.1
  have hv := (hm.2.2.2.2.2.2.2.2.1 _ hi5).2.2
  have h62 := hm.2.2.1
  unfold mPna at hq
  have L29 : ∀ A' s1, CP s0 B A' s1 → NF A' → PO s0 B Q (mTk 2 (mRes (fPn A (A 14 (A 0 5))) A')) → wX4_takePlanName_L29 3 (oI (fPn A (A 14 (A 0 5)))) s1 Q := by
    intro A' s1 h1 n1 hq1
    unfold wX4_takePlanName_L29
    refine ⟨by rw [h1.r0]; exact k6, c_res hB k6 h1 n1 ?_ hq1⟩
    cases hf : fPn A (A 14 (A 0 5)) with
    | none => show 0 ≤ 1000; omega
    | some k => have := fPn_lt hf; show k + 1 ≤ 1000; omega
  refine ⟨by rw [h.r1]; exact kB, ?_⟩
  intro c4 e4
  rw [e4, h.r1]
  refine ⟨by rw [h.r0]; exact k6, ?_⟩
  intro c5 e5
  rw [e5, h.r0, h.at]
  refine cp_word h hi5 (cp_findP h hv ?_)
  unfold mMk3 at hq
  rw [show (-1 : Int32) = -nI 1 from rfl, oI_m1 (fun j e => by have := fPn_lt e; omega)]
  refine ⟨fun q2 => ?_, fun q2 => ?_⟩
  · have : oS (fPn A (A 14 (A 0 5))) ≠ 0 := by
      cases hf : fPn A (A 14 (A 0 5)) with
      | none => exact absurd hf q2
      | some k => show k + 1 ≠ 0; omega
    rw [if_neg this] at hq
    exact L29 A st h hn hq
  · have : oS (fPn A (A 14 (A 0 5))) = 0 := by rw [q2]; rfl
    rw [if_pos this] at hq
    exact c_mark (e := 3) hB h (by omega) (fun s1 h1 => L29 _ s1 h1 hn.mk hq)
theorem c_valT (hB : 20 ≤ B) (k6 : kd (B + 12) = 6) (h : CP s0 B A st) (hn : NF A) (hq : PO s0 B Q (mVal A)) : wX4_takeValue 3 st Q := by
  unfold wX4_takeValue
  have hm := h.mi
  have k37 := hm.k37
  refine ⟨A 10 (A 0 5), h.kd, k37, ?_⟩
  unfold mVal at hq
  have go : ∀ rr : Int32, (rr = bI (decide (30 ≤ A 10 (A 0 5) ∧ A 10 (A 0 5) ≤ 36))) → ((rr = 0 → (wX4_markOutside 3 0 99 st (fun st4 => (wX4_take 3 (some 3) st4 (fun r6 st5 => Q r6 st5))))) ∧ (¬ rr = 0 → (wX4_take 3 (gK st 3 3) st (fun r8 st7 => Q r8 st7)))) := by
    rintro rr rfl
    refine ⟨fun q => ?_, fun q => ?_⟩
    · rw [if_neg (of_decide_eq_false (bI0.mp q))] at hq
      exact c_out (lo := 0) (hi := 99) hB k6 h hn (by omega) (by omega) (fun s1 h1 => c_take hB k6 h1 hn.out (by omega) (by omega) hq)
    · have hc := of_decide_eq_true (bI_t q)
      rw [if_pos hc] at hq
      rw [h.kd]
      exact c_take hB k6 h hn (by omega) k37 hq
  unfold wX3_isMeasure wX3_isMeasure_L49
  refine ⟨fun q => go 1 (by rw [decide_eq_true (by have := Option.some.inj q; omega)]; rfl), fun q => ⟨fun q2 => go 1 (by rw [decide_eq_true (by have := Option.some.inj q2; omega)]; rfl), fun q2 => ⟨fun q3 => go 1 (by rw [decide_eq_true (by have := Option.some.inj q3; omega)]; rfl), fun q3 => ⟨fun q4 => go 1 (by rw [decide_eq_true (by have := Option.some.inj q4; omega)]; rfl), fun q4 => ⟨fun q5 => go 1 (by rw [decide_eq_true (by have := Option.some.inj q5; omega)]; rfl), fun q5 => ⟨fun q6 => go 1 (by rw [decide_eq_true (by have := Option.some.inj q6; omega)]; rfl), fun q6 => ⟨fun q7 => go 0 ?_, fun q7 => go 1 (by rw [decide_eq_true (by have := Option.some.inj q7; omega)]; rfl)⟩⟩⟩⟩⟩⟩⟩
  rw [decide_eq_false]
  · rfl
  · rintro ⟨a, b⟩
    have c : A 10 (A 0 5) = 30 ∨ A 10 (A 0 5) = 31 ∨ A 10 (A 0 5) = 32 ∨ A 10 (A 0 5) = 33 ∨ A 10 (A 0 5) = 34 ∨ A 10 (A 0 5) = 35 ∨ A 10 (A 0 5) = 36 := by omega
    rcases c with e | e | e | e | e | e | e
    · exact q (by rw [e])
    · exact q2 (by rw [e])
    · exact q3 (by rw [e])
    · exact q4 (by rw [e])
    · exact q5 (by rw [e])
    · exact q6 (by rw [e])
    · exact q7 (by rw [e])
end CRD

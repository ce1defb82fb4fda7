/-! the reference's reader: names, walkers -/
theorem fFind_ex {F : Nat → Bool} {m : Nat} : fFind F m ≠ none ↔ ∃ j, j < m ∧ F j = true := by
  constructor
  · intro h
    cases e : fFind F m with
    | none => exact absurd e h
    | some j => exact ⟨j, (fFind_some e).1, (fFind_some e).2.1⟩
  · rintro ⟨j, h1, h2⟩ h
    have : ∀ m, fFind F m = none → ∀ j, j < m → F j = false := by
      intro m
      induction m with
      | zero => intro _ j hj; omega
      | succ m ih =>
        intro h j hj
        unfold fFind at h
        cases e : fFind F m with
        | some i => rw [e] at h; cases h
        | none =>
          rw [e] at h
          by_cases q : F m = true
          · have h : (if F m = true then some m else none) = none := h
            rw [if_pos q] at h; cases h
          · by_cases w : j = m
            · rw [w]; exact (Bool.not_eq_true _).mp q
            · exact ih e j (by omega)
    rw [this m h j h1] at h2
    cases h2
theorem isS_ne {α : Type} {o : Option α} : o.isSome = true ↔ o ≠ none := by
  cases o with
  | none => exact ⟨fun h => (by cases h), fun h => absurd rfl h⟩
  | some x => exact ⟨fun _ h => (by cases h), fun _ => rfl⟩
section MNW
variable {n : Nat} {tp : Nat → Nat} {s0 : St} {P P' : Nat → Prop} {op op' : Nat → Prop} {q0 c0 : Nat} {g0 h0 : Nat → Int32} {pd pd' : Nat} {ph ph' : Bool} {z k y : Nat} {A A' : Bk} {st st' s1 : St} {Q : Int32 → St → Prop} {Qv : St → Prop}
theorem RP.ch (h : RP n tp s0 P op q0 c0 g0 h0 pd ph z k A st) (hA : ∀ r j, ((r = 0 ∧ 4 ≤ j) ∨ r = 10 ∨ r = 11 ∨ r = 14) → A' r j = A r j) (hS : ∀ d j, (d = 54 ∨ d = 55 ∨ d = 75 ∨ d = 76 ∨ (d = 68 ∧ 5 ≤ j)) → gI s1 d j = gI st d j) (hJ : gJ s1 68 9 = gJ st 68 9) (hF : FQ P st s1) (hk : KC k A') (hc : CN A' s1) (hn : NMs pd' ph' A' s1) (hr : A 0 6 = 0 → RD op A st → RD op' A' s1) : RP n tp s0 P op' q0 c0 g0 h0 pd' ph' z k A' s1 := by
  obtain ⟨⟨t1, t2, t3⟩, l, c1, c2, c3, c4, c5, c6⟩ := h
  have a0 : ∀ j, 4 ≤ j → A' 0 j = A 0 j := fun j hj => hA 0 j (Or.inl ⟨rfl, hj⟩)
  refine ⟨⟨?_, ?_, t3.tr hF⟩, ?_, hk, hc, ?_, hn, ?_, fun e => ?_⟩
  · exact ⟨(hS 54 2 (by omega)).trans t1.1, t1.2.1, fun i hi => (hS 55 i (by omega)).trans (t1.2.2.1 i hi), t1.2.2.2⟩
  · rw [a0 5 (by omega)]
    obtain ⟨r1, r2, r3, r4, r5, r6⟩ := t2
    exact ⟨(hS 68 6 (by omega)).trans r1, (hS 68 7 (by omega)).trans r2, fun w => (hS 68 8 (by omega)).trans (r3 w), fun w => hJ.trans (r4 w), (hS 68 10 (by omega)).trans r5, fun w => (hS 68 5 (by omega)).trans (r6 w)⟩
  · unfold KT
    rw [a0 5 (by omega), a0 4 (by omega)]
    exact ⟨l.1, l.2.1, fun i hi => by rw [hA 10 i (by omega), hA 14 i (by omega)]; exact l.2.2.1 i hi, fun i h1 h2 => by rw [hA 11 i (by omega)]; exact l.2.2.2 i h1 h2⟩
  · unfold FLt
    rw [a0 6 (by omega), a0 7 (by omega), a0 5 (by omega), hS 68 11 (by omega), hS 68 12 (by omega)]; exact c3
  · unfold ANc
    rw [a0 8 (by omega), a0 9 (by omega)]
    exact ⟨fun i hi => by rw [hS 75 i (by omega)]; exact c5.1 i hi, c5.2.1, fun i hi => by rw [hS 76 i (by omega)]; exact c5.2.2.1 i hi, c5.2.2.2⟩
  · rw [a0 6 (by omega)] at e
    exact hr e (c6 e)
/-- from here on -/
theorem RP.rb (h : RP n tp s0 P op q0 c0 g0 h0 pd ph z k A st) : RP n tp st P' op q0 c0 g0 h0 pd ph z k A st := ⟨⟨h.1.1, h.1.2.1, FQ.rf⟩, h.2⟩
theorem RP.un (h : RP n tp s1 P' op q0 c0 g0 h0 pd ph z k A st) (hF : FQ P s0 s1) (hp : ∀ d, P' d → P d) : RP n tp s0 P op q0 c0 g0 h0 pd ph z k A st := ⟨⟨h.1.1, h.1.2.1, hF.tr (h.1.2.2.mo hp)⟩, h.2⟩
theorem RF.un (h : RF n tp s1 P' A st) (hF : FQ P s0 s1) (hp : ∀ d, P' d → P d) : RF n tp s0 P A st := ⟨hF.tr (h.1.mo hp), h.2⟩
/-- a new name -/
theorem r_new {many : Bool} {v1 : Int32} (hP : P 68 ∧ P 69) (hv : v1 = 0 ↔ many = false) (h : RP n tp s0 P op q0 c0 g0 h0 0 ph 0 k A st)
    (hq1 : (mNew many A).1 = true → ∀ st', RP n tp s0 P op q0 c0 g0 h0 1 ph 0 (k + 1) (mNew many A).2 st' → ((mNew many A).2 0 6 = 0 → gJ st' 69 (A 0 0 + A 0 2) = lN (A 14 (A 0 5))) → Q 1 st')
    (hq0 : (mNew many A).1 = false → ∀ st', RF n tp s0 P (mNew many A).2 st' → Q 0 st') : wX11_naming 68 v1 st Q := by
  unfold wX11_naming
  have hh := h
  obtain ⟨k1, k2⟩ := r_kd h
  have kk : gI st 68 6 = 2 ↔ A 10 (A 0 5) = 2 := by rw [k1]; exact rkd_iff (b := 2) k2 (by omega)
  have s5 : mNewM many A 0 5 = A 0 5 := newM_s (by omega)
  have s10 : mNewM many A 10 (A 0 5) = A 10 (A 0 5) := newM_s (by omega)
  rw [kk]
  refine ⟨fun e => ?_, fun e => ?_⟩
  · have m : mNew many A = (true, u2 (mNewM many A) 0 5 (A 0 5 + 1)) := by unfold mNew mTk; rw [s5, s10, if_pos e]
    rw [m] at hq1
    obtain ⟨⟨t1, t2, t3⟩, ⟨l1, l2, l3, l4⟩, c1, c2, c3, ⟨m, m3, m4, x1, x2, x3, x4, x5, x6, x7⟩, c5, c6⟩ := h
    have j9 : gJ st 68 9 = lN (A 14 (A 0 5)) := by rw [(l3 _ l1).2.1]; exact t2.2.2.2.1 (by rw [← (l3 _ l1).1]; exact e)
    have w40 : A 14 (A 0 5) < 2 ^ 40 := by rw [(l3 _ l1).2.1]; exact twd40
    rw [x4, j9]
    refine r_find (a := 0) (b := m) x1 (by omega) ?_
    have lt : ∀ v, fFind (fun j => decide (gJ st 69 (0 + j) = lN (A 14 (A 0 5)))) (m - 0) = some v → v < 16 := fun v e => by have := (fFind_some e).1; omega
    have dup : A 0 6 = 0 → (fFind (fun j => decide (gJ st 69 (0 + j) = lN (A 14 (A 0 5)))) (m - 0) ≠ none ↔ ((fW A (A 14 (A 0 5))).isSome = true ∨ (fPn A (A 14 (A 0 5))).isSome = true)) := fun e0 => by
      obtain ⟨b1, b2, _⟩ := c6 e0
      have mm : m = A 0 0 + A 0 2 := by have := (x7 e0).1; omega
      rw [isS_ne, isS_ne]
      unfold fW fPn
      rw [fFind_ex, fFind_ex, fFind_ex]
      constructor
      · rintro ⟨j, j1, j2⟩
        have j2 := of_decide_eq_true j2
        rw [Nat.zero_add] at j2
        by_cases q : j < A 0 0
        · exact Or.inl ⟨j, q, decide_eq_true ((lN_inj (b1 j q).2 w40).mp ((b1 j q).1.symm.trans j2))⟩
        · refine Or.inr ⟨j - A 0 0, by omega, decide_eq_true ((lN_inj (b2 _ (by omega)).2 w40).mp ((b2 (j - A 0 0) (by omega)).1.symm.trans ?_))⟩
          rw [show A 0 0 + (j - A 0 0) = j by omega]; exact j2
      · rintro (⟨j, j1, j2⟩ | ⟨j, j1, j2⟩)
        · refine ⟨j, by omega, decide_eq_true ?_⟩
          rw [Nat.zero_add, (b1 j j1).1, of_decide_eq_true j2]
        · refine ⟨A 0 0 + j, by omega, decide_eq_true ?_⟩
          rw [Nat.zero_add, (b2 j j1).1, of_decide_eq_true j2]
    generalize fFind (fun j => decide (gJ st 69 (0 + j) = lN (A 14 (A 0 5)))) (m - 0) = r at lt dup ⊢
    have fl5 := c3.2.2.2.2
    -- behind both notes
    have L44 : ∀ u, RP n tp s0 P op q0 c0 g0 h0 0 ph 1 k (mNewM many A) u → (∀ j, j < 5 → gI u 68 j = gI st 68 j) → wX11_naming_L44 68 v1 u Q := by
      intro u hu hm
      unfold wX11_naming_L44
      rw [hm 2 (by omega), x4]
      have c8 := c1.1
      have c6' := c1.2.2.1
      have u9 : gJ u 68 9 = lN (A 14 (A 0 5)) := by
        obtain ⟨⟨_, y2, _⟩, ⟨_, _, y3, _⟩, _⟩ := hu
        have := y3 (A 0 5) (by rw [newM_s (by omega)]; exact l1)
        rw [s10, newM_s (by omega)] at this
        rw [this.2.1]
        rw [s5] at y2
        exact y2.2.2.2.1 (by rw [← this.1]; exact e)
      have fin : ∀ (v : Nat) (s9 : St), (m < 16 → gJ s9 69 m = lN (A 14 (A 0 5))) → (∀ d j, (d ≠ 69 ∨ j ≠ m) → gJ s9 d j = gJ u d j) → (∀ d j, (d ≠ 68 ∨ j ≠ 2) → gI s9 d j = gI u d j) → FQ P u s9 → gI s9 68 2 = nI v → (m < 16 → v = m + 1) → v ≤ 16 → wX11_naming_L91 68 v1 s9 Q := by
        intro v s9 g69 gj9 gi9 hF e9 hv1 hv16
        unfold wX11_naming_L91
        have h9 : RP n tp s0 P op q0 c0 g0 h0 1 ph 1 k (mNewM many A) s9 := by
          refine hu.ch (fun _ _ _ => rfl) (fun d j w => gi9 d j (by omega)) (gj9 68 9 (by omega)) hF hu.2.2.1 ?_ ?_ (fun e0 hd => ?_)
          · obtain ⟨a1, a2, a3, a4, a5, a6⟩ := hu.2.2.2.1
            exact ⟨(gi9 70 0 (by omega)).trans a1, (gi9 70 1 (by omega)).trans a2, (gi9 70 2 (by omega)).trans a3, (gi9 70 3 (by omega)).trans a4, (gi9 70 9 (by omega)).trans a5, (gi9 70 11 (by omega)).trans a6⟩
          · refine ⟨v, m3, m4, hv16, x2, x3, e9, (gi9 68 3 (by omega)).trans ((hm 3 (by omega)).trans x5), (gi9 68 4 (by omega)).trans ((hm 4 (by omega)).trans x6), fun e0 => ?_⟩
            have z0 : A 0 6 = 0 := FxR.e0 (A' := mNewM many A) (by
              unfold mNewM
              split
              · exact fx_mk
              split
              · exact fx_mk
              · exact FxR.rf) e0
            rw [newM_s (r := 0) (k := 0) (by omega), newM_s (r := 0) (k := 2) (by omega)]
            obtain ⟨y1, y2⟩ := x7 z0
            exact ⟨by have := hv1 (by omega); omega, y2⟩
          · have z0 : A 0 6 = 0 := FxR.e0 (A' := mNewM many A) (by
              unfold mNewM
              split
              · exact fx_mk
              split
              · exact fx_mk
              · exact FxR.rf) e0
            have mm := (x7 z0).1
            obtain ⟨b1, b2, b3, b4, b5, b6, b7⟩ := hd
            have q0' : mNewM many A 0 0 = A 0 0 := newM_s (by omega)
            have q2' : mNewM many A 0 2 = A 0 2 := newM_s (by omega)
            refine ⟨fun k hk => ?_, fun k hk => ?_, fun k hk => ?_, fun k hk => ?_, fun k w1 w2 => ?_, fun p hp => ?_, fun a ha ho => ?_⟩
            · rw [gj9 69 k (by omega)]; exact b1 k hk
            · rw [gj9 69 _ (by omega)]; exact b2 k hk
            · rw [gi9 71 k (by omega), gi9 72 k (by omega)]; exact b3 k hk
            · rw [gi9 73 k (by omega)]; exact b4 k hk
            · rw [gi9 73 k (by omega)]; exact b5 k w1 w2
            · rw [gi9 74 p (by omega), gi9 75 _ (by omega)]; exact b6 p hp
            · exact (b7 a ha ho).fx (fun _ => rfl) (fun _ _ _ => rfl) (fun _ _ => rfl) (Nat.le_refl _) (Nat.le_refl _) (Nat.le_refl _) (fun i _ _ => gi9 75 i (by omega)) (fun i _ => gi9 76 i (by omega))
        refine r_nx hP.1 h9 (by omega) (by rw [s5, s10, e]; exact Nat.le_refl 2) (fun s10' h10 hN => ?_)
        rw [s5] at h10
        refine hq1 rfl s10' h10 (fun e0 => ?_)
        have e0 : mNewM many A 0 6 = 0 := e0
        have z0 : A 0 6 = 0 := FxR.e0 (A' := mNewM many A) (by
          unfold mNewM
          split
          · exact fx_mk
          split
          · exact fx_mk
          · exact FxR.rf) e0
        have mm := (x7 z0).1
        rw [hN.1.gJ (by unfold P68; omega), ← g69 (by omega), mm]
        congr 1
      have L69 : ∀ u1, (m < 16 → gJ u1 69 m = lN (A 14 (A 0 5))) → (∀ d j, (d ≠ 69 ∨ j ≠ m) → gJ u1 d j = gJ u d j) → (∀ d j, gI u1 d j = gI u d j) → FQ P u u1 → wX11_naming_L69 68 v1 u1 Q := by
        intro u1 g69 gj gi hF
        unfold wX11_naming_L69
        rw [gi 68 2, hm 2 (by omega), x4]
        refine ⟨fun q => ?_, fun q => ?_⟩
        · have q' := (nI_leI (a := 16) (by omega) (by omega)).mp q
          exact fin m u1 g69 gj (fun d j _ => gi d j) hF (by rw [gi 68 2, hm 2 (by omega)]; exact x4) (fun w => by omega) x1
        · have q' : ¬ 16 ≤ m := fun w => q (nI_le (a := 16) w (by omega))
          intro s8 e8
          exact fin (m + 1) s8 (fun w => by rw [e8]; exact g69 w) (fun d j w => by rw [e8]; exact gj d j w) (fun d j w => by rw [e8, gI_uI, if_neg (by omega)]; exact gi d j) (by rw [e8]; exact hF.tr (FQ.uI hP.1)) (by rw [e8, gI_uI, if_pos ⟨rfl, rfl⟩, nI_1]) (fun _ => rfl) (by omega)
      refine ⟨fun q => ?_, fun q => ⟨?_, ?_⟩⟩
      · have q' := (nI_leI (a := 16) (by omega) (by omega)).mp q
        exact L69 u (fun w => by omega) (fun _ _ _ => rfl) (fun _ _ => rfl) FQ.rf
      · have q' : ¬ 16 ≤ m := fun w => q (nI_le (a := 16) w (by omega))
        exact (vin_iff (by omega)).mpr (by omega)
      · have q' : ¬ 16 ≤ m := fun w => q (nI_le (a := 16) w (by omega))
        intro s7 e7
        rw [nI_clamp (by omega), u9] at e7
        exact L69 s7 (fun _ => by rw [e7, gJ_uJ, if_pos ⟨rfl, rfl⟩]) (fun d j w => by rw [e7, gJ_uJ, if_neg (by omega)]) (fun d j => by rw [e7, gI_uJ]) (by rw [e7]; exact FQ.uJ hP.2)
    have L35 : ∀ u B, RP n tp s0 P op q0 c0 g0 h0 0 ph 1 k B u → (∀ j, j < 5 → gI u 68 j = gI st 68 j) → (if many = true then mMk 4 B else B) = mNewM many A → (B 0 6 ≠ 0 → B 0 7 = B 0 5 + 1 → B 0 6 < 4) → wX11_naming_L35 68 v1 v1 u Q := by
      intro u B hu hm eB hs
      unfold wX11_naming_L35
      refine ⟨fun q => ?_, fun q => ?_⟩
      · have mf := hv.mp q
        rw [if_neg (by rw [mf]; decide)] at eB
        rw [eB] at hu
        exact L44 u hu hm
      · have mt : many = true := (Bool.not_eq_false _).mp (fun w => q (hv.mpr w))
        rw [if_pos mt] at eB
        exact r_note (e := 4) hP.1 hu (by omega) (by omega) (by omega) hs (fun s1 h1 _ _ hg => L44 s1 (by rw [← eB]; exact h1) (fun j hj => (hg j (by omega) (by omega)).trans (hm j hj)))
    have same : A 0 6 ≠ 0 → ∀ e, mMk e A = A := fun q e => by unfold mMk; rw [if_neg q]
    rw [show (-1 : Int32) = -nI 1 from rfl, oI_m1 (fun j e => by have := lt j e; omega)]
    refine ⟨fun q => L35 st A (hh.z1 (by omega)) (fun _ _ => rfl) ?_ (fun w y => by omega), fun q => ?_⟩
    · by_cases e0 : A 0 6 = 0
      · have nd : ¬ ((fW A (A 14 (A 0 5))).isSome = true ∨ (fPn A (A 14 (A 0 5))).isSome = true) := fun w => (dup e0).mpr w q
        unfold mNewM
        rw [if_neg nd]
      · unfold mNewM
        rw [same e0, same e0]
        simp
    · refine r_note (e := 2) hP.1 hh (by omega) (by omega) (by omega) (fun _ y => by omega) (fun s1 h1 _ _ hg => L35 s1 (mMk 2 A) h1 (fun j hj => hg j (by omega) (by omega)) ?_ (fun w y => ?_))
      · by_cases e0 : A 0 6 = 0
        · have nd := (dup e0).mp q
          unfold mNewM
          rw [if_pos nd]
          have : mMk 2 A 0 6 ≠ 0 := fun w => mMk_0 (by decide) w
          split
          · unfold mMk at this ⊢
            rw [if_neg this]
          · rfl
        · unfold mNewM
          rw [same e0, same e0]
          simp
      · unfold mMk at y w ⊢
        split at y
        · next e => rw [if_pos e, u2_a, if_neg (by omega), u2_a, if_pos ⟨rfl, rfl⟩]; omega
        · next e => omega
  · have m : mNew many A = (false, mNewM many A) := by unfold mNew mTk; rw [s5, s10, if_neg e]
    refine r_wr hP.1 h (fun s1 h1 => hq0 (by rw [m]) s1 ?_)
    rw [m]
    refine ⟨h1.1, h1.2.trans ?_⟩
    show _ = nI (tfr n tp (mNewM many A 0 5))
    rw [s5]
/-- a walker's number is written, where no walker is yet -/
theorem RP.w7 {d j : Nat} {v : Int32} (hd : d = 71 ∨ d = 72 ∨ d = 74) (hP : P d) (hj : (d ≠ 74 → A 0 0 ≤ j) ∧ (d = 74 → A 0 2 ≤ j)) (h : RP n tp s0 P op q0 c0 g0 h0 pd ph z k A st) (e : s1 = uI st d j v) : RP n tp s0 P op q0 c0 g0 h0 pd ph z k A s1 := by
  have gi : ∀ d' j', (d' ≠ d ∨ j' ≠ j) → gI s1 d' j' = gI st d' j' := fun d' j' w => by rw [e, gI_uI, if_neg (by omega)]
  have J : s1.2 = st.2 := by rw [e]; rfl
  refine h.ch (fun _ _ _ => rfl) (fun d' j' w => gi d' j' (by omega)) (by show s1.2.1 68 9 = _; rw [J]; rfl) (by rw [e]; exact FQ.uI hP) h.2.2.1 ?_ ?_ (fun _ hr => ?_)
  · obtain ⟨a1, a2, a3, a4, a5, a6⟩ := h.2.2.2.1
    exact ⟨(gi 70 0 (by omega)).trans a1, (gi 70 1 (by omega)).trans a2, (gi 70 2 (by omega)).trans a3, (gi 70 3 (by omega)).trans a4, (gi 70 9 (by omega)).trans a5, (gi 70 11 (by omega)).trans a6⟩
  · have c4 := h.2.2.2.2.2.1
    unfold NMs
    rw [gi 68 2 (by omega), gi 68 3 (by omega), gi 68 4 (by omega)]; exact c4
  · obtain ⟨b1, b2, b3, b4, b5, b6, b7⟩ := hr
    have Jj : ∀ i, gJ s1 69 i = gJ st 69 i := fun i => by show s1.2.1 69 i = _; rw [J]; rfl
    refine ⟨fun k hk => by rw [Jj]; exact b1 k hk, fun k hk => by rw [Jj]; exact b2 k hk, fun k hk => by rw [gi 71 k (by omega), gi 72 k (by omega)]; exact b3 k hk, fun k hk => by rw [gi 73 k (by omega)]; exact b4 k hk, fun k w1 w2 => by rw [gi 73 k (by omega)]; exact b5 k w1 w2, fun p hp => by rw [gi 74 p (by omega), gi 75 _ (by omega)]; exact b6 p hp, fun a ha ho => ?_⟩
    exact (b7 a ha ho).fx (fun _ => rfl) (fun _ _ _ => rfl) (fun _ _ => rfl) (Nat.le_refl _) (Nat.le_refl _) (Nat.le_refl _) (fun i _ _ => gi 75 i (by omega)) (fun i _ => gi 76 i (by omega))
/-- the walker is counted -/
theorem RP.aw {f : Nat} (hP : P 70) (h : RP n tp s0 P op q0 c0 g0 h0 1 false z k A st) (h2 : A 0 2 = 0) (hd : A 0 6 = 0 → A 0 0 < 8 ∧ gJ st 69 (A 0 0) = lN (A 14 (f + 1)) ∧ A 14 (f + 1) < 2 ^ 40 ∧ gI st 71 (A 0 0) = nI (A 11 (f + 3) - 1) ∧ gI st 72 (A 0 0) = nI (A 11 (f + 5) - 1)) (e1 : s1 = if A 0 0 < 8 then uI st 70 0 (nI (A 0 0 + 1)) else st) : RP n tp s0 P op q0 c0 g0 h0 0 false z k (mAddW f A) s1 := by
  by_cases q : A 0 0 < 8
  · rw [if_pos q] at e1
    have mA : mAddW f A = u2 (u2 (u2 (u2 A 16 (A 0 0) (A 14 (f + 1))) 1 (A 0 0) (A 11 (f + 3) - 1)) 2 (A 0 0) (A 11 (f + 5) - 1)) 0 0 (A 0 0 + 1) := by unfold mAddW; rw [if_pos q]
    have s : ∀ r j, (r ≠ 0 ∨ j ≠ 0) → ((r ≠ 16 ∧ r ≠ 1 ∧ r ≠ 2) ∨ j ≠ A 0 0) → mAddW f A r j = A r j := fun r j w1 w2 => by
      rw [mA, u2_a, if_neg (by omega), u2_a, if_neg (by omega), u2_a, if_neg (by omega), u2_a, if_neg (by omega)]
    have v0 : mAddW f A 0 0 = A 0 0 + 1 := by rw [mA, u2_a, if_pos ⟨rfl, rfl⟩]
    have v2 : mAddW f A 2 (A 0 0) = A 11 (f + 5) - 1 := by rw [mA, u2_a, if_neg (by omega), u2_a, if_pos ⟨rfl, rfl⟩]
    have v1 : mAddW f A 1 (A 0 0) = A 11 (f + 3) - 1 := by rw [mA, u2_a, if_neg (by omega), u2_a, if_neg (by omega), u2_a, if_pos ⟨rfl, rfl⟩]
    have v16 : mAddW f A 16 (A 0 0) = A 14 (f + 1) := by rw [mA, u2_a, if_neg (by omega), u2_a, if_neg (by omega), u2_a, if_neg (by omega), u2_a, if_pos ⟨rfl, rfl⟩]
    clear mA
    have s0' : ∀ j, j ≠ 0 → mAddW f A 0 j = A 0 j := fun j w => s 0 j (by omega) (by omega)
    have gi : ∀ d' j', (d' ≠ 70 ∨ j' ≠ 0) → gI s1 d' j' = gI st d' j' := fun d' j' w => by rw [e1, gI_uI, if_neg (by omega)]
    have J : s1.2 = st.2 := by rw [e1]; rfl
    have Jj : ∀ i, gJ s1 69 i = gJ st 69 i := fun i => by show s1.2.1 69 i = _; rw [J]; rfl
    refine h.ch (fun r j w => s r j (by omega) (by omega)) (fun d' j' w => gi d' j' (by omega)) (by show s1.2.1 68 9 = _; rw [J]; rfl) (by rw [e1]; exact FQ.uI hP) ?_ ?_ ?_ (fun e0 hr => ?_)
    · obtain ⟨k1, k2, k3, k4, k5⟩ := h.2.2.1
      exact ⟨by omega, by rw [s0' 1 (by omega)]; exact k2, by rw [s0' 2 (by omega)]; exact k3, by rw [s0' 3 (by omega)]; exact k4, by rw [s0' 8 (by omega), s0' 9 (by omega), s0' 5 (by omega)]; exact k5⟩
    · obtain ⟨a1, a2, a3, a4, a5, a6⟩ := h.2.2.2.1
      unfold CN
      rw [v0, s0' 1 (by omega), s0' 2 (by omega), s0' 3 (by omega), s0' 8 (by omega), s0' 9 (by omega)]
      exact ⟨by rw [e1, gI_uI, if_pos ⟨rfl, rfl⟩], (gi 70 1 (by omega)).trans a2, (gi 70 2 (by omega)).trans a3, (gi 70 3 (by omega)).trans a4, (gi 70 9 (by omega)).trans a5, (gi 70 11 (by omega)).trans a6⟩
    · obtain ⟨m, m3, m4, x1, x2, x3, x4, x5, x6, x7⟩ := h.2.2.2.2.2.1
      refine ⟨m, m3, m4, x1, x2, x3, (gi 68 2 (by omega)).trans x4, (gi 68 3 (by omega)).trans x5, (gi 68 4 (by omega)).trans x6, fun e0 => ?_⟩
      rw [s0' 6 (by omega)] at e0
      obtain ⟨y1, y2, y3⟩ := x7 e0
      rw [v0, s0' 2 (by omega)]
      exact ⟨by omega, fun w => (by cases w), y3⟩
    · obtain ⟨b1, b2, b3, b4, b5, b6, b7⟩ := hr
      obtain ⟨d1, d2, d3, d4, d5⟩ := hd e0
      unfold RD
      rw [v0, s0' 1 (by omega), s0' 2 (by omega), s0' 8 (by omega), s0' 3 (by omega)]
      refine ⟨fun k hk => ?_, fun k hk => by omega, fun k hk => ?_, fun k hk => by rw [gi 73 k (by omega), s 3 k (by omega) (by omega)]; exact b4 k hk, fun k w1 w2 => by rw [gi 73 k (by omega)]; exact b5 k w1 w2, fun p hp => by omega, fun a ha ho => ?_⟩
      · rw [Jj]
        by_cases w : k = A 0 0
        · rw [w, v16]; exact ⟨d2, d3⟩
        · rw [s 16 k (by omega) (by omega)]; exact b1 k (by omega)
      · rw [gi 71 k (by omega), gi 72 k (by omega)]
        by_cases w : k = A 0 0
        · rw [w, v1, v2]; exact ⟨d4, d5⟩
        · rw [s 1 k (by omega) (by omega), s 2 k (by omega) (by omega)]; exact b3 k (by omega)
      · exact (b7 a ha ho).fx (fun i => s 10 i (by omega) (by omega)) (fun r hr _ => s r a (by unfold ar at hr; omega) (by unfold ar at hr; omega)) (fun i _ => s 11 i (by omega) (by omega)) (Nat.le_of_eq (s0' 5 (by omega)).symm) (Nat.le_of_eq (s0' 8 (by omega)).symm) (Nat.le_of_eq (s0' 9 (by omega)).symm) (fun i _ _ => gi 75 i (by omega)) (fun i _ => gi 76 i (by omega))
  · rw [if_neg q] at e1
    have mA : mAddW f A = A := by unfold mAddW; rw [if_neg q]
    rw [mA, e1]
    refine h.ch (fun _ _ _ => rfl) (fun _ _ _ => rfl) rfl FQ.rf h.2.2.1 h.2.2.2.1 ?_ (fun e0 _ => absurd (hd e0).1 q)
    obtain ⟨m, m3, m4, x1, x2, x3, x4, x5, x6, x7⟩ := h.2.2.2.2.2.1
    exact ⟨m, m3, m4, x1, x2, x3, x4, x5, x6, fun e0 => absurd (hd e0).1 q⟩
theorem addW_at {f v : Nat} : u2 (mAddW f A) 0 5 v = mAddW f (u2 A 0 5 v) := by
  have e2 : mAddW f (u2 A 0 5 v) = if A 0 0 < 8 then u2 (u2 (u2 (u2 (u2 A 0 5 v) 16 (A 0 0) (A 14 (f + 1))) 1 (A 0 0) (A 11 (f + 3) - 1)) 2 (A 0 0) (A 11 (f + 5) - 1)) 0 0 (A 0 0 + 1) else u2 A 0 5 v := rfl
  rw [e2]
  unfold mAddW
  by_cases q : A 0 0 < 8
  · rw [if_pos q, if_pos q]
    rw [u2_cm (r1 := 0) (k1 := 0) (r2 := 0) (k2 := 5) (by omega), u2_cm (r1 := 2) (r2 := 0) (k2 := 5) (by omega), u2_cm (r1 := 1) (r2 := 0) (k2 := 5) (by omega), u2_cm (r1 := 16) (r2 := 0) (k2 := 5) (by omega)]
  · rw [if_neg q, if_neg q]
theorem addW_tk {f kk : Nat} : mTk kk (mAddW f A) = ((mTk kk A).1, mAddW f (mTk kk A).2) := by
  have e : mAddW f A 10 (mAddW f A 0 5) = A 10 (A 0 5) ∧ mAddW f A 0 5 = A 0 5 := by
    unfold mAddW
    split
    · exact ⟨rfl, rfl⟩
    · exact ⟨rfl, rfl⟩
  unfold mTk
  rw [e.1, e.2]
  by_cases q : A 10 (A 0 5) = kk
  · rw [if_pos q, if_pos q, addW_at]
  · rw [if_neg q, if_neg q]
def w5 (A : Bk) : Bool × Bk := bd (mNum 1 20 A) (mTk 6)
def w4 (A : Bk) : Bool × Bk := bd (mTk 13 A) w5
def w3 (A : Bk) : Bool × Bk := bd (mNum 1 9 A) w4
def w2 (A : Bk) : Bool × Bk := bd (mTk 12 A) w3
def w1 (A : Bk) : Bool × Bk := bd (mNew (decide (8 ≤ A 0 0)) A) w2
theorem wk1_eq : mWk1 A = bd (mTk 11 A) w1 := rfl
def WkO (n : Nat) (tp : Nat → Nat) (s0 : St) (P : Nat → Prop) (op : Nat → Prop) (q0 c0 : Nat) (g0 h0 : Nat → Int32) (k f : Nat) (Q : Int32 → St → Prop) (r : Bool × Bk) : Prop := (r.1 = true → ∀ st', RP n tp s0 P op q0 c0 g0 h0 0 false 0 k (mAddW f r.2) st' → Q 1 st') ∧ (r.1 = false → ∀ st', RF n tp s0 P r.2 st' → Q 0 st')
def KS (i : Nat) (A A1 : Bk) : Prop := (∀ r j, (r ≠ 0 ∨ (j ≠ 5 ∧ j ≠ 6 ∧ j ≠ 7)) → A1 r j = A r j) ∧ A1 0 5 = A 0 5 + i
theorem KS.kn {i m : Nat} {g : Bk → Bool × Bk} {A1 : Bk} (h : KS i A A1) (hg : Kn m g) (t : (g A1).1 = true) : KS (i + m) A (g A1).2 := ⟨fun r j w => ((hg A1).1 r j w).trans (h.1 r j w), by rw [(hg A1).2 t, h.2]; omega⟩
theorem KS.o {i lo hi : Nat} {A1 : Bk} (h : KS i A A1) : KS i A (mOut lo hi A1) := ⟨fun r j w => (mOut_s (by omega)).trans (h.1 r j w), (mOut_s (by omega)).trans h.2⟩
theorem KS.s {i : Nat} {A1 : Bk} (h : KS i A A1) : KS (i + 1) A (u2 A1 0 5 (A1 0 5 + 1)) := ⟨fun r j w => by rw [u2_a, if_neg (by omega)]; exact h.1 r j w, by rw [u2_a, if_pos ⟨rfl, rfl⟩, h.2]; omega⟩
theorem num_ok {lo hi : Nat} (e : A 10 (A 0 5) = 3) : mNum lo hi A = (true, u2 (mOut lo hi A) 0 5 (mOut lo hi A 0 5 + 1)) := by
  unfold mNum mTk
  rw [if_pos (by rw [mOut_s (by omega), mOut_s (by omega)]; exact e)]
theorem num_no {lo hi : Nat} (e : ¬ A 10 (A 0 5) = 3) : mNum lo hi A = (false, mOut lo hi A) := by
  unfold mNum mTk
  rw [if_neg (by rw [mOut_s (by omega), mOut_s (by omega)]; exact e)]
theorem RF.o {lo hi : Nat} (h : RF n tp s0 P A st) : RF n tp s0 P (mOut lo hi A) st := ⟨h.1, by rw [mOut_s (by omega)]; exact h.2⟩
theorem RP.f5 (h : RP n tp s0 P op q0 c0 g0 h0 pd ph z k A st) : A 0 6 ≠ 0 → A 0 7 = A 0 5 + z + 1 → A 0 6 < 5 := fun _ e => by have := h.2.2.2.2.1.2.2.2.2; omega
theorem new_many {b : Bool} (h : (mNew b A).2 0 6 = 0) : b = false := by
  have h : mNewM b A 0 6 = 0 := (fx_tk (k := 2) (mNewM b A)).e0 h
  unfold mNewM at h
  split at h
  · exact (mMk_0 (by decide) h).elim
  split at h
  · exact (mMk_0 (by decide) h).elim
  · next q => exact (Bool.not_eq_true _).mp q
/-- a walker read -/
theorem r_wk (hP : P 68 ∧ P 69 ∧ P 70 ∧ P 71 ∧ P 72) (h2 : A 0 2 = 0) (hk : A 10 (A 0 5) = 11) (h : RP n tp s0 P op q0 c0 g0 h0 0 false 0 k A st) (hq : WkO n tp s0 P op q0 c0 g0 h0 k (A 0 5) Q (mWk1 A)) : wX11_walker 68 st Q := by
  unfold wX11_walker
  have pP : ∀ d, P68 d → P d := fun d e => by unfold P68 at e; rw [e]; exact hP.1
  rw [wk1_eq] at hq
  have m1 : mTk 11 A = (true, u2 A 0 5 (A 0 5 + 1)) := by unfold mTk; rw [if_pos hk]
  rw [m1, bd_t rfl] at hq
  have hq : WkO n tp s0 P op q0 c0 g0 h0 k (A 0 5) Q (w1 (u2 A 0 5 (A 0 5 + 1))) := hq
  refine r_nx hP.1 h (by omega) (by omega) (fun s1 h1 _ => ?_)
  have K1 : KS 1 A (u2 A 0 5 (A 0 5 + 1)) := KS.s (i := 0) ⟨fun _ _ _ => rfl, rfl⟩
  generalize u2 A 0 5 (A 0 5 + 1) = A1 at hq h1 K1
  have c8 := h1.2.2.1.1
  have g0' := h1.2.2.2.1.1
  have x12 : A 14 (A 0 5 + 1) < 2 ^ 40 := by
    have l := h1.2.1
    rw [← K1.1 14 _ (by omega), ← K1.2, (l.2.2.1 _ l.1).2.1]
    exact twd40
  rw [g0']
  have key : ∀ v : Int32, (v = 0 ↔ decide (8 ≤ A1 0 0) = false) → wX11_walker_L21 68 v s1 Q := by
    intro v hv
    unfold wX11_walker_L21
    unfold w1 at hq
    refine r_new (many := decide (8 ≤ A1 0 0)) ⟨hP.1, hP.2.1⟩ hv h1 (fun t s2 h2' pend => ⟨fun q => absurd q (by decide), fun _ => ?_⟩) (fun t s2 h2 => ⟨fun _ => ?_, fun q => absurd rfl q⟩)
    · rw [bd_t t] at hq
      have K2 : KS 2 A (mNew (decide (8 ≤ A1 0 0)) A1).2 := K1.kn kn_new t
      have many := fun e => of_decide_eq_false (new_many (b := decide (8 ≤ A1 0 0)) (A := A1) e)
      generalize (mNew (decide (8 ≤ A1 0 0)) A1).2 = A2 at hq h2' pend K2 many
      have F2 : FQ P s0 s2 := h2'.1.2.2
      have h2' := h2'.rb (P' := P68)
      unfold w2 at hq
      refine r_take (kk := 12) (P := P68) rfl h2' (by omega) (by omega) (by omega) ⟨fun t s4 h4 => ⟨fun q => absurd q (by decide), fun _ => ?_⟩, fun t s4 h4 => ⟨fun _ => ?_, fun q => absurd rfl q⟩⟩
      · rw [bd_t t] at hq
        have K3 : KS 3 A (mTk 12 A2).2 := K2.kn kn_tk t
        have e26 : (mTk 12 A2).2 0 6 = 0 → A2 0 6 = 0 := (fx_tk (k := 12) A2).e0
        generalize (mTk 12 A2).2 = A3 at hq h4 K3 e26
        unfold w3 at hq
        refine r_num (lo := 1) (hi := 9) (P := P68) rfl h4 (by omega) (h4.f5) (by omega) (by omega) (fun e s6 h6 g8 => ⟨fun _ => ?_, fun q => absurd q (by decide)⟩) (fun e s6 h6 => ⟨fun q => absurd rfl q, fun _ => ?_⟩)
        · rw [num_ok e, bd_t rfl] at hq
          have hq : WkO n tp s0 P op q0 c0 g0 h0 k (A 0 5) Q (w4 (u2 (mOut 1 9 A3) 0 5 (mOut 1 9 A3 0 5 + 1))) := hq
          have K4 : KS 3 A (mOut 1 9 A3) := K3.o
          have e36 : (mOut 1 9 A3) 0 6 = 0 → A3 0 6 = 0 := (fx_out (lo := 1) (hi := 9) (A := A3)).e0
          rw [K3.1 11 _ (by omega), K3.2] at g8
          have k4 : mOut 1 9 A3 10 (mOut 1 9 A3 0 5) = 3 := by rw [mOut_s (by omega), mOut_s (by omega)]; exact e
          generalize mOut 1 9 A3 = A4 at hq h6 K4 e36 k4
          have g60 := h6.2.2.2.1.1
          have c86 := h6.2.2.1.1
          rw [g60, nI_clamp (by omega), g8]
          refine ⟨(vin_iff (by omega)).mpr (by omega), ?_⟩
          intro s8 e8
          have h8 := (h6.rb (P' := fun d => d = 68 ∨ d = 71 ∨ d = 72)).w7 (d := 71) (Or.inl rfl) (Or.inr (Or.inl rfl)) ⟨fun _ => Nat.le_refl _, fun w => absurd w (by decide)⟩ e8
          have F8 : FQ P s0 s8 := (F2.tr (h6.1.2.2.mo pP)).tr (by rw [e8]; exact FQ.uI hP.2.2.2.1)
          have g71 : gI s8 71 (A 0 0) = nI (A 11 (A 0 5 + 3) - 1) := by rw [e8, gI_uI, if_pos ⟨rfl, (K4.1 0 0 (by omega)).symm⟩]
          have j69 : A4 0 6 = 0 → gJ s8 69 (A 0 0) = lN (A 14 (A 0 5 + 1)) := fun e0 => by
            have := pend (e26 (e36 e0))
            rw [K1.1 0 0 (by omega), K1.1 0 2 (by omega), h2, K1.1 14 _ (by omega), K1.2, Nat.add_zero] at this
            rw [e8, gJ_uI, h6.1.2.2.gJ (by unfold P68; omega)]
            exact this
          refine r_nx (P := P68) rfl h8.rb (by omega) (by omega) (fun s9 h9 _ => ?_)
          have K5 : KS 4 A (u2 A4 0 5 (A4 0 5 + 1)) := K4.s
          have e46 : (u2 A4 0 5 (A4 0 5 + 1)) 0 6 = 0 → A4 0 6 = 0 := fun w => w
          generalize u2 A4 0 5 (A4 0 5 + 1) = A5 at hq h9 K5 e46
          unfold w4 at hq
          refine r_take (kk := 13) (P := P68) rfl h9 (by omega) (by omega) (by omega) ⟨fun t s10 h10 => ⟨fun q => absurd q (by decide), fun _ => ?_⟩, fun t s10 h10 => ⟨fun _ => ?_, fun q => absurd rfl q⟩⟩
          · rw [bd_t t] at hq
            have K6 : KS 5 A (mTk 13 A5).2 := K5.kn kn_tk t
            have e56 : (mTk 13 A5).2 0 6 = 0 → A5 0 6 = 0 := (fx_tk (k := 13) A5).e0
            generalize (mTk 13 A5).2 = A6 at hq h10 K6 e56
            unfold w5 at hq
            refine r_num (lo := 1) (hi := 20) (P := P68) rfl h10 (by omega) (h10.f5) (by omega) (by omega) (fun e s12 h12 g8 => ⟨fun _ => ?_, fun q => absurd q (by decide)⟩) (fun e s12 h12 => ⟨fun q => absurd rfl q, fun _ => ?_⟩)
            · rw [num_ok e, bd_t rfl] at hq
              have K7 : KS 5 A (mOut 1 20 A6) := K6.o
              have e66 : (mOut 1 20 A6) 0 6 = 0 → A6 0 6 = 0 := (fx_out (lo := 1) (hi := 20) (A := A6)).e0
              rw [K6.1 11 _ (by omega), K6.2] at g8
              have k7 : mOut 1 20 A6 10 (mOut 1 20 A6 0 5) = 3 := by rw [mOut_s (by omega), mOut_s (by omega)]; exact e
              generalize mOut 1 20 A6 = A7 at hq h12 K7 e66 k7
              have g12 := h12.2.2.2.1.1
              have c812 := h12.2.2.1.1
              rw [g12, nI_clamp (by omega), g8]
              refine ⟨(vin_iff (by omega)).mpr (by omega), ?_⟩
              intro s14 e14
              have h14 := (h12.rb (P' := fun d => d = 68 ∨ d = 71 ∨ d = 72)).w7 (d := 72) (Or.inr (Or.inl rfl)) (Or.inr (Or.inr rfl)) ⟨fun _ => Nat.le_refl _, fun w => absurd w (by decide)⟩ e14
              have F14 : FQ P s0 s14 := (F8.tr (h12.1.2.2.mo pP)).tr (by rw [e14]; exact FQ.uI hP.2.2.2.2)
              have x0 : A7 0 0 = A 0 0 := K7.1 0 0 (by omega)
              have hd : A7 0 6 = 0 → A7 0 0 < 8 ∧ gJ s14 69 (A7 0 0) = lN (A7 14 (A 0 5 + 1)) ∧ A7 14 (A 0 5 + 1) < 2 ^ 40 ∧ gI s14 71 (A7 0 0) = nI (A7 11 (A 0 5 + 3) - 1) ∧ gI s14 72 (A7 0 0) = nI (A7 11 (A 0 5 + 5) - 1) := fun e0 => by
                have z4 := e46 (e56 (e66 e0))
                have mm := many (e26 (e36 z4))
                rw [K1.1 0 0 (by omega)] at mm
                rw [x0, K7.1 14 _ (by omega), K7.1 11 _ (by omega), K7.1 11 _ (by omega)]
                refine ⟨by omega, ?_, x12, ?_, ?_⟩
                · rw [e14, gJ_uI, h12.1.2.2.gJ (by unfold P68; omega)]; exact j69 z4
                · rw [e14, gI_uI, if_neg (by omega), h12.1.2.2.gI (by unfold P68; omega)]; exact g71
                · rw [e14, gI_uI, if_pos ⟨rfl, x0.symm⟩]
              have L133 : ∀ u, RP n tp s0 P op q0 c0 g0 h0 0 false 1 k (mAddW (A 0 5) A7) u → wX11_walker_L133 68 u Q := by
                intro u hu
                unfold wX11_walker_L133
                have ka : mAddW (A 0 5) A7 10 (mAddW (A 0 5) A7 0 5) = 3 ∧ mAddW (A 0 5) A7 0 5 = A7 0 5 := by
                  unfold mAddW
                  split
                  · exact ⟨k7, rfl⟩
                  · exact ⟨k7, rfl⟩
                refine r_nx hP.1 hu (by omega) (by omega) (fun s16 h16 _ => ?_)
                rw [ka.2, addW_at] at h16
                have hq : WkO n tp s0 P op q0 c0 g0 h0 k (A 0 5) Q (mTk 6 (u2 A7 0 5 (A7 0 5 + 1))) := hq
                refine r_take (kk := 6) hP.1 h16 (by omega) (by omega) (by omega) ?_
                rw [addW_tk]
                exact ⟨fun t s17 h17 => hq.1 t s17 (h17.km (by omega)), fun t s17 h17 => hq.2 t s17 ⟨h17.1, h17.2.trans (by
                  show nI (tfr n tp (mAddW (A 0 5) (mTk 6 (u2 A7 0 5 (A7 0 5 + 1))).2 0 5)) = _
                  congr 2
                  unfold mAddW
                  split
                  · rfl
                  · rfl)⟩⟩
              have pP2 : ∀ d, (d = 68 ∨ d = 71 ∨ d = 72) → P d := fun d e => by
                rcases e with rfl | rfl | rfl
                · exact hP.1
                · exact hP.2.2.2.1
                · exact hP.2.2.2.2
              have h14 : RP n tp s0 P op q0 c0 g0 h0 1 false 1 _ A7 s14 := (h14.rb (P' := P68)).un F14 pP
              have z2 : A7 0 2 = 0 := (K7.1 0 2 (by omega)).trans h2
              have z0 : A1 0 0 = A7 0 0 := (K1.1 0 0 (by omega)).trans x0.symm
              refine ⟨fun q => ?_, fun q => ?_⟩
              · have : ¬ A7 0 0 < 8 := fun w => q (hv.mpr (decide_eq_false (by omega)))
                exact L133 s14 ((h14.aw hP.2.2.1 z2 hd (by rw [if_neg this])).km (by omega))
              · have : A7 0 0 < 8 := by have := of_decide_eq_false (hv.mp q); omega
                have g14 := h14.2.2.2.1.1
                rw [g14, nI_1]
                intro s15 e15
                exact L133 s15 ((h14.aw hP.2.2.1 z2 hd (by rw [if_pos this]; exact e15)).km (by omega))
            · rw [num_no e, bd_f rfl] at hq
              exact hq.2 rfl s12 (h12.o.un F8 pP)
          · rw [bd_f t] at hq
            exact hq.2 rfl s10 (h10.un F8 pP)
        · rw [num_no e, bd_f rfl] at hq
          exact hq.2 rfl s6 (h6.o.un F2 pP)
      · rw [bd_f t] at hq
        exact hq.2 rfl s4 (h4.un F2 pP)
    · rw [bd_f t] at hq
      exact hq.2 rfl s2 h2
  refine ⟨fun q => key 0 ⟨fun _ => decide_eq_false (fun w => q ?_), fun _ => rfl⟩, fun q => key 1 ⟨fun w => absurd w (by decide), fun w => ?_⟩⟩
  · rw [show A1 0 0 = 8 by omega]; rfl
  · have := (nI_eq (b := 8) (by omega) (by omega)).mp q
    exact absurd w (by rw [this]; decide)
end MNW

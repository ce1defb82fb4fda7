/-! the reference is taught a book, by the model -/
def kr (r k : Nat) : Prop := r = 15 ∨ (r = 0 ∧ k = 4)
def K15 (f : Bk → Bool × Bk) : Prop := ∀ A r k, kr r k → (f A).2 r k = A r k
theorem k15_b {f g : Bk → Bool × Bk} (h : K15 f) (h2 : K15 g) : K15 (fun A => bd (f A) g) := fun A r k q => by
  show (bd (f A) g).2 r k = _
  cases e : (f A).1 with
  | true => rw [bd_t e, h2 _ r k q, h _ r k q]
  | false => rw [bd_f e]; exact h A r k q
theorem Fx.k15 {f : Bk → Bool × Bk} (h : Fx f) : K15 f := fun A r k q => (h A).1 r k (by unfold kr at q; unfold fxr; omega)
theorem addW_15 {f r k : Nat} {A : Bk} (q : kr r k) : mAddW f A r k = A r k := by
  unfold kr at q
  unfold mAddW
  split
  · rw [u2_a, if_neg (by omega), u2_a, if_neg (by omega), u2_a, if_neg (by omega), u2_a, if_neg (by omega)]
  · rfl
theorem addP_15 {r k : Nat} {A : Bk} (q : kr r k) : mAddP A r k = A r k := by
  unfold kr at q
  unfold mAddP
  split
  · rw [u2_a, if_neg (by omega), u2_a, if_neg (by omega)]
  · rfl
theorem addPl_15 {nm a0 b0 r k : Nat} {A : Bk} (q : kr r k) : mAddPl nm a0 b0 A r k = A r k := by
  unfold kr at q
  unfold mAddPl
  split
  · rw [u2_a, if_neg (by omega), u2_a, if_neg (by omega), u2_a, if_neg (by omega), u2_a, if_neg (by omega), u2_a, if_neg (by omega)]
  · rfl
theorem k15_wk : ∀ f, K15 (mWk f) := by
  intro f
  induction f with
  | zero => intro A r k _; rfl
  | succ f ih =>
    intro A r k q
    unfold mWk
    split
    · refine (k15_b (f := mWk1) (g := fun A1 => mWk f (mAddW (A 0 5) A1)) (fun A r k q => (kn_wk1 A).1 r k (by unfold kr at q; omega)) (fun A1 r k q => ?_)) A r k q
      rw [ih _ r k q, addW_15 q]
    · rfl
theorem k15_plank : K15 mPlank := fun A r k q => by
  unfold mPlank
  rw [fx_num.k15 _ r k q, addP_15 q]
  split
  · rfl
  · exact mMk_s (by unfold kr at q; omega)
theorem k15_fin : K15 mFin := fun A r k q => by
  unfold mFin
  rw [fx_tk.k15 _ r k q]
  split
  · exact mMk_s (by unfold kr at q; omega)
  · rfl
theorem k15_psl : ∀ f, K15 (mPsL f) := by
  intro f
  induction f with
  | zero => intro A r k q; exact k15_fin A r k q
  | succ f ih =>
    intro A r k q
    unfold mPsL
    split
    · exact k15_b (f := fun A => bd (mTk 7 A) mPlank) (k15_b fx_tk.k15 k15_plank) ih A r k q
    · exact k15_fin A r k q
theorem k15_pl : ∀ f, K15 (mPl f) := by
  intro f
  induction f with
  | zero => intro A r k _; rfl
  | succ f ih =>
    intro A r k q
    unfold mPl
    split
    · refine (k15_b (f := p0) (g := fun A3 => mPl f (mAddPl (A 0 5 + 1) (A 0 3) (A 0 8) (gInc 8 A3))) (k15_b fx_tk.k15 (k15_b (f := fun A1 => mNew (decide (6 ≤ A1 0 2)) A1) (fun A r k q => fx_new.k15 A r k q) fx_blk.k15)) (fun A1 r k q => ?_)) A r k q
      rw [ih _ r k q, addPl_15 q]
      unfold gInc
      rw [u2_a, if_neg (by unfold kr at q; omega)]
    · rfl
theorem k15_book : K15 mBook := k15_b (f := fun A => bd (mWk 400 A) mPs) (k15_b (k15_wk 400) (k15_b (f := fun A => bd (mTk 14 A) mPlank) (k15_b fx_tk.k15 k15_plank) (k15_psl 400))) (k15_pl 400)
theorem Ini.kt {n : Nat} {tp : Nat → Nat} {A : Bk} (h : Ini n tp A) : KT n tp A := by
  obtain ⟨h1, h2, h3, h4⟩ := h
  refine ⟨by rw [h3 5 (by omega)]; omega, h2, fun i hi => ⟨(h4 i hi).1, (h4 i hi).2.1, (h4 i hi).2.2.2.2⟩, fun i _ hi => (h4 i hi).2.2.2.1⟩
/-- a book without its clipped rows' ends is a right one still -/
theorem clip_sw {A : Bk} : Sw A (fClip A) := ⟨fun _ => rfl, rfl, rfl, Nat.le_refl _, Nat.le_refl _, Nat.le_refl _, fun _ _ => rfl, Nat.le_refl _, fun r c hr _ => by
  have : r ≠ 1 ∧ r ≠ 2 ∧ r ≠ 3 := by unfold ar at hr; omega
  unfold fClip
  rw [if_neg this.1, if_neg this.2.1, if_neg this.2.2]⟩
theorem clip_pi {A : Bk} (h : PI A) : PI (fClip A) := by
  refine ⟨fun a ha => ?_, h.2⟩
  have ha : a < A 0 3 := ha
  obtain ⟨h1, h2, h3⟩ := h.1 a ha
  refine ⟨h1.fw clip_sw ha, h2, ?_⟩
  rcases h3 with q | q
  · exact Or.inl q
  · exact Or.inr (q.fw clip_sw ha)
theorem clip_og {A : Bk} {st : St} {a : Nat} (h : OG A st a) : OG (fClip A) st a := h.fx (fun _ => rfl) (fun r hr _ => by
  have : r ≠ 1 ∧ r ≠ 2 ∧ r ≠ 3 := by unfold ar at hr; omega
  unfold fClip
  rw [if_neg this.1, if_neg this.2.1, if_neg this.2.2]) (fun _ _ => rfl) (Nat.le_refl _) (Nat.le_refl _) (Nat.le_refl _) (fun _ _ _ => rfl) (fun _ _ => rfl)
theorem OG.cg {A : Bk} {s1 s2 : St} {a : Nat} (h : OG A s1 a) (h1 : ∀ i, gI s2 75 i = gI s1 75 i) (h2 : ∀ i, gI s2 76 i = gI s1 76 i) : OG A s2 a := h.fx (fun _ => rfl) (fun _ _ _ => rfl) (fun _ _ => rfl) (Nat.le_refl _) (Nat.le_refl _) (Nat.le_refl _) (fun i _ _ => h1 i) (fun i _ => h2 i)
def PE (d : Nat) : Prop := d = 54 ∨ (68 ≤ d ∧ d < 77)
def PTR (d : Nat) : Prop := d = 54 ∨ d = 56 ∨ (60 ≤ d ∧ d < 67) ∨ (68 ≤ d ∧ d < 77)
section MTE
variable {n : Nat} {tp : Nat → Nat} {A : Bk} {st st' : St} {Q : Int32 → St → Prop} {Qv : St → Prop}
theorem rOK.fq {P : Nat → Prop} (h : rOK st) (hF : FQ P st st') : rOK st' := fun c j => by rw [hF.gR]; exact h c j
theorem stR_gI {c j : Nat} : gI (stR st) c j = if 68 ≤ c ∧ c < 77 then (if c = 68 then (if j = 12 then -1 else if j = 13 then -1 else 0) else 0) else gI st c j := rfl
theorem fEr_0 {r : Bool × Bk} (h : fEr r = 0) : okB r = true ∧ r.2 0 6 = 0 := by
  unfold fEr at h
  split at h
  · next q => exact ⟨q, h⟩
  · cases h
theorem r_teach (hT : TpR st n tp) (hok : rOK st) (hI : Ini n tp A) (hb : (mBook A).2 0 5 < (mBook A).2 0 4)
    (hq1 : fEr (mBook A) ≠ 0 → ∀ st', FQ PE st st' → gI st' 54 2 = nI 0 → gI st' 54 3 = fEp (mBook A) → Q (nI (fEr (mBook A))) st')
    (hq2 : fEr (mBook A) = 0 → ∀ st', FQ PTR st st' → gI st' 54 2 = nI 0 → gI st' 54 3 = fEp (mBook A) → PI (mBook A).2 → WI (mBook A).2 → 4 ≤ (mBook A).2 0 1 → KB ((mBook A).2 0 0) ((mBook A).2 0 1) (fClip (mBook A).2 1) (fClip (mBook A).2 2) st' → gI st' 60 2 = nI ((mBook A).2 0 2) → gOK (fClip (mBook A).2) (gI st' 65) (gI st' 66) (gI st' 64) → RM st' (fBeg (fClip (mBook A).2 3)) → Q 0 st') : wX12_teach st Q := by
  unfold wX12_teach
  have hK := hI.kt
  obtain ⟨i1, i2, i3, i4⟩ := hI
  intro st1 e1
  have F1 : FQ PE st st1 := by rw [e1]; exact FQ.uI (Or.inl rfl)
  refine ⟨hok.fq F1, ?_⟩
  intro st2 e2
  have F2 : FQ PE st st2 := F1.tr (by
    rw [e2]
    refine ⟨⟨fun d hd => ?_, fun _ _ _ => rfl⟩, rfl⟩
    have : ¬ (68 ≤ d ∧ d < 77) := fun w => hd (Or.inr w)
    refine ⟨?_, ?_, rfl, rfl⟩
    · funext j
      show (if 68 ≤ d ∧ d < 77 then _ else _) = _
      rw [if_neg this]
    · funext j
      show (if 68 ≤ d ∧ d < 77 then _ else _) = _
      rw [if_neg this])
  have g2 : ∀ c j, gI st2 c j = if 68 ≤ c ∧ c < 77 then (if c = 68 then (if j = 12 then -1 else if j = 13 then -1 else 0) else 0) else gI st1 c j := fun c j => by rw [e2]; exact stR_gI
  have gz : ∀ c j, 69 ≤ c → c < 77 → gI st2 c j = nI 0 := fun c j h1 h2 => by rw [g2, if_pos (by omega), if_neg (by omega)]; rfl
  have gy : ∀ j, j ≠ 12 → j ≠ 13 → gI st2 68 j = nI 0 := fun j h1 h2 => by rw [g2, if_pos (by omega), if_pos rfl, if_neg h1, if_neg h2]; rfl
  have T2 : TpR st2 n tp := ⟨by rw [g2, if_neg (by omega), e1, gI_uI, if_neg (by omega)]; exact hT.1, hT.2.1, fun i hi => by rw [g2, if_neg (by omega), e1, gI_uI, if_neg (by omega)]; exact hT.2.2.1 i hi, hT.2.2.2⟩
  have p68 : PE 68 ∧ PE 69 ∧ PE 70 ∧ PE 71 ∧ PE 72 ∧ PE 73 ∧ PE 74 ∧ PE 75 ∧ PE 76 := by
    unfold PE
    omega
  have a0 : ∀ j, j ≠ 4 → A 0 j = 0 := i3
  have h04 : (mBook A).2 0 4 = A 0 4 := k15_book A 0 4 (Or.inr ⟨rfl, rfl⟩)
  have ok15 : ∀ i, i < A 0 4 → (mBook A).2 15 i = tfr n tp i := fun i hi => (k15_book A 15 i (Or.inl rfl)).trans (i4 i hi).2.2.1
  refine r_book (q0 := 0) (c0 := 0) (g0 := gI st2 75) (h0 := gI st2 76) (P := PE) p68 T2 (gy 5 (by omega) (by omega)) (gy 10 (by omega) (by omega)) F2 hK (a0 5 (by omega)) (a0 2 (by omega)) ?_ ⟨fun ok s5 h5 => ?_, fun ok s5 h5 => ?_⟩
  · have z := a0 0 (by omega)
    have z1 := a0 1 (by omega)
    have z2 := a0 2 (by omega)
    have z3 := a0 3 (by omega)
    have z6 := a0 6 (by omega)
    have z7 := a0 7 (by omega)
    have z8 := a0 8 (by omega)
    have z9 := a0 9 (by omega)
    refine ⟨⟨by omega, by omega, by omega, by omega, by omega⟩, ⟨by rw [z]; exact gz _ _ (by omega) (by omega), by rw [z1]; exact gz _ _ (by omega) (by omega), by rw [z2]; exact gz _ _ (by omega) (by omega), by rw [z3]; exact gz _ _ (by omega) (by omega), by rw [z8]; exact gz _ _ (by omega) (by omega), by rw [z9]; exact gz _ _ (by omega) (by omega)⟩, ⟨by omega, by rw [z6]; exact gy 11 (by omega) (by omega), fun _ => ⟨z7, by rw [g2, if_pos (by omega), if_pos rfl, if_pos rfl]; rfl⟩, fun w => absurd z6 w, by omega⟩, ⟨0, 0, 0, by omega, by omega, by omega, gy 2 (by omega) (by omega), gy 3 (by omega) (by omega), gy 4 (by omega) (by omega), fun _ => ⟨by omega, fun w => (by cases w), fun _ => rfl⟩⟩, ⟨fun _ _ => rfl, by omega, fun _ _ => rfl, by omega⟩, fun _ => ?_⟩
    exact ⟨fun k hk => by omega, fun k hk => by omega, fun k hk => by omega, fun k hk => by omega, fun k _ _ => gz 73 k (by omega) (by omega), fun p hp => by omega, fun a ha => by omega⟩
  · have F5 := h5.1.2.2
    have l5 := h5.2.1.1
    have kt := h5.2.1
    have c8 := h5.2.2.1
    have fl := h5.2.2.2.2.1
    have fl6 := fl.1
    intro st3 e3
    have o3 : ∀ d j, d ≠ 54 → gI st3 d j = gI s5 d j := fun d j w => by rw [e3, gI_uI, if_neg (by omega)]
    refine ⟨fun q => absurd q (by decide), fun _ => ?_⟩
    intro x6 ex6
    rw [o3 68 11 (by omega), fl.2.1] at ex6
    refine ⟨fun q => absurd q (by decide), fun _ => ?_⟩
    intro st8 e8
    rw [o3 68 12 (by omega)] at e8
    have o8 : ∀ d j, d ≠ 54 → gI st8 d j = gI s5 d j := fun d j w => by rw [e8, gI_uI, if_neg (by omega)]; exact o3 d j w
    have F8 : FQ PE st st8 := F5.tr (by rw [e8, e3]; exact (FQ.uI (Or.inl rfl)).tr (FQ.uI (Or.inl rfl)))
    have g82 : gI st8 54 2 = nI 0 := by rw [e8, gI_uI, if_neg (by omega), e3, gI_uI, if_pos ⟨rfl, rfl⟩]; rfl
    have g83 : gI st8 54 3 = gI s5 68 12 := by rw [e8, gI_uI, if_pos ⟨rfl, rfl⟩]
    have er : fEr (mBook A) = (mBook A).2 0 6 := by unfold fEr; rw [if_pos ok]
    have ep : fEp (mBook A) = gI s5 68 12 := by
      unfold fEp
      rw [if_pos ok]
      by_cases z : (mBook A).2 0 6 = 0
      · rw [if_pos (fl.2.2.1 z).1, (fl.2.2.1 z).2]
      · obtain ⟨f1, f2⟩ := fl.2.2.2.1 z
        have f4 := fl.2.2.2.2
        rw [if_neg (by omega), f2, ok15 _ (by omega)]
    rw [er] at hq1 hq2
    refine ⟨fun q => ?_, fun q => ⟨hok.fq F8, ?_⟩⟩
    · have z : (mBook A).2 0 6 = 0 := (nI_eq (b := 0) (by omega) (by omega)).mp (ex6.symm.trans q)
      unfold wX12_teach9
      refine ⟨hok.fq F8, ?_⟩
      intro s9 e9
      have hr := h5.2.2.2.2.2.2.2 z
      have t1 : (mBook A).1 = true := by unfold okB at ok; exact (Bool.and_eq_true_iff.mp ok).1
      obtain ⟨hp, hw, h4⟩ := p_book (fun k hk => a0 k (by omega)) hK.nf hK.1 hK.tl t1 z
      have cn := h5.2.2.2.1
      have g9 : ∀ d j, gI s9 d j = if 60 ≤ d ∧ d < 67 then gI st8 (d + 10) j else gI st8 d j := fun d j => by
        rw [e9]
        show (if 60 ≤ d ∧ d < 67 then st8.1 (d + 10) else st8.1 d) j = _
        split
        · rfl
        · rfl
      have g9' : ∀ d j, 60 ≤ d → d < 67 → gI s9 d j = gI s5 (d + 10) j := fun d j w1 w2 => by rw [g9, if_pos ⟨w1, w2⟩]; exact o8 _ j (by omega)
      have F9 : FQ PTR st s9 := (F8.mo (fun d hd => by unfold PE at hd; unfold PTR; omega)).tr (by
        rw [e9]
        refine ⟨⟨fun d hd => ⟨?_, rfl, rfl, rfl⟩, fun _ _ _ => rfl⟩, rfl⟩
        show (if 60 ≤ d ∧ d < 67 then _ else _) = _
        rw [if_neg (fun w => hd (Or.inr (Or.inr (Or.inl w))))])
      obtain ⟨b1, b2, b3, b4, b5, b6, b7⟩ := hr
      refine r_begin (sg := fClip (mBook A).2 3) (fun k hk => ?_) (fun s10 hF hM => ?_)
      · rw [g9' 63 k (by omega) (by omega)]
        show _ = nI (if k < (mBook A).2 0 1 then (mBook A).2 3 k else 0)
        by_cases w : k < (mBook A).2 0 1
        · rw [if_pos w]; exact b4 k w
        · rw [if_neg w]; exact b5 k (by omega) hk
      have ga : ∀ d j, 60 ≤ d → d < 67 → gI s10 d j = gI s5 (d + 10) j := fun d j w1 w2 => by rw [hF.gI (by unfold P56; omega)]; exact g9' d j w1 w2
      have Fa : FQ PTR st s10 := F9.tr ⟨hF.fp.mo (fun d hd => by unfold P56 at hd; unfold PTR; omega), by rw [hF.1]⟩
      refine hq2 z s10 Fa ?_ ?_ hp hw h4 ⟨?_, ?_, fun k hk => ?_, fun k hk => ?_⟩ ?_ ?_ hM
      · rw [hF.gI (by unfold P56; omega), g9, if_neg (by omega)]; exact g82
      · rw [hF.gI (by unfold P56; omega), g9, if_neg (by omega), g83, ep]
      · rw [ga 60 0 (by omega) (by omega)]; exact cn.1
      · rw [ga 60 1 (by omega) (by omega)]; exact cn.2.1
      · rw [ga 61 k (by omega) (by omega)]
        show _ = nI (if k < (mBook A).2 0 0 then (mBook A).2 1 k else 0)
        rw [if_pos hk]; exact (b3 k hk).1
      · rw [ga 62 k (by omega) (by omega)]
        show _ = nI (if k < (mBook A).2 0 0 then (mBook A).2 2 k else 0)
        rw [if_pos hk]; exact (b3 k hk).2
      · rw [ga 60 2 (by omega) (by omega)]; exact cn.2.2.1
      · have e65 : gI s10 65 = gI s5 75 := funext (fun j => ga 65 j (by omega) (by omega))
        have e66 : gI s10 66 = gI s5 76 := funext (fun j => ga 66 j (by omega) (by omega))
        have e64 : gI s10 64 = gI s5 74 := funext (fun j => ga 64 j (by omega) (by omega))
        rw [e65, e66, e64]
        refine gOK_of (clip_pi hp) ?_ (fun a ha => (clip_og (b7 a ha (Nat.not_lt_zero a))).2) (fun p hp => ⟨(b6 p hp).1, (b6 p hp).2.1⟩)
        show (mBook A).2 0 8 ≤ 400
        have := c8.2.2.2.2
        have := kt.2.1
        omega
    · rw [ex6]
      exact hq1 (fun z => q (by rw [ex6, z]; rfl)) st8 F8 g82 (g83.trans ep.symm)
  · obtain ⟨F5, h13⟩ := h5
    intro st3 e3
    have o3 : ∀ d j, d ≠ 54 → gI st3 d j = gI s5 d j := fun d j w => by rw [e3, gI_uI, if_neg (by omega)]
    refine ⟨fun _ => ⟨fun _ => ?_, fun q => absurd rfl q⟩, fun q => absurd rfl q⟩
    intro st4 e4
    have F4 : FQ PE st st4 := F5.tr (by rw [e4, e3]; exact (FQ.uI (Or.inl rfl)).tr (FQ.uI (Or.inl rfl)))
    refine ⟨fun q => absurd q (by decide), fun _ => ⟨hok.fq F4, ?_⟩⟩
    have er : fEr (mBook A) = 1 := by unfold fEr; rw [if_neg (by rw [ok]; decide)]
    rw [er] at hq1
    refine hq1 (by decide) st4 F4 ?_ ?_
    · rw [e4, gI_uI, if_neg (by omega), e3, gI_uI, if_pos ⟨rfl, rfl⟩]; rfl
    · rw [e4, gI_uI, if_pos ⟨rfl, rfl⟩, o3 68 13 (by omega), h13]
      unfold fEp
      rw [if_neg (by rw [ok]; decide), ok15 _ (by omega)]
end MTE

/-! a book read without a fault is right -/
def Sw (A A' : Bk) : Prop := (∀ i, A' 10 i = A 10 i) ∧ A' 0 0 = A 0 0 ∧ A' 0 4 = A 0 4 ∧ A 0 5 ≤ A' 0 5 ∧ A 0 3 ≤ A' 0 3 ∧ A 0 8 ≤ A' 0 8 ∧ (∀ i, i < A 0 5 → A' 11 i = A 11 i) ∧ A 0 9 ≤ A' 0 9 ∧ ∀ r c, ar r → c < A 0 3 → A' r c = A r c
section RGT
variable {n b : Nat} {A A' : Bk} {F : Bk → Prop}
theorem Sw.tr {A1 : Bk} (h : Sw A A1) (h2 : Sw A1 A') : Sw A A' := by
  obtain ⟨a1, a2, a3, a4, a5, a6, a7, a8, a9⟩ := h
  obtain ⟨b1, b2, b3, b4, b5, b6, b7, b8, b9⟩ := h2
  exact ⟨fun i => (b1 i).trans (a1 i), b2.trans a2, b3.trans a3, Nat.le_trans a4 b4, Nat.le_trans a5 b5, Nat.le_trans a6 b6, fun i hi => (b7 i (by omega)).trans (a7 i hi), Nat.le_trans a8 b8, fun r c hr hc => (b9 r c hr (by omega)).trans (a9 r c hr hc)⟩
theorem FxA.sw (h : FxA A A') : Sw A A' := ⟨fun i => h.1.1 10 i (by unfold fxr; omega), h.1.1 0 0 (by unfold fxr; omega), h.1.1 0 4 (by unfold fxr; omega), h.1.2.1, h.2.2.1, h.2.2.2.1, h.2.2.2.2.1, h.2.2.2.2.2, h.2.1⟩
theorem at_.fw {a y q : Nat} (h : Sw A A') (ha : a < A 0 3) (hy : at_ A a y q) : at_ A' a y q := by
  obtain ⟨h1, h2, h3, h4⟩ := hy
  exact ⟨h1, Nat.lt_of_lt_of_le h2 h.2.2.2.2.1, by rw [h.2.2.2.2.2.2.2.2 18 _ (by unfold ar; omega) h2]; exact h3, by rw [h.2.2.2.2.2.2.2.2 13 _ (by unfold ar; omega) h2, h.2.2.2.2.2.2.2.2 13 _ (by unfold ar; omega) ha]; exact h4⟩
theorem kK.fw (h : Sw A A') (hb2 : b < A 0 3) (h5 : A 5 b + 3 ≤ A 0 5) (hk : kK A b) : kK A' b := by
  have k10 := h.1
  have rw_ : ∀ r, ar r → A' r b = A r b := fun r hr => h.2.2.2.2.2.2.2.2 r b hr hb2
  have r5 := rw_ 5 (by unfold ar; omega)
  have r8 := rw_ 8 (by unfold ar; omega)
  have r9 := rw_ 9 (by unfold ar; omega)
  have r13 := rw_ 13 (by unfold ar; omega)
  have r18 := rw_ 18 (by unfold ar; omega)
  have r19 := rw_ 19 (by unfold ar; omega)
  have r20 := rw_ 20 (by unfold ar; omega)
  have r21 := rw_ 21 (by unfold ar; omega)
  have r22 := rw_ 22 (by unfold ar; omega)
  have r24 := rw_ 24 (by unfold ar; omega)
  have m5 := h.2.2.2.1
  have m9 := h.2.2.2.2.2.2.2.1
  have h11 := h.2.2.2.2.2.2.1
  have h0 := h.2.1
  have h4 := h.2.2.1
  unfold kK at hk ⊢
  rw [r5, r8, r9, r13, r18, r19, r20, r21, r22, r24, k10, k10]
  rcases hk with ⟨a1, a2, a3, a4⟩ | ⟨a1, a2, a3⟩ | ⟨a1, a2, a3, a4⟩ | ⟨a1, a2, a3, a4, a5, a6, a7⟩
  · exact Or.inl ⟨a1, hOK_cg k10 h0 (h11 _ (by omega)) a2, fun q => ⟨hOK_cg k10 h0 (h11 _ (by have := (a3 q).2; omega)) (a3 q).1, by have := (a3 q).2; omega⟩, a4⟩
  · exact Or.inr (Or.inl ⟨a1, vOK_cg k10 (h11 _ (by omega)) a2, a3⟩)
  · refine Or.inr (Or.inr (Or.inl ⟨a1, ?_, ?_, a4⟩))
    · rw [h11 _ (by omega)]; exact a2
    · rw [h11 _ (by omega)]; exact a3
  · refine Or.inr (Or.inr (Or.inr ⟨a1, cOK_cg k10 h4 h11 (by omega) a2, by omega, by omega, fun q => (a5 q).fw h hb2, a6, fun q => ?_⟩))
    obtain ⟨b1, b2, b3⟩ := a7 q
    refine ⟨b1, b2, b3.imp id (fun ⟨c1, c2, c3, c4⟩ => ⟨c1, c2, fun z => (c3 z).fw h hb2, c4⟩)⟩
theorem LC.fw (h : Sw A A') (hb2 : b < A 0 3) (hk : LC A b) : LC A' b := by
  obtain ⟨a1, a2, a3, a4, a5, a6⟩ := hk
  have rw_ : ∀ r, ar r → A' r b = A r b := fun r hr => h.2.2.2.2.2.2.2.2 r b hr hb2
  unfold LC
  rw [rw_ 5 (by unfold ar; omega), rw_ 12 (by unfold ar; omega), rw_ 18 (by unfold ar; omega), rw_ 19 (by unfold ar; omega), rw_ 7 (by unfold ar; omega)]
  have := h.2.2.2.1
  have := h.2.2.2.2.2.1
  exact ⟨by omega, a2, a3, by omega, fun q => (a5 q).fw h hb2, a6.fw h hb2 a1⟩
theorem LO.fw (h : Sw A A') (hb2 : b < A 0 3) (hk : LO A b) : LO A' b := by
  obtain ⟨a1, a2, a3, a4, a5⟩ := hk
  have rw_ : ∀ r c, ar r → c < A 0 3 → A' r c = A r c := h.2.2.2.2.2.2.2.2
  unfold LO bQ
  rw [rw_ 6 b (by unfold ar; omega) hb2, rw_ 7 b (by unfold ar; omega) hb2, rw_ 12 b (by unfold ar; omega) hb2, rw_ 13 b (by unfold ar; omega) hb2, rw_ 19 b (by unfold ar; omega) hb2, rw_ 12 _ (by unfold ar; omega) (by omega), rw_ 13 _ (by unfold ar; omega) (by omega), rw_ 5 _ (by unfold ar; omega) (by omega), rw_ 19 _ (by unfold ar; omega) (by omega), rw_ 24 _ (by unfold ar; omega) (by omega), h.1]
  exact ⟨a1, a2, a3, a4, a5⟩
/-- the plans read -/
def PI (A : Bk) : Prop := (∀ a, a < A 0 3 → LC A a ∧ A 13 a < A 0 2 ∧ ((A 6 a = 0 ∧ A 12 a = 0 ∧ (A 7 a = 0 → A 19 a = A 25 (A 13 a))) ∨ LO A a)) ∧ ∀ p, p < A 0 2 → ((A 4 p = 0 ∧ A 25 p = A 23 p) ∨ (A 4 p ≠ 0 ∧ A 4 p - 1 < A 0 3 ∧ A 13 (A 4 p - 1) = p ∧ A 18 (A 4 p - 1) = A 23 p)) ∧ A 23 p ≤ A 25 p ∧ A 25 p < A 0 8
/-- the walkers and planks read -/
def WI (A : Bk) : Prop := (∀ k, k < A 0 0 → 1 ≤ A 1 k ∧ A 1 k ≤ 9 ∧ 1 ≤ A 2 k ∧ A 2 k ≤ 20) ∧ ∀ k, k < A 0 1 → 1 ≤ A 3 k ∧ A 3 k ≤ 30
theorem p_new {many : Bool} (hn : NF A) (hl : A 0 5 < A 0 4) (hL : TkL A) (h : ∀ A', A' = u2 A 0 5 (A 0 5 + 1) → many = false → FxT 0 A A' → NF A' → A' 0 5 = A 0 5 + 1 → A' 0 5 < A' 0 4 → F A') : PW (mNew many A) F := by
  unfold mNew
  refine PW.fx (fun h0 => ?_)
  have e1 := (fx_tk (k := 2) (mNewM many A)).e0 h0
  have : mNewM many A = A ∧ many = false := by
    unfold mNewM at e1 ⊢
    split at e1
    · exact (mMk_0 (by decide) e1).elim
    · next q =>
      rw [if_neg q]
      split at e1
      · exact (mMk_0 (by decide) e1).elim
      · next q2 => rw [if_neg q2]; exact ⟨rfl, (Bool.not_eq_true _).mp q2⟩
  rw [this.1]
  exact p_tk2 (by omega) hn hl hL (fun A' e _ f n e5 l => h A' e this.2 f n e5 l)
theorem p_num {lo hi : Nat} (hn : NF A) (hl : A 0 5 < A 0 4) (hL : TkL A) (h : ∀ A', A' = u2 A 0 5 (A 0 5 + 1) → lo ≤ A 11 (A 0 5) - 1 → A 11 (A 0 5) - 1 ≤ hi → FxT 0 A A' → NF A' → A' 0 5 = A 0 5 + 1 → A' 0 5 < A' 0 4 → F A') : PW (mNum lo hi A) F := by
  refine PW.fx (fun h0 => ?_)
  have h0 : (mTk 3 (mOut lo hi A)).2 0 6 = 0 := h0
  obtain ⟨e1, e2⟩ := mOut_0 ((fx_tk (k := 3) (mOut lo hi A)).e0 h0)
  unfold mNum
  rw [e1]
  exact p_tk2 (by omega) hn hl hL (fun A' e _ f n e5 l => h A' e (by omega) (by omega) f n e5 l)
theorem fx_addPl {nm a0 q0 : Nat} : A 0 6 = (mAddPl nm a0 q0 A) 0 6 := by
  unfold mAddPl
  split
  · repeat rw [u2_a, if_neg (by omega)]
  · rfl
/-- what later steps keep of a fault -/
def Fe (f : Bk → Bool × Bk) : Prop := ∀ A, (f A).2 0 6 = 0 → A 0 6 = 0
theorem Fx.e {f : Bk → Bool × Bk} (h : Fx f) : Fe f := fun A h0 => (h A).e0 h0
theorem PW.be {r : Bool × Bk} {f : Bk → Bool × Bk} (hf : Fe f) (h : PW r (fun A => PW (f A) F)) : PW (bd r f) F := by
  intro ht h0
  cases e : r.1 with
  | true =>
    rw [bd_t e] at ht h0 ⊢
    exact h e (hf _ h0) ht h0
  | false => rw [bd_f e] at ht; cases ht
theorem fe_b {f g : Bk → Bool × Bk} (h : Fe f) (h2 : Fe g) : Fe (fun A => bd (f A) g) := fun A h0 => by
  cases e : (f A).1 with
  | true => rw [show (fun A => bd (f A) g) A = bd (f A) g from rfl, bd_t e] at h0; exact h _ (h2 _ h0)
  | false => rw [show (fun A => bd (f A) g) A = bd (f A) g from rfl, bd_f e] at h0; exact h _ h0
theorem fe_pl : ∀ {f : Nat}, Fe (mPl f) := by
  intro f
  induction f with
  | zero => exact fun A h => h
  | succ f ih =>
    intro A h0
    unfold mPl at h0
    split at h0
    · refine fe_b (f := fun A => bd (mTk 15 A) fun A1 => bd (mNew (decide (6 ≤ A1 0 2)) A1) (mBlk 3 0)) (g := fun A3 => mPl f (mAddPl (A 0 5 + 1) (A 0 3) (A 0 8) (gInc 8 A3))) ?_ (fun A3 h3 => ?_) A h0
      · exact Fx.e (fun A => bd_fx (fx_tk A) (fun A1 => bd_fx (fx_new A1) fx_blk))
      · have := ih _ h3
        rw [← fx_addPl] at this
        exact (fx_inc (k := 8) (by omega)).e0 this
    · exact h0
theorem p_pl : ∀ {f : Nat} {A : Bk}, PI A → NF A → A 0 5 < A 0 4 → TkL A → ∀ {F : Bk → Prop}, (∀ A', PI A' → (∀ r k, r = 1 ∨ r = 2 ∨ r = 3 ∨ (r = 0 ∧ k < 2) → A' r k = A r k) → F A') → PW (mPl f A) F := by
  intro f
  induction f with
  | zero => intro A hI _ _ _ F h _ _; exact h A hI (fun _ _ _ => rfl)
  | succ f ih =>
    intro A hI hn hl hL F h
    unfold mPl
    split
    · refine PW.be (fun A3 h3 => ?_) ?_
      · have := fe_pl _ h3
        rw [← fx_addPl] at this
        exact (fx_inc (k := 8) (by omega)).e0 this
      refine PW.b (fun A1 => bd_fx (fx_new A1) fx_blk) (p_tk2 (by omega) hn hl hL (fun A1 e1 _ f1 n1 e15 l1 => ?_))
      refine PW.b fx_blk (p_new n1 l1 (hL.fx f1.1) (fun A2 e2 hm f2 n2 e25 l2 => ?_))
      have f12 := f1.tr f2
      have c2 : A 0 2 < 6 := by
        have := of_decide_eq_false hm
        rw [f1.1.1 0 2 (by unfold fxr; omega)] at this
        omega
      refine p_blk (dp := 0) (k := 3) rfl n2 l2 ((hL.fx f1.1).fx f2.1) (fun _ => rfl) (fun z => absurd rfl z) (fun A3 hB n3 l3 => ?_)
      obtain ⟨q1, q2, q3, q4, q5⟩ := hB
      obtain ⟨A5, e5⟩ : ∃ A5, A5 = mAddPl (A 0 5 + 1) (A 0 3) (A 0 8) (gInc 8 A3) := ⟨_, rfl⟩
      rw [← e5]
      have fa := f12.a.tr q1
      have a302 : A3 0 2 = A 0 2 := fa.1.1 0 2 (by unfold fxr; omega)
      have a203 : A2 0 3 = A 0 3 := f12.2.2.1
      have a208 : A2 0 8 = A 0 8 := f12.2.2.2.1
      have a202 : A2 0 2 = A 0 2 := f12.1.1 0 2 (by unfold fxr; omega)
      have es : ∀ r k, (r ≠ 0 ∨ (k ≠ 2 ∧ k ≠ 8)) → (k ≠ A 0 2 ∨ (r ≠ 4 ∧ r ≠ 17 ∧ r ≠ 23 ∧ r ≠ 25)) → A5 r k = A3 r k := fun r k z y => by
        rw [e5]; unfold mAddPl gInc
        rw [if_pos (by rw [u2_a, if_neg (by omega), a302]; exact c2)]
        have w : u2 A3 0 8 (A3 0 8 + 1) 0 2 = A 0 2 := by rw [u2_a, if_neg (by omega), a302]
        rw [w, u2_a, if_neg (by omega), u2_a, if_neg (by omega), u2_a, if_neg (by omega), u2_a, if_neg (by omega), u2_a, if_neg (by omega), u2_a, if_neg (by omega)]
      have ev : A5 0 2 = A 0 2 + 1 ∧ A5 0 8 = A3 0 8 + 1 ∧ A5 25 (A 0 2) = A3 0 8 ∧ A5 23 (A 0 2) = A 0 8 ∧ A5 4 (A 0 2) = if A 0 3 < A3 0 3 then A 0 3 + 1 else 0 := by
        have w : u2 A3 0 8 (A3 0 8 + 1) 0 2 = A 0 2 := by rw [u2_a, if_neg (by omega), a302]
        have w8 : u2 A3 0 8 (A3 0 8 + 1) 0 8 = A3 0 8 + 1 := by rw [u2_a, if_pos ⟨rfl, rfl⟩]
        have w3 : u2 A3 0 8 (A3 0 8 + 1) 0 3 = A3 0 3 := by rw [u2_a, if_neg (by omega)]
        rw [e5]; unfold mAddPl gInc
        rw [if_pos (by rw [w]; exact c2), w, w3, w8]
        refine ⟨?_, ?_, ?_, ?_, ?_⟩
        · rw [u2_a, if_pos ⟨rfl, rfl⟩]
        · rw [u2_a, if_neg (by omega), u2_a, if_neg (by omega), u2_a, if_neg (by omega), u2_a, if_neg (by omega), u2_a, if_neg (by omega), w8]
        · rw [u2_a, if_neg (by omega), u2_a, if_pos ⟨rfl, rfl⟩]; omega
        · rw [u2_a, if_neg (by omega), u2_a, if_neg (by omega), u2_a, if_pos ⟨rfl, rfl⟩]
        · rw [u2_a, if_neg (by omega), u2_a, if_neg (by omega), u2_a, if_neg (by omega), u2_a, if_pos ⟨rfl, rfl⟩]
      clear e5
      obtain ⟨ev1, ev2, ev3, ev4, ev5⟩ := ev
      have n5 : NF A5 := n3.w (fun k hk => es 0 k (by omega) (by omega)) (fun i => es 11 i (by omega) (by omega))
      have s35 : Sw A3 A5 := ⟨fun i => es 10 i (by omega) (by omega), es 0 0 (by omega) (by omega), es 0 4 (by omega) (by omega), Nat.le_of_eq (es 0 5 (by omega) (by omega)).symm, Nat.le_of_eq (es 0 3 (by omega) (by omega)).symm, by omega, fun i _ => es 11 i (by omega) (by omega), Nat.le_of_eq (es 0 9 (by omega) (by omega)).symm, fun r c hr _ => es r c (by unfold ar at hr; omega) (by unfold ar at hr; omega)⟩
      have s05 := fa.sw.tr s35
      have t3 := es 0 3 (by omega) (by omega)
      have t5 := es 0 5 (by omega) (by omega)
      have t4 := es 0 4 (by omega) (by omega)
      have m3 := q1.2.2.1
      have m8 := q1.2.2.2.1
      have L5 : TkL A5 := by
        intro i
        rw [t4, es 10 i (by omega) (by omega), fa.1.1 0 4 (by unfold fxr; omega), fa.1.1 10 i (by unfold fxr; omega)]
        exact hL i
      refine ih ⟨fun a ha => ?_, fun p hp => ?_⟩ n5 (by omega) L5 (fun A' hI' hs => h A' hI' (fun r k z => ?_))
      · by_cases ho : a < A 0 3
        · obtain ⟨y1, y2, y3⟩ := hI.1 a ho
          have rb : ∀ r, ar r → A5 r a = A r a := fun r hr => s05.2.2.2.2.2.2.2.2 r a hr ho
          have r13 := rb 13 (by unfold ar; omega)
          refine ⟨y1.fw s05 ho, by omega, ?_⟩
          rcases y3 with ⟨c1, c2', c3⟩ | c
          · refine Or.inl ⟨by rw [rb 6 (by unfold ar; omega)]; exact c1, by rw [rb 12 (by unfold ar; omega)]; exact c2', fun z => ?_⟩
            rw [rb 7 (by unfold ar; omega)] at z
            rw [r13, rb 19 (by unfold ar; omega), es 25 _ (by omega) (by omega), c3 z]
            exact (fa.1.1 25 _ (by unfold fxr; omega)).symm
          · exact Or.inr (c.fw s05 ho)
        · have ha3 : a < A3 0 3 := by omega
          obtain ⟨y1, y2, y3, y4⟩ := q5 a (by omega) ha3
          have rb : ∀ r, ar r → A5 r a = A3 r a := fun r hr => s35.2.2.2.2.2.2.2.2 r a hr ha3
          have r13 := rb 13 (by unfold ar; omega)
          refine ⟨y1.fw s35 ha3, by omega, ?_⟩
          rcases y4 with ⟨c1, c2', c3⟩ | ⟨c, _⟩
          · refine Or.inl ⟨by rw [rb 6 (by unfold ar; omega)]; exact c1, by rw [rb 12 (by unfold ar; omega)]; exact c2', fun z => ?_⟩
            rw [rb 7 (by unfold ar; omega)] at z
            rw [r13, rb 19 (by unfold ar; omega), y3, a202, ev3, c3 z]
          · exact Or.inr (c.fw s35 ha3)
      · by_cases hp2 : p = A 0 2
        · rw [hp2, ev3, ev4, ev5]
          refine ⟨?_, by omega, by omega⟩
          by_cases z : A 0 3 < A3 0 3
          · rw [if_pos z]
            have := q4 (by omega)
            rw [a203] at this
            refine Or.inr ⟨by omega, by omega, ?_, ?_⟩
            · rw [show A 0 3 + 1 - 1 = A 0 3 by omega, es 13 _ (by omega) (by omega), (q5 _ (by omega) z).2.2.1, a202]
            · rw [show A 0 3 + 1 - 1 = A 0 3 by omega, es 18 _ (by omega) (by omega), this, a208]
          · rw [if_neg z]
            have := q3 (by omega)
            exact Or.inl ⟨rfl, by omega⟩
        · have hp3 : p < A 0 2 := by omega
          obtain ⟨y1, y2, y3⟩ := hI.2 p hp3
          have w : ∀ r, r = 4 ∨ r = 23 ∨ r = 25 → A5 r p = A r p := fun r hr => by
            rw [es r p (by omega) (by omega)]
            rcases hr with rfl | rfl | rfl
            · exact fa.1.1 4 p (by unfold fxr; omega)
            · exact fa.1.1 23 p (by unfold fxr; omega)
            · exact fa.1.1 25 p (by unfold fxr; omega)
          rw [w 4 (by omega), w 23 (by omega), w 25 (by omega)]
          refine ⟨?_, y2, by omega⟩
          rcases y1 with y | ⟨c1, c2', c3, c4⟩
          · exact Or.inl y
          · refine Or.inr ⟨c1, by omega, ?_, ?_⟩
            · rw [s05.2.2.2.2.2.2.2.2 13 _ (by unfold ar; omega) c2']; exact c3
            · rw [s05.2.2.2.2.2.2.2.2 18 _ (by unfold ar; omega) c2']; exact c4
      · rw [hs r k z, es r k (by omega) (by omega)]
        exact fa.1.1 r k (by unfold fxr; omega)
    · intro _ _
      exact h A hI (fun _ _ _ => rfl)
theorem fe_wk1 : Fe mWk1 := fe_b (Fx.e fx_tk) (fe_b (f := fun A1 => mNew (decide (8 ≤ A1 0 0)) A1) (Fx.e (fun A => fx_new A)) (fe_b (Fx.e fx_tk) (fe_b (Fx.e fx_num) (fe_b (Fx.e fx_tk) (fe_b (Fx.e fx_num) (Fx.e fx_tk))))))
theorem addW_6 {first : Nat} : (mAddW first A) 0 6 = A 0 6 := by
  unfold mAddW
  split
  · repeat rw [u2_a, if_neg (by omega)]
  · rfl
theorem fe_wk : ∀ {f : Nat}, Fe (mWk f) := by
  intro f
  induction f with
  | zero => exact fun A h => h
  | succ f ih =>
    intro A h0
    unfold mWk at h0
    split at h0
    · exact fe_b (f := mWk1) (g := fun A1 => mWk f (mAddW (A 0 5) A1)) fe_wk1 (fun A3 h3 => by
        have := ih _ h3
        rw [addW_6] at this
        exact this) A h0
    · exact h0
theorem addP_6 : (mAddP A) 0 6 = A 0 6 := by
  unfold mAddP
  split
  · repeat rw [u2_a, if_neg (by omega)]
  · rfl
theorem fe_plank : Fe mPlank := fun A h0 => by
  unfold mPlank at h0
  have h1 := (fx_num (lo := 1) (hi := 30) _).e0 h0
  rw [addP_6] at h1
  split at h1
  · exact h1
  · exact fx_mk.e0 h1
theorem fe_fin : Fe mFin := fun A h0 => by
  unfold mFin at h0
  have h1 := (fx_tk (k := 6) _).e0 h0
  split at h1
  · exact fx_mk.e0 h1
  · exact h1
theorem fe_psl : ∀ {f : Nat}, Fe (mPsL f) := by
  intro f
  induction f with
  | zero => exact fe_fin
  | succ f ih =>
    intro A h0
    unfold mPsL at h0
    split at h0
    · exact fe_b (f := fun A => bd (mTk 7 A) mPlank) (fe_b (Fx.e fx_tk) fe_plank) ih A h0
    · exact fe_fin A h0
theorem fe_ps : Fe mPs := fe_b (f := fun A => bd (mTk 14 A) mPlank) (fe_b (Fx.e fx_tk) fe_plank) fe_psl
/-- all but the place is the same -/
def E5 (A A' : Bk) : Prop := ∀ r k, (r ≠ 0 ∨ k ≠ 5) → A' r k = A r k
theorem E5.tr {A1 : Bk} (h : E5 A A1) (h2 : E5 A1 A') : E5 A A' := fun r k q => (h2 r k q).trans (h r k q)
theorem E5.of {v : Nat} (e : A' = u2 A 0 5 v) : E5 A A' := fun r k q => by rw [e, u2_a, if_neg (by omega)]
theorem p_wk1 (hn : NF A) (hl : A 0 5 < A 0 4) (hL : TkL A) (h : ∀ A', E5 A A' → A' 0 5 = A 0 5 + 7 → (1 ≤ A 11 (A 0 5 + 3) - 1 ∧ A 11 (A 0 5 + 3) - 1 ≤ 9) → (1 ≤ A 11 (A 0 5 + 5) - 1 ∧ A 11 (A 0 5 + 5) - 1 ≤ 20) → A 0 0 < 8 → NF A' → A' 0 5 < A' 0 4 → F A') : PW (mWk1 A) F := by
  unfold mWk1
  have c6 : Fe (mTk 6) := Fx.e fx_tk
  have c5 : Fe (fun A => bd (mNum 1 20 A) fun A => mTk 6 A) := fe_b (Fx.e fx_num) c6
  have c4 : Fe (fun A => bd (mTk 13 A) fun A => bd (mNum 1 20 A) fun A => mTk 6 A) := fe_b (Fx.e fx_tk) c5
  have c3 : Fe (fun A => bd (mNum 1 9 A) fun A => bd (mTk 13 A) fun A => bd (mNum 1 20 A) fun A => mTk 6 A) := fe_b (Fx.e fx_num) c4
  have c2 : Fe (fun A => bd (mTk 12 A) fun A => bd (mNum 1 9 A) fun A => bd (mTk 13 A) fun A => bd (mNum 1 20 A) fun A => mTk 6 A) := fe_b (Fx.e fx_tk) c3
  have c1 : Fe (fun A1 => bd (mNew (decide (8 ≤ A1 0 0)) A1) fun A => bd (mTk 12 A) fun A => bd (mNum 1 9 A) fun A => bd (mTk 13 A) fun A => bd (mNum 1 20 A) fun A => mTk 6 A) := fe_b (f := fun A1 => mNew (decide (8 ≤ A1 0 0)) A1) (Fx.e (fun A => fx_new A)) c2
  refine PW.be c1 (p_tk2 (by omega) hn hl hL (fun A1 e1 _ f1 n1 s1 l1 => ?_))
  refine PW.be c2 (p_new n1 l1 (hL.fx f1.1) (fun A2 e2 hm f2 n2 s2 l2 => ?_))
  refine PW.be c3 (p_tk2 (by omega) n2 l2 ((hL.fx f1.1).fx f2.1) (fun A3 e3 _ f3 n3 s3 l3 => ?_))
  refine PW.be c4 (p_num n3 l3 (((hL.fx f1.1).fx f2.1).fx f3.1) (fun A4 e4 u1 u2' f4 n4 s4 l4 => ?_))
  refine PW.be c5 (p_tk2 (by omega) n4 l4 ((((hL.fx f1.1).fx f2.1).fx f3.1).fx f4.1) (fun A5 e5 _ f5 n5 s5 l5 => ?_))
  refine PW.be c6 (p_num n5 l5 (((((hL.fx f1.1).fx f2.1).fx f3.1).fx f4.1).fx f5.1) (fun A6 e6 w1 w2 f6 n6 s6 l6 => ?_))
  refine p_tk2 (by omega) n6 l6 ((((((hL.fx f1.1).fx f2.1).fx f3.1).fx f4.1).fx f5.1).fx f6.1) (fun A7 e7 _ f7 n7 s7 l7 => ?_)
  have E3 := ((E5.of e1).tr (E5.of e2)).tr (E5.of e3)
  have E5' := (E3.tr (E5.of e4)).tr (E5.of e5)
  have p3 : A3 0 5 = A 0 5 + 3 := by omega
  have p5 : A5 0 5 = A 0 5 + 5 := by omega
  rw [p3, E3 11 _ (by omega)] at u1 u2'
  rw [p5, E5' 11 _ (by omega)] at w1 w2
  have hm := of_decide_eq_false hm
  rw [(E5.of e1) 0 0 (by omega)] at hm
  exact h A7 ((E5'.tr (E5.of e6)).tr (E5.of e7)) (by omega) ⟨u1, u2'⟩ ⟨w1, w2⟩ (by omega) n7 l7
theorem p_wk : ∀ {f : Nat} {A : Bk}, WI A → A 0 1 = 0 → NF A → A 0 5 < A 0 4 → TkL A → ∀ {F : Bk → Prop}, (∀ A', WI A' → A' 0 1 = 0 → A' 0 2 = A 0 2 → A' 0 3 = A 0 3 → NF A' → A' 0 5 < A' 0 4 → TkL A' → F A') → PW (mWk f A) F := by
  intro f
  induction f with
  | zero => intro A hI h01 hn hl hL F h _ _; exact h A hI h01 rfl rfl hn hl hL
  | succ f ih =>
    intro A hI h01 hn hl hL F h
    unfold mWk
    split
    · refine PW.be (fun A3 h3 => by
        have := fe_wk _ h3
        rw [addW_6] at this
        exact this) (p_wk1 hn hl hL (fun A1 e1 s1 u1 u2' c8 n1 l1 => ?_))
      have t0 := e1 0 0 (by omega)
      obtain ⟨A2, e2⟩ : ∃ A2, A2 = mAddW (A 0 5) A1 := ⟨_, rfl⟩
      rw [← e2]
      have es : ∀ r k, (r ≠ 0 ∨ k ≠ 0) → (k ≠ A 0 0 ∨ (r ≠ 1 ∧ r ≠ 2 ∧ r ≠ 16)) → A2 r k = A1 r k := fun r k z y => by
        rw [e2]; unfold mAddW
        rw [if_pos (by omega), t0, u2_a, if_neg (by omega), u2_a, if_neg (by omega), u2_a, if_neg (by omega), u2_a, if_neg (by omega)]
      have ev : A2 0 0 = A 0 0 + 1 ∧ A2 1 (A 0 0) = A 11 (A 0 5 + 3) - 1 ∧ A2 2 (A 0 0) = A 11 (A 0 5 + 5) - 1 := by
        rw [e2]; unfold mAddW
        rw [if_pos (by omega), t0, e1 11 _ (by omega), e1 11 _ (by omega)]
        refine ⟨?_, ?_, ?_⟩
        · rw [u2_a, if_pos ⟨rfl, rfl⟩]
        · rw [u2_a, if_neg (by omega), u2_a, if_neg (by omega), u2_a, if_pos ⟨rfl, rfl⟩]
        · rw [u2_a, if_neg (by omega), u2_a, if_pos ⟨rfl, rfl⟩]
      clear e2
      obtain ⟨v1, v2, v3⟩ := ev
      have E : ∀ k, k ≠ 0 → k ≠ 5 → A2 0 k = A 0 k := fun k z y => by rw [es 0 k (by omega) (by omega), e1 0 k (by omega)]
      refine ih ⟨fun k hk => ?_, fun k hk => ?_⟩ (by rw [E 1 (by omega) (by omega)]; exact h01) (n1.w (fun k hk => es 0 k (by omega) (by omega)) (fun i => es 11 i (by omega) (by omega))) (by rw [es 0 5 (by omega) (by omega), es 0 4 (by omega) (by omega)]; exact l1) (fun i => ?_) (fun A' a1 a2 a3 a4 a5 a6 a7 => h A' a1 a2 (by rw [a3, E 2 (by omega) (by omega)]) (by rw [a4, E 3 (by omega) (by omega)]) a5 a6 a7)
      · by_cases z : k = A 0 0
        · rw [z, v2, v3]; omega
        · rw [es 1 k (by omega) (by omega), es 2 k (by omega) (by omega), e1 1 k (by omega), e1 2 k (by omega)]
          exact hI.1 k (by omega)
      · rw [E 1 (by omega) (by omega), h01] at hk; omega
      · rw [E 4 (by omega) (by omega), es 10 i (by omega) (by omega), e1 10 i (by omega)]
        exact hL i
    · intro _ _; exact h A hI h01 rfl rfl hn hl hL
theorem p_plank (hI : WI A) (hn : NF A) (hl : A 0 5 < A 0 4) (hL : TkL A) (h : ∀ A', WI A' → A' 0 2 = A 0 2 → A' 0 3 = A 0 3 → NF A' → A' 0 5 < A' 0 4 → TkL A' → F A') : PW (mPlank A) F := by
  unfold mPlank
  refine PW.fx (fun h0 => ?_)
  have h1 := (fx_num (lo := 1) (hi := 30) _).e0 h0
  rw [addP_6] at h1
  have c12 : A 0 1 < 12 := by
    split at h1
    · next q => exact q
    · exact (mMk_0 (by decide) h1).elim
  rw [if_pos c12]
  obtain ⟨A1, e1⟩ : ∃ A1, A1 = mAddP A := ⟨_, rfl⟩
  rw [← e1]
  have es : ∀ r k, (r ≠ 0 ∨ k ≠ 1) → (r ≠ 3 ∨ k ≠ A 0 1) → A1 r k = A r k := fun r k z y => by
    rw [e1]; unfold mAddP
    rw [if_pos c12, u2_a, if_neg (by omega), u2_a, if_neg (by omega)]
  have v1 : A1 0 1 = A 0 1 + 1 := by rw [e1]; unfold mAddP; rw [if_pos c12, u2_a, if_pos ⟨rfl, rfl⟩]
  have v2 : A1 3 (A 0 1) = A 11 (A 0 5) - 1 := by rw [e1]; unfold mAddP; rw [if_pos c12, u2_a, if_neg (by omega), u2_a, if_pos ⟨rfl, rfl⟩]
  have t5 := es 0 5 (by omega) (by omega)
  have t4 := es 0 4 (by omega) (by omega)
  have n1 : NF A1 := hn.w (fun k hk => es 0 k (by omega) (by omega)) (fun i => es 11 i (by omega) (by omega))
  have L1 : TkL A1 := fun i => by rw [t4, es 10 i (by omega) (by omega)]; exact hL i
  clear e1
  refine p_num n1 (by omega) L1 (fun A' e u1 u2' f n s l => ?_)
  rw [t5, es 11 _ (by omega) (by omega)] at u1 u2'
  have E := E5.of e
  refine h A' ⟨fun k hk => ?_, fun k hk => ?_⟩ (by rw [E 0 2 (by omega), es 0 2 (by omega) (by omega)]) (by rw [E 0 3 (by omega), es 0 3 (by omega) (by omega)]) n l (L1.fx f.1)
  · rw [E 0 0 (by omega), es 0 0 (by omega) (by omega)] at hk
    rw [E 1 k (by omega), E 2 k (by omega), es 1 k (by omega) (by omega), es 2 k (by omega) (by omega)]
    exact hI.1 k hk
  · rw [E 0 1 (by omega), v1] at hk
    rw [E 3 k (by omega)]
    by_cases z : k = A 0 1
    · rw [z, v2]; omega
    · rw [es 3 k (by omega) (by omega)]; exact hI.2 k (by omega)
theorem p_fin (hI : WI A) (hn : NF A) (hl : A 0 5 < A 0 4) (hL : TkL A) (h : ∀ A', WI A' → 4 ≤ A' 0 1 → A' 0 2 = A 0 2 → A' 0 3 = A 0 3 → NF A' → A' 0 5 < A' 0 4 → TkL A' → F A') : PW (mFin A) F := by
  unfold mFin
  refine PW.fx (fun h0 => ?_)
  have h1 := (fx_tk (k := 6) _).e0 h0
  split at h1
  · exact (mMk_0 (by decide) h1).elim
  · next q =>
    rw [if_neg q]
    refine p_tk2 (by omega) hn hl hL (fun A' e _ f n s l => ?_)
    have E := E5.of e
    refine h A' ⟨fun k hk => ?_, fun k hk => ?_⟩ (by rw [E 0 1 (by omega)]; omega) (E 0 2 (by omega)) (E 0 3 (by omega)) n l (hL.fx f.1)
    · rw [E 0 0 (by omega)] at hk
      rw [E 1 k (by omega), E 2 k (by omega)]
      exact hI.1 k hk
    · rw [E 0 1 (by omega)] at hk
      rw [E 3 k (by omega)]
      exact hI.2 k hk
theorem p_tkW {k : Nat} (hk : 2 ≤ k) (hI : WI A) (hn : NF A) (hl : A 0 5 < A 0 4) (hL : TkL A) (h : ∀ A', WI A' → A' 0 2 = A 0 2 → A' 0 3 = A 0 3 → NF A' → A' 0 5 < A' 0 4 → TkL A' → F A') : PW (mTk k A) F := by
  refine p_tk2 hk hn hl hL (fun A' e _ f n s l => ?_)
  have E := E5.of e
  refine h A' ⟨fun k hk => ?_, fun k hk => ?_⟩ (E 0 2 (by omega)) (E 0 3 (by omega)) n l (hL.fx f.1)
  · rw [E 0 0 (by omega)] at hk
    rw [E 1 k (by omega), E 2 k (by omega)]
    exact hI.1 k hk
  · rw [E 0 1 (by omega)] at hk
    rw [E 3 k (by omega)]
    exact hI.2 k hk
theorem p_psl : ∀ {f : Nat} {A : Bk}, WI A → NF A → A 0 5 < A 0 4 → TkL A → ∀ {F : Bk → Prop}, (∀ A', WI A' → 4 ≤ A' 0 1 → A' 0 2 = A 0 2 → A' 0 3 = A 0 3 → NF A' → A' 0 5 < A' 0 4 → TkL A' → F A') → PW (mPsL f A) F := by
  intro f
  induction f with
  | zero => intro A hI hn hl hL F h; exact p_fin hI hn hl hL h
  | succ f ih =>
    intro A hI hn hl hL F h
    unfold mPsL
    split
    · refine PW.be fe_psl (PW.be fe_plank (p_tkW (by omega) hI hn hl hL (fun A1 i1 a1 b1 n1 l1 L1 => ?_)))
      refine p_plank i1 n1 l1 L1 (fun A2 i2 a2 b2 n2 l2 L2 => ?_)
      exact ih i2 n2 l2 L2 (fun A3 i3 c3 a3 b3 n3 l3 L3 => h A3 i3 c3 (by omega) (by omega) n3 l3 L3)
    · exact p_fin hI hn hl hL h
theorem p_book (h0 : ∀ k, k < 4 → A 0 k = 0) (hn : NF A) (hl : A 0 5 < A 0 4) (hL : TkL A) : PW (mBook A) (fun A' => PI A' ∧ WI A' ∧ 4 ≤ A' 0 1) := by
  unfold mBook
  refine PW.be fe_pl (PW.be fe_ps (p_wk ⟨fun k hk => ?_, fun k hk => ?_⟩ (h0 1 (by omega)) hn hl hL (fun A1 i1 c1 a1 b1 n1 l1 L1 => ?_)))
  · rw [h0 0 (by omega)] at hk; omega
  · rw [h0 1 (by omega)] at hk; omega
  unfold mPs
  refine PW.be fe_psl (PW.be fe_plank (p_tkW (by omega) i1 n1 l1 L1 (fun A2 i2 a2 b2 n2 l2 L2 => ?_)))
  refine p_plank i2 n2 l2 L2 (fun A3 i3 a3 b3 n3 l3 L3 => ?_)
  refine p_psl i3 n3 l3 L3 (fun A4 i4 c4 a4 b4 n4 l4 L4 => ?_)
  have z2 := h0 2 (by omega)
  have z3 := h0 3 (by omega)
  refine p_pl ⟨fun a ha => by omega, fun p hp => by omega⟩ n4 l4 L4 (fun A' hI hs => ⟨hI, ⟨fun k hk => ?_, fun k hk => ?_⟩, ?_⟩)
  · rw [hs 0 0 (by omega)] at hk
    rw [hs 1 k (by omega), hs 2 k (by omega)]
    exact i4.1 k hk
  · rw [hs 0 1 (by omega)] at hk
    rw [hs 3 k (by omega)]
    exact i4.2 k hk
  · rw [hs 0 1 (by omega)]; exact c4
/-- a right book, as its run asks -/
theorem bOK_of (hI : PI A) (hm : mI A) : bOK A := by
  obtain ⟨g1, g2, g3, g4, g5, g6, g7, g8, g9, g10, g11⟩ := hm
  refine ⟨g1, g2, g3, g4, g5, fun p hp => ?_, fun a ha => ?_⟩
  · rcases (hI.2 p hp).1 with ⟨c, _⟩ | ⟨c1, c2, c3, _⟩
    · exact Or.inl c
    · exact Or.inr ⟨c2, c3⟩
  · obtain ⟨⟨y1, y2, y3, y4, y5, y6⟩, z1, z2⟩ := hI.1 a ha
    have at13 : ∀ {y q}, at_ A a y q → sP A a y := fun h => Or.inr ⟨h.2.1, h.2.2.2⟩
    refine ⟨by omega, z1, y2, ?_, ?_, ?_, ?_, fun h6 => ?_, ?_⟩
    · rcases z2 with ⟨c, _⟩ | c
      · exact Or.inl c
      · exact Or.inr ⟨by have := c.2.1; omega, c.2.2.2.1⟩
    · by_cases e : A 7 a = 0
      · exact Or.inl e
      · exact at13 (y5 e)
    · by_cases e : A 8 a = 0
      · exact Or.inl e
      · rcases y6 with ⟨a1, a2, a3, a4, a5, a6⟩ | ⟨a1, a2, a3, a5, a6⟩ | ⟨a1, a2, a3, a4, a5, a6⟩ | ⟨a1, a2, a3, a4, a5, a6, a7⟩
        · exact Or.inl a5
        · exact Or.inl a5
        · exact Or.inl a5
        · exact at13 (a5 e)
    · by_cases e : A 9 a = 0
      · exact Or.inl e
      · rcases y6 with ⟨a1, a2, a3, a4, a5, a6⟩ | ⟨a1, a2, a3, a5, a6⟩ | ⟨a1, a2, a3, a4, a5, a6⟩ | ⟨a1, a2, a3, a4, a5, a6, a7⟩
        · exact Or.inl a6
        · exact Or.inl a6
        · exact Or.inl a6
        · rcases a1 with q | q
          · exact Or.inl (a6 q).2.2
          · rcases (a7 q).2.2 with c | c
            · exact Or.inl c.2.2
            · exact at13 (c.2.2.1 e)
    · rcases z2 with ⟨c, _⟩ | c
      · exact absurd c h6
      · exact c.2.2.1
    · rcases y6 with ⟨a1, a2, a3, a4⟩ | ⟨a1, a2, a3⟩ | ⟨a1, a2, a3, a4⟩ | ⟨a1, a2, a3, a4, a5, a6, a7⟩
      · exact Or.inl ⟨a1, a2, fun q => (a3 q).1⟩
      · exact Or.inr (Or.inl ⟨a1, a2⟩)
      · exact Or.inr (Or.inr (Or.inl ⟨a1, a2, a3⟩))
      · exact Or.inr (Or.inr (Or.inr ⟨a1, a2⟩))
end RGT

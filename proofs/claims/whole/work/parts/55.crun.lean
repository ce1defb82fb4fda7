/-! a book as numbers; a plan's run; the class's run -/
/-- numbers by row and place. Row 0: 0 walkers, 1 planks, 2 plans, 3 acts, 4 tokens, 5 the place of reading, 6 error, 7 its token (+1), 8 orders, 9 compares, 10 names; 1 weights, 2 minutes, 3 strengths, 4 first acts of plans (+1), 5 tokens of acts, 6 outer (+1), 7 next (+1), 8 inner (+1), 9 else (+1), 10 kinds, 11 numbers (+1), 12 depths, 13 plans of acts, 14 words, 15 positions, 16 walkers' names, 17 plans' names, 18 an act's order, 19 the order behind it, 20 its compares, 21 how many more, 22 where it goes else, 23 a plan's order -/
abbrev Bk : Type := Nat → Nat → Nat
def oN : Nat → Int32
  | 0 => -nI 1
  | k + 1 => nI k
def fVc (A : Bk) (u : Nat) : Nat := if A 10 u = 3 then A 11 u - 1 else A 10 u + 70
def fWc (A : Bk) (u : Nat) : Nat := if A 10 u = 2 then A 11 u - 1 else A 10 u - 18
def fV (A : Bk) (M : Nat → Nat) (u : Nat) : Nat := fVal (A 0 0) (A 0 1) M (fVc A u)
def fCmp (k x y : Nat) : Bool := if k = 8 then decide (x < y) else if k = 10 then decide (y < x) else decide (x = y)
def fHold (A : Bk) (M : Nat → Nat) : Nat → Nat → Bool
  | 0, _ => true
  | f + 1, u => fCmp (A 10 (u + 1)) (fV A M u) (fV A M (u + 2)) && (if A 10 (u + 3) = 25 then fHold A M f (u + 4) else true)
def fBeh (A : Bk) : Nat → Nat → Nat
  | 0, _ => 0
  | f + 1, a => if A 7 a ≠ 0 then A 7 a else if A 6 a = 0 then 0 else if A 10 (A 5 (A 6 a - 1)) = 22 then A 6 a else fBeh A f (A 6 a - 1)
def fWith (A : Bk) (u : Nat) : Option Nat := if A 10 u = 17 then some (fWc A (u + 1)) else none
def fEff (A : Bk) (a : Nat) (M : Nat → Nat) : Bool × (Nat → Nat) :=
  if A 10 (A 5 a) = 16 then fSend (A 0 0) (A 0 1) (A 1) (A 2) (fWc A (A 5 a + 1)) (fWith A (A 5 a + 2)) M
  else if A 10 (A 5 a) = 18 then (true, (fGo (A 0 1) (if fV A M (A 5 a + 1) < 120 then fV A M (A 5 a + 1) else 120) M).2)
  else if A 10 (A 5 a) = 19 then (true, fWrite (fV A M (A 5 a + 1)) M)
  else if A 10 (A 5 a) = 20 then fMend (A 0 1) (fV A M (A 5 a + 1)) M
  else (true, M)
def fNext (A : Bk) (a : Nat) (M : Nat → Nat) : Nat :=
  if A 10 (A 5 a) = 21 then A 4 (A 11 (A 5 a + 1) - 1)
  else if A 10 (A 5 a) = 22 then (if fHold A M 101 (A 5 a + 1) = true then (if A 8 a = 0 then a + 1 else A 8 a) else fBeh A 4 a)
  else if A 10 (A 5 a) = 23 then (if (if fHold A M 101 (A 5 a + 1) = true then A 8 a else A 9 a) = 0 then fBeh A 4 a else (if fHold A M 101 (A 5 a + 1) = true then A 8 a else A 9 a))
  else fBeh A 4 a
def fPerf (A : Bk) : Nat → Nat → Nat → (Nat → Nat) → Nat → (Nat → Nat) → Nat × (Nat → Nat)
  | 0, _, _, _, done, M => (done, M)
  | f + 1, x, dp, op, done, M => if 100 ≤ done then (done, M) else if x = 0 then (if dp = 0 then (done, M) else fPerf A f (fBeh A 4 (op (dp - 1))) (dp - 1) op done M)
    else if (fEff A (x - 1) M).1 = true then (if A 10 (A 5 (x - 1)) = 21 then fPerf A f (fNext A (x - 1) M) (dp + 1) (up op dp (x - 1)) (done + 1) (fEff A (x - 1) M).2 else fPerf A f (fNext A (x - 1) M) dp op (done + 1) (fEff A (x - 1) M).2)
    else (done, M)
def fRunP (A : Bk) (p : Nat) (M : Nat → Nat) : Nat × (Nat → Nat) := fPerf A 1000 (A 4 p) 0 (fun _ => 0) 0 M
/-! what a right book keeps to -/
def vOK (A : Bk) (u : Nat) : Prop := (A 10 u = 3 ∧ 1 ≤ A 11 u ∧ A 11 u ≤ 100) ∨ (30 ≤ A 10 u ∧ A 10 u ≤ 36)
def hOK (A : Bk) (u : Nat) : Prop := (A 10 u = 2 ∧ 1 ≤ A 11 u ∧ A 11 u ≤ A 0 0) ∨ (26 ≤ A 10 u ∧ A 10 u ≤ 29)
def cOK (A : Bk) : Nat → Nat → Prop
  | 0, u => vOK A u ∧ 8 ≤ A 10 (u + 1) ∧ A 10 (u + 1) ≤ 10 ∧ vOK A (u + 2) ∧ u + 3 < A 0 4 ∧ A 10 (u + 3) ≠ 25
  | n + 1, u => vOK A u ∧ 8 ≤ A 10 (u + 1) ∧ A 10 (u + 1) ≤ 10 ∧ vOK A (u + 2) ∧ u + 3 < A 0 4 ∧ A 10 (u + 3) = 25 ∧ cOK A n (u + 4)
/-- x (+1) is an act of the same plan as a, or none -/
def sP (A : Bk) (a x : Nat) : Prop := x = 0 ∨ (x - 1 < A 0 3 ∧ A 13 (x - 1) = A 13 a)
def kOK (A : Bk) (a : Nat) : Prop := (A 10 (A 5 a) = 16 ∧ hOK A (A 5 a + 1) ∧ (A 10 (A 5 a + 2) = 17 → hOK A (A 5 a + 3))) ∨ ((A 10 (A 5 a) = 18 ∨ A 10 (A 5 a) = 19 ∨ A 10 (A 5 a) = 20) ∧ vOK A (A 5 a + 1)) ∨ (A 10 (A 5 a) = 21 ∧ 1 ≤ A 11 (A 5 a + 1) ∧ A 11 (A 5 a + 1) ≤ A 13 a) ∨ ((A 10 (A 5 a) = 22 ∨ A 10 (A 5 a) = 23) ∧ cOK A (A 21 a) (A 5 a + 1))
def aOK (A : Bk) (a : Nat) : Prop := A 5 a + 3 < A 0 4 ∧ A 13 a < A 0 2 ∧ A 12 a ≤ 2 ∧ sP A a (A 6 a) ∧ sP A a (A 7 a) ∧ sP A a (A 8 a) ∧ sP A a (A 9 a) ∧ (A 6 a ≠ 0 → A 12 a = A 12 (A 6 a - 1) + 1) ∧ kOK A a
def bOK (A : Bk) : Prop := A 0 0 ≤ 8 ∧ A 0 1 ≤ 12 ∧ A 0 2 ≤ 6 ∧ A 0 3 ≤ 60 ∧ A 0 4 ≤ 401 ∧ (∀ p, p < A 0 2 → A 4 p = 0 ∨ (A 4 p - 1 < A 0 3 ∧ A 13 (A 4 p - 1) = p)) ∧ ∀ a, a < A 0 3 → aOK A a
/-- the class's book at the cell B, as far as a run reads it -/
def CK (B : Nat) (A : Bk) (st : St) : Prop := gI st B 9 = nI (A 0 2) ∧ gI st B 15 = nI (A 0 3) ∧ (∀ p, p < A 0 2 → gI st (B + 6) p = oN (A 4 p)) ∧ (∀ a, a < A 0 3 → gI st (B + 7) a = nI (A 5 a) ∧ gI st (B + 8) a = oN (A 6 a) ∧ gI st (B + 9) a = oN (A 7 a) ∧ gI st (B + 10) a = oN (A 8 a) ∧ gI st (B + 11) a = oN (A 9 a)) ∧ gI st (B + 12) 4 = nI (A 0 4) ∧ ∀ i, i < A 0 4 → gK st (B + 13) i = some (A 10 i) ∧ A 10 i < 37 ∧ gI st (B + 15) i = oN (A 11 i)
/-- all that is not an int stays, but the references of the cell 16; ints outside P stay -/
def FG (P : Nat → Prop) (st st' : St) : Prop := st'.2.1 = st.2.1 ∧ st'.2.2.1 = st.2.2.1 ∧ (∀ c j, c ≠ 16 → gR st' c j = gR st c j) ∧ ∀ d, ¬ P d → st'.1 d = st.1 d
theorem FG.rf {P : Nat → Prop} {st : St} : FG P st st := ⟨rfl, rfl, fun _ _ _ => rfl, fun _ _ => rfl⟩
theorem FG.tr {P : Nat → Prop} {s1 s2 s3 : St} (h : FG P s1 s2) (h2 : FG P s2 s3) : FG P s1 s3 := ⟨h2.1.trans h.1, h2.2.1.trans h.2.1, fun c j hc => (h2.2.2.1 c j hc).trans (h.2.2.1 c j hc), fun d hd => (h2.2.2.2 d hd).trans (h.2.2.2 d hd)⟩
theorem FI.g {P P2 : Nat → Prop} {s1 s2 : St} (h : FI P s1 s2) (hp : ∀ d, P d → P2 d) : FG P2 s1 s2 := ⟨congrArg (fun z : (Nat → Nat → Int64) × (Nat → Nat → Option Nat) × (Nat → Nat → Nat) => z.1) h.1, congrArg (fun z : (Nat → Nat → Int64) × (Nat → Nat → Option Nat) × (Nat → Nat → Nat) => z.2.1) h.1, fun _ _ _ => h.gR, fun d hd => h.2 d (fun q => hd (hp d q))⟩
theorem FG.gI {P : Nat → Prop} {st st' : St} (h : FG P st st') {d k : Nat} (hd : ¬ P d) : gI st' d k = gI st d k := congrFun (h.2.2.2 d hd) k
theorem FG.gK {P : Nat → Prop} {st st' : St} (h : FG P st st') {d k : Nat} : gK st' d k = gK st d k := congrFun (congrFun h.2.1 d) k
theorem FG.uR {P : Nat → Prop} {st : St} {j v : Nat} : FG P st (uR st 16 j v) := ⟨rfl, rfl, fun c j' hc => by
  show sw st.2.2.2 16 _ c j' = _
  rw [sw_n hc]; rfl, fun _ _ => rfl⟩
theorem gR_uRs {st : St} {c j v : Nat} : gR (uR st c j v) c j = v := by
  show sw st.2.2.2 c _ c j = v
  rw [sw_s, up_s]
theorem gR_uRn {st : St} {c j v k : Nat} (h : k ≠ j) : gR (uR st c j v) c k = gR st c k := by
  show sw st.2.2.2 c _ c k = _
  rw [sw_s, up_n h]; rfl
theorem oN_m1 {x : Nat} (hx : x < 2 ^ 31) : (oN x = -1) ↔ x = 0 := by
  cases x with
  | zero => exact ⟨fun _ => rfl, fun _ => rfl⟩
  | succ k => exact ⟨fun q => ((ne_m1 (show k < 2 ^ 31 by omega)).mp q).elim, fun q => by omega⟩
theorem oN_pos {x : Nat} (hx : x ≠ 0) : oN x = nI (x - 1) := by
  cases x with
  | zero => exact absurd rfl hx
  | succ k => rfl
/-- the cells that the run of a plan on the bridge br writes -/
def PR (br d : Nat) : Prop := d = 16 ∨ d = 17 ∨ PM br d
section CRU
variable {B br t : Nat} {A : Bk} {M M' : Nat → Nat} {st st' : St} {Q : Int32 → St → Prop} {Qv : St → Prop} {Qk : Option Nat → St → Prop}
theorem CK.f (h : CK B A st) {P : Nat → Prop} (hF : FG P st st') (hp : ∀ d, B ≤ d → d ≤ B + 15 → ¬ P d) : CK B A st' := by
  obtain ⟨h1, h2, h3, h4, h5, h6⟩ := h
  refine ⟨(hF.gI (hp _ (by omega) (by omega))).trans h1, (hF.gI (hp _ (by omega) (by omega))).trans h2, fun p hpp => (hF.gI (hp _ (by omega) (by omega))).trans (h3 p hpp), fun a ha => ?_, (hF.gI (hp _ (by omega) (by omega))).trans h5, fun i hi => ?_⟩
  · obtain ⟨g1, g2, g3, g4, g5⟩ := h4 a ha
    exact ⟨(hF.gI (hp _ (by omega) (by omega))).trans g1, (hF.gI (hp _ (by omega) (by omega))).trans g2, (hF.gI (hp _ (by omega) (by omega))).trans g3, (hF.gI (hp _ (by omega) (by omega))).trans g4, (hF.gI (hp _ (by omega) (by omega))).trans g5⟩
  · obtain ⟨g1, g2, g3⟩ := h6 i hi
    exact ⟨hF.gK.trans g1, g2, (hF.gI (hp _ (by omega) (by omega))).trans g3⟩
theorem c_kind {i : Nat} (hO : A 0 4 ≤ 401) (h : CK B A st) (hi : i < A 0 4) (hq : Qk (some (A 10 i)) st) : wX7_kindAt (B + 12) (nI i) st Qk := by
  unfold wX7_kindAt
  obtain ⟨-, -, -, -, h5, h6⟩ := h
  obtain ⟨g1, g2, g3⟩ := h6 i hi
  rw [h5]
  refine ⟨fun q => absurd q (nI_pos (by omega)), fun _ => ⟨fun _ => ⟨(vin_iff (by omega)).mpr (by omega), ?_⟩, fun q => absurd (nI_lt hi (by omega)) q⟩⟩
  rintro _ rfl
  rw [nI_clamp (by omega), show gK st (B + 12 + 1) i = some (A 10 i) from g1]
  exact ⟨fun _ => ⟨kin_l g2, hq⟩, fun q => by cases q⟩
theorem c_num {i : Nat} (hO : A 0 4 ≤ 401) (h : CK B A st) (hi : i < A 0 4) (hq : Q (oN (A 11 i)) st) : wX7_numberAt (B + 12) (nI i) st Q := by
  unfold wX7_numberAt
  obtain ⟨-, -, -, -, h5, h6⟩ := h
  obtain ⟨g1, g2, g3⟩ := h6 i hi
  rw [h5]
  refine ⟨fun q => absurd q (nI_pos (by omega)), fun _ => ⟨fun q => absurd ((nI_leI (by omega) (by omega)).mp q) (by omega), fun _ => ⟨(vin_iff (by omega)).mpr (by omega), ?_⟩⟩⟩
  rw [nI_clamp (by omega), show gI st (B + 12 + 3) i = oN (A 11 i) from g3]
  exact hq
theorem c_hasAct {x : Nat} (hO : A 0 3 ≤ 60) (h : CK B A st) (hx : x ≤ A 0 3) (hq : Q (bI (decide (x ≠ 0))) st) : wX1_hasAct B (oN x) st Q := by
  unfold wX1_hasAct
  cases x with
  | zero => exact ⟨fun _ => hq, fun q => absurd (show oN 0 < 0 from by decide) q⟩
  | succ k =>
    have hq : Q 1 st := hq
    show (nI k < 0 → Q 0 st) ∧ (¬ nI k < 0 → ((gI st B 15 ≤ nI k → Q 0 st) ∧ (¬ gI st B 15 ≤ nI k → Q 1 st)))
    rw [h.2.1]
    exact ⟨fun q => absurd q (nI_pos (by omega)), fun _ => ⟨fun q => absurd ((nI_leI (by omega) (by omega)).mp q) (by omega), fun _ => hq⟩⟩
theorem fBeh_sP (hO : bOK A) : ∀ (f : Nat) {a : Nat}, a < A 0 3 → sP A a (fBeh A f a) := by
  intro f
  induction f with
  | zero => exact fun _ => Or.inl rfl
  | succ f ih =>
    intro a ha
    have h := hO.2.2.2.2.2.2 a ha
    unfold fBeh
    split
    · exact h.2.2.2.2.1
    · split
      · exact Or.inl rfl
      · next q =>
        have h6 := h.2.2.2.1
        split
        · exact h6
        · rcases h6 with e | ⟨e1, e2⟩
          · exact absurd e q
          · rcases ih e1 with e3 | ⟨e3, e4⟩
            · exact Or.inl e3
            · exact Or.inr ⟨e3, e4.trans e2⟩
theorem sP.le {a x : Nat} (h : sP A a x) : x ≤ A 0 3 := by rcases h with rfl | ⟨h, -⟩ <;> omega
theorem c_behind {a : Nat} (hO : bOK A) (h : CK B A st) (ha : a < A 0 3) (hq : Q (oN (fBeh A 4 a)) st) : wX1_actBehind B (nI a) st Q := by
  unfold wX1_actBehind
  have h60 := hO.2.2.2.1
  have h401 := hO.2.2.2.2.1
  have key : ∀ (f v : Nat) (x : Nat), f + v = 4 → x ≤ A 0 3 → (Q (oN (if x = 0 then 0 else fBeh A f (x - 1))) st) → lp (fun R s => wX1_actBehind_L4 B (nI a) R s.1 s.2.1 s.2.2 Q) (f + 1) (oN x, nI v, st) := by
    intro f
    induction f with
    | zero =>
      intro v x hv hx hq
      have e : v = 4 := by omega
      subst e
      show wX1_actBehind_L4 B (nI a) _ (oN x) (nI 4) st Q
      unfold wX1_actBehind_L4
      have e0 : (if x = 0 then 0 else fBeh A 0 (x - 1)) = 0 := by split <;> rfl
      rw [e0] at hq
      exact ⟨fun _ => hq, fun q => absurd (show (3 : Int32) < nI 4 from by decide) q⟩
    | succ f ih =>
      intro v x hv hx hq
      show wX1_actBehind_L4 B (nI a) (lp (fun R s => wX1_actBehind_L4 B (nI a) R s.1 s.2.1 s.2.2 Q) (f + 1)) (oN x) (nI v) st Q
      unfold wX1_actBehind_L4 wX1_actBehind_L70
      refine ⟨fun q => absurd ((nI_ltI (a := 3) (by omega) (by omega)).mp q) (by omega), fun _ => c_hasAct h60 h hx ⟨fun q => ?_, fun q => ?_⟩⟩
      · have : x = 0 := Decidable.not_not.mp (of_decide_eq_false (bI0.mp q))
        rw [if_pos this] at hq
        exact hq
      · have hx0 : x ≠ 0 := fun e => q (by rw [decide_eq_false (fun z => z e)]; rfl)
        rw [if_neg hx0] at hq
        have hxa : x - 1 < A 0 3 := by omega
        have hA := hO.2.2.2.2.2.2 (x - 1) hxa
        obtain ⟨g1, g2, g3, g4, g5⟩ := h.2.2.2.1 (x - 1) hxa
        have b7 := hA.2.2.2.2.1.le
        have b6 := hA.2.2.2.1.le
        rw [oN_pos hx0, nI_clamp (by omega), g3, g2, oN_m1 (by omega)]
        unfold fBeh at hq
        have hin : vp_in (nI (x - 1)) 60 := (vin_iff (by omega)).mpr (by omega)
        refine ⟨hin, fun q7 => ⟨hin, ?_⟩, fun q7 => ⟨hin, ?_⟩⟩
        · rw [if_neg (fun z => z q7)] at hq
          rintro _ rfl
          refine c_hasAct h60 h b6 ⟨fun q6 => ?_, fun q6 => ?_⟩
          · have e6 : A 6 (x - 1) = 0 := Decidable.not_not.mp (of_decide_eq_false (bI0.mp q6))
            rw [if_pos e6] at hq
            rintro _ rfl
            rw [nI_1]
            exact ih (v + 1) _ (by omega) b6 (by rw [if_pos e6]; exact hq)
          · have e6 : A 6 (x - 1) ≠ 0 := fun e => q6 (by rw [decide_eq_false (fun z => z e)]; rfl)
            rw [if_neg e6] at hq
            have hya : A 6 (x - 1) - 1 < A 0 3 := by omega
            have hY := hO.2.2.2.2.2.2 _ hya
            rw [oN_pos e6, nI_clamp (by omega), (h.2.2.2.1 _ hya).1]
            refine ⟨(vin_iff (by omega)).mpr (by omega), c_kind h401 h (by have := hY.1; omega) ⟨fun qk => ?_, fun qk => ?_⟩⟩
            · rw [if_neg (fun z => qk (by rw [z]))] at hq
              rintro _ rfl
              rw [nI_1]
              have := ih (v + 1) (A 6 (x - 1)) (by omega) b6 (by rw [if_neg e6]; exact hq)
              rw [oN_pos e6] at this
              exact this
            · have : A 10 (A 5 (A 6 (x - 1) - 1)) = 22 := Option.some.inj qk
              rw [if_pos this, oN_pos e6] at hq
              exact hq
        · rw [if_pos q7] at hq
          exact hq
  exact ⟨5, key 4 0 (a + 1) (by omega) (by omega) (by rw [if_neg (by omega)]; exact hq)⟩
theorem fVal_meas : ∀ k, 30 ≤ k → k ≤ 36 → (¬ k + 70 < 100) := fun k h _ => by omega
theorem c_measure {k nw pl : Nat} {wt mi : Nat → Nat} (hB : BB nw pl wt mi) (hM : MB t M) (h : BR br nw pl st M) (h1 : 30 ≤ k) (h2 : k ≤ 36) (hq : Q (nI (fVal nw pl M (k + 70))) st) : wX2_measure br (some k) st Q := by
  unfold wX2_measure
  refine ⟨k, rfl, by omega, (vin_iff (by omega)).mpr (by omega), ?_⟩
  have hc : k = 30 ∨ k = 31 ∨ k = 32 ∨ k = 33 ∨ k = 34 ∨ k = 35 ∨ k = 36 := by omega
  have a1 : ∀ {P : Prop}, P → P := fun h => h
  rcases hc with rfl | rfl | rfl | rfl | rfl | rfl | rfl
  · exact ⟨fun q => absurd q (by decide +kernel), fun _ => c_countNear hB hM h hq, fun q => absurd q (by decide +kernel), fun q => absurd q (by decide +kernel), fun q => absurd q (by decide +kernel), fun q => absurd q (by decide +kernel), fun q => absurd q (by decide +kernel)⟩
  · exact ⟨fun q => absurd q (by decide +kernel), fun q => absurd q (by decide +kernel), fun _ => c_countFar hB hM h hq, fun q => absurd q (by decide +kernel), fun q => absurd q (by decide +kernel), fun q => absurd q (by decide +kernel), fun q => absurd q (by decide +kernel)⟩
  · exact ⟨fun q => absurd q (by decide +kernel), fun q => absurd q (by decide +kernel), fun q => absurd q (by decide +kernel), fun _ => by rw [h.oi]; exact hq, fun q => absurd q (by decide +kernel), fun q => absurd q (by decide +kernel), fun q => absurd q (by decide +kernel)⟩
  · exact ⟨fun q => absurd q (by decide +kernel), fun q => absurd q (by decide +kernel), fun q => absurd q (by decide +kernel), fun q => absurd q (by decide +kernel), fun _ => by rw [h.m10]; exact hq, fun q => absurd q (by decide +kernel), fun q => absurd q (by decide +kernel)⟩
  · exact ⟨fun q => absurd q (by decide +kernel), fun q => absurd q (by decide +kernel), fun q => absurd q (by decide +kernel), fun q => absurd q (by decide +kernel), fun q => absurd q (by decide +kernel), fun _ => by rw [h.ni]; exact hq, fun q => absurd q (by decide +kernel)⟩
  · exact ⟨fun q => absurd q (by decide +kernel), fun q => absurd q (by decide +kernel), fun q => absurd q (by decide +kernel), fun q => absurd q (by decide +kernel), fun q => absurd q (by decide +kernel), fun q => absurd q (by decide +kernel), fun _ => c_missing hB hM h hq⟩
  · refine ⟨fun _ => ?_, fun q => absurd q (by decide +kernel), fun q => absurd q (by decide +kernel), fun q => absurd q (by decide +kernel), fun q => absurd q (by decide +kernel), fun q => absurd q (by decide +kernel), fun q => absurd q (by decide +kernel)⟩
    refine c_weakest (snd := false) hB hM h ?_
    have hq : Q (nI (match fWst M false pl with | none => 0 | some w => M (16 + w))) st := hq
    have hp := hB.2.1
    cases hf : fWst M false pl with
    | none =>
      simp only [hf] at hq
      exact ⟨fun q => absurd rfl q, fun _ => hq⟩
    | some w =>
      have hlt := fWst_lt pl hf
      simp only [hf] at hq
      refine ⟨fun _ => ⟨(vin_iff (by omega)).mpr (by omega), ?_⟩, fun q => ((ne_m1 (by omega)).mp q).elim⟩
      rw [oI_some, nI_clamp (by omega), h.ss hlt]
      exact hq
end CRU

/-! the reference's reading of one token -/
def rkd (k : Nat) : Nat := if k = 4 then 40 else if k = 5 then 41 else if k = 6 then 59 else if k = 7 then 44 else if k = 8 then 60 else if k = 9 then 61 else if k = 10 then 62 else if k < 4 then k else 189 + k
theorem rkd_lt {k : Nat} (h : k ≤ 36) : rkd k ≤ 225 := by unfold rkd; (repeat' split) <;> omega
theorem rkd_inj : ∀ a, a < 37 → ∀ b, b < 37 → rkd a = rkd b → a = b := by decide +kernel
theorem rkd_sgk : ∀ v, v < 256 → (sgk v = 1 ∨ rkd (sgk v) = v) := by decide +kernel
def TpR (st : St) (n : Nat) (tp : Nat → Nat) : Prop := gI st 54 2 = nI n ∧ n ≤ 1600 ∧ (∀ i, i < n → gI st 55 i = sb (tp i)) ∧ ∀ i, tp i < 256
theorem sbL : ∀ v, v < 256 → (isL v = true ↔ ¬ sb v < 97 ∧ ¬ 122 < sb v) := by decide +kernel
theorem sbD : ∀ v, v < 256 → (isD v = true ↔ ¬ sb v < 48 ∧ ¬ 57 < sb v) := by decide +kernel
theorem sb_c : ∀ v, v < 256 → (sb v = 32 ↔ v = 32) ∧ (sb v = 10 ↔ v = 10) ∧ (sb v = 40 ↔ v = 40) ∧ (sb v = 41 ↔ v = 41) ∧ (sb v = 59 ↔ v = 59) ∧ (sb v = 44 ↔ v = 44) ∧ (sb v = 60 ↔ v = 60) ∧ (sb v = 62 ↔ v = 62) ∧ (sb v = 61 ↔ v = 61) := by decide +kernel
theorem sb_lo {v : Nat} (h : v < 128) : sb v = nI v := if_pos h
def cht (k j : Nat) : Nat := ((sByt.getD k []).getD j 0).toNatClampNeg
def pw (k : Nat) : Nat → Nat
  | 0 => 0
  | j + 1 => 27 * pw k j + (cht k j - 96)
theorem cht_ok : ∀ k, k < 26 → sLen.getD k 0 < 9 ∧ pw k (sLen.getD k 0) = w27 k ∧ ∀ j, j < sLen.getD k 0 → sCh k j = nI (cht k j) ∧ 97 ≤ cht k j ∧ cht k j ≤ 122 := by decide +kernel
theorem w27_lt : ∀ k, k < 26 → w27 k < 2 ^ 40 := by decide +kernel
def P68 (d : Nat) : Prop := d = 68
/-- only cells of P change, none in its places of objects -/
def FQ (P : Nat → Prop) (st st' : St) : Prop := FP P st st' ∧ st'.2.2 = st.2.2
theorem FQ.rf {P : Nat → Prop} {st : St} : FQ P st st := ⟨FP.rf, rfl⟩
theorem FQ.tr {P : Nat → Prop} {s1 s2 s3 : St} (h : FQ P s1 s2) (h2 : FQ P s2 s3) : FQ P s1 s3 := ⟨h.1.tr h2.1, h2.2.trans h.2⟩
theorem FQ.mo {P P2 : Nat → Prop} {s1 s2 : St} (h : FQ P s1 s2) (hp : ∀ d, P d → P2 d) : FQ P2 s1 s2 := ⟨h.1.mo hp, h.2⟩
theorem FQ.uI {P : Nat → Prop} {st : St} {c j : Nat} {v : Int32} (h : P c) : FQ P st (uI st c j v) := ⟨FP.uI h, rfl⟩
theorem FQ.uJ {P : Nat → Prop} {st : St} {c j : Nat} {v : Int64} (h : P c) : FQ P st (uJ st c j v) := ⟨FP.uJ h, rfl⟩
theorem FQ.gI {P : Nat → Prop} {st st' : St} (h : FQ P st st') {d k : Nat} (hd : ¬ P d) : gI st' d k = gI st d k := h.1.gI hd
theorem FQ.gJ {P : Nat → Prop} {st st' : St} (h : FQ P st st') {d k : Nat} (hd : ¬ P d) : gJ st' d k = gJ st d k := h.1.gJ hd
theorem FQ.gR {P : Nat → Prop} {st st' : St} (h : FQ P st st') {d k : Nat} : gR st' d k = gR st d k := congrArg (fun z : (Nat → Nat → Option Nat) × (Nat → Nat → Nat) => z.2 d k) h.2
/-- only what belongs to a token changes in the reader -/
def FN (st st' : St) : Prop := FQ P68 st st' ∧ ∀ j, (j < 5 ∨ 11 ≤ j) → gI st' 68 j = gI st 68 j
theorem FN.rf {st : St} : FN st st := ⟨FQ.rf, fun _ _ => rfl⟩
theorem FN.tr {s1 s2 s3 : St} (h : FN s1 s2) (h2 : FN s2 s3) : FN s1 s3 := ⟨h.1.tr h2.1, fun j hj => (h2.2 j hj).trans (h.2 j hj)⟩
theorem FN.uI {st : St} {j : Nat} {v : Int32} (h : 5 ≤ j ∧ j < 11) : FN st (uI st 68 j v) := ⟨FQ.uI rfl, fun i hi => by rw [gI_uI, if_neg (by omega)]⟩
theorem FN.uJ {st : St} {j : Nat} {v : Int64} : FN st (uJ st 68 j v) := ⟨FQ.uJ rfl, fun i _ => gI_uJ _ _ _ _ _ _⟩
section RTK
variable {n : Nat} {tp : Nat → Nat} {st st' : St} {Q : Int32 → St → Prop} {Qv : St → Prop} {Qj : Int64 → St → Prop}
theorem TpR.fn (h : TpR st n tp) (hF : FN st st') : TpR st' n tp := ⟨(hF.1.gI (by unfold P68; omega)).trans h.1, h.2.1, fun i hi => (hF.1.gI (by unfold P68; omega)).trans (h.2.2.1 i hi), h.2.2.2⟩
theorem r_let {i : Nat} (h : TpR st n tp) (hi : i < 2 ^ 30) (hq : Q (bI (decide (i < n) && isL (tp i))) st) : wX11_isLetter 68 (nI i) st Q := by
  unfold wX11_isLetter
  obtain ⟨h1, h2, h3, h4⟩ := h
  rw [h1]
  refine ⟨fun q => ?_, fun q => ?_⟩
  · rw [decide_eq_false (by have := (nI_leI (by omega) (by omega)).mp q; omega), Bool.false_and] at hq
    exact hq
  · have hin : i < n := Nat.lt_of_not_le (fun z => q (nI_le z (by omega)))
    rw [decide_eq_true hin, Bool.true_and] at hq
    have v1 : vp_in (nI i) 1600 := (vin_iff (by omega)).mpr (by omega)
    rw [nI_clamp (by omega), h3 i hin]
    have hl := sbL _ (h4 i)
    refine ⟨v1, fun q2 => ?_, fun q2 => ⟨v1, fun q3 => ?_, fun q3 => ?_⟩⟩
    · rw [(Bool.not_eq_true _).mp (fun e => (hl.mp e).1 q2)] at hq; exact hq
    · rw [(Bool.not_eq_true _).mp (fun e => (hl.mp e).2 q3)] at hq; exact hq
    · rw [hl.mpr ⟨q2, q3⟩] at hq; exact hq
theorem r_dig {i : Nat} (h : TpR st n tp) (hi : i < 2 ^ 30) (hq : Q (bI (decide (i < n) && isD (tp i))) st) : wX11_isDigit 68 (nI i) st Q := by
  unfold wX11_isDigit
  obtain ⟨h1, h2, h3, h4⟩ := h
  rw [h1]
  refine ⟨fun q => ?_, fun q => ?_⟩
  · rw [decide_eq_false (by have := (nI_leI (by omega) (by omega)).mp q; omega), Bool.false_and] at hq
    exact hq
  · have hin : i < n := Nat.lt_of_not_le (fun z => q (nI_le z (by omega)))
    rw [decide_eq_true hin, Bool.true_and] at hq
    have v1 : vp_in (nI i) 1600 := (vin_iff (by omega)).mpr (by omega)
    rw [nI_clamp (by omega), h3 i hin]
    have hl := sbD _ (h4 i)
    refine ⟨v1, fun q2 => ?_, fun q2 => ⟨v1, fun q3 => ?_, fun q3 => ?_⟩⟩
    · rw [(Bool.not_eq_true _).mp (fun e => (hl.mp e).1 q2)] at hq; exact hq
    · rw [(Bool.not_eq_true _).mp (fun e => (hl.mp e).2 q3)] at hq; exact hq
    · rw [hl.mpr ⟨q2, q3⟩] at hq; exact hq
theorem step27 {c v : Nat} (h : 97 ≤ v) (hv : v ≤ 122) : (((27 : Int64) * lN c + (nI v).toInt64) - 97) + 1 = lN (27 * c + (v - 96)) := by
  rw [nI_l (by omega), show (27 : Int64) * lN c = lN (27 * c) from lN_mul 27 c, lN_add, show lN (27 * c + v) - 97 = lN (27 * c + v - 97) from lN_sub (b := 97) (by omega), lN_1]
  congr 1; omega
theorem r_code {k : Nat} (hk : k < 26) (hq : Qj (lN (w27 k)) st) : wX11_code 68 k st Qj := by
  unfold wX11_code
  obtain ⟨l9, l2, l3⟩ := cht_ok k hk
  refine lp_inv (n := sLen.getD k 0) (I := fun j s => s = (lN (pw k j), nI j, st)) ?_ ?_ rfl
  · rintro j s hj rfl R hR2
    show wX11_code_L5 68 k R (lN (pw k j)) (nI j) st Qj
    unfold wX11_code_L5
    obtain ⟨c1, c2, c3⟩ := l3 j hj
    refine ⟨fun q => absurd ((nI_leI (by omega) (by omega)).mp q) (by omega), fun _ => ⟨(vin_iff (by omega)).mpr hj, ?_⟩⟩
    rw [nI_clamp (by omega), c1, step27 c2 c3]
    rintro _ rfl _ rfl
    rw [nI_1]
    exact hR2 _ rfl
  · rintro s rfl R
    show wX11_code_L5 68 k R (lN (pw k (sLen.getD k 0))) (nI (sLen.getD k 0)) st Qj
    unfold wX11_code_L5
    rw [l2]
    exact ⟨fun _ => hq, fun q => absurd (nI_le (Nat.le_refl _) (by omega)) q⟩
theorem r_words {w : Nat} (hw : w < 2 ^ 40) (hj : gJ st 68 9 = lN w) (hq : Q (nI (rkd (kwd w))) st) : ∃ m, lp (fun R s => wX11_word_L93 68 R s.1 s.2 Q) m (0, st) := by
  refine lp_inv (n := 26) (I := fun k s => s = (nI k, st) ∧ ∀ j, j < k → decide (w27 j = w) = false) ?_ ?_ ⟨rfl, fun j hj => absurd hj (by omega)⟩
  · rintro k s hk ⟨rfl, hno⟩ R hR2
    show wX11_word_L93 68 R (nI k) st Q
    unfold wX11_word_L93
    refine ⟨fun q => absurd ((nI_leI (a := 26) (by omega) (by omega)).mp q) (by omega), fun _ => ⟨(vin_iff (by omega)).mpr hk, ?_⟩⟩
    rw [nI_clamp (by omega)]
    refine r_code hk ?_
    have := w27_lt k hk
    rw [hj, lg_cmp_eq, pk_lEQ (by omega) (by omega)]
    refine ⟨fun q => ?_, fun q => ?_⟩
    · rintro _ rfl
      rw [nI_1]
      refine hR2 _ ⟨rfl, fun j hj2 => ?_⟩
      by_cases e : j = k
      · subst e; exact decide_eq_false q
      · exact hno j (by omega)
    · have e : kwd w = 11 + k := by unfold kwd; rw [fFind_at hno (decide_eq_true q) hk]
      rw [e] at hq
      have e2 : rkd (11 + k) = 200 + k := by
        unfold rkd
        rw [if_neg (by omega), if_neg (by omega), if_neg (by omega), if_neg (by omega), if_neg (by omega), if_neg (by omega), if_neg (by omega), if_neg (by omega)]
        omega
      rw [e2] at hq
      rw [show (200 : Int32) + nI k = nI (200 + k) from nI_add 200 k]
      exact hq
  · rintro s ⟨rfl, hno⟩ R
    show wX11_word_L93 68 R (nI 26) st Q
    unfold wX11_word_L93
    have e : kwd w = 2 := by unfold kwd; rw [fFind_no hno]
    rw [e] at hq
    exact ⟨fun _ => hq, fun q => absurd (nI_le (Nat.le_refl 26) (by omega)) q⟩
theorem r_word {f : Nat} (h : TpR st n tp) (hf : f < n) (hl : isL (tp f) = true) (h5 : gI st 68 5 = nI f) (h7 : gI st 68 7 = nI f)
    (hq : ∀ st', FN st st' → gI st' 68 7 = nI f → gI st' 68 10 = gI st 68 10 → (fEd n tp f - f ≤ 8 → gI st' 68 5 = nI (fEd n tp f) ∧ gJ st' 68 9 = lN (c27 tp f (fEd n tp f - f))) → Q (nI (rkd (tkd0 n tp f))) st') : wX11_word 68 st Q := by
  have h2 := h.2.1
  obtain ⟨f1, f2, f3⟩ := fEd_word hf hl
  unfold wX11_word
  intro s1 e1
  have kd0 : tkd0 n tp f = if 8 < fEd n tp f - f then 1 else kwd (c27 tp f (fEd n tp f - f)) := by
    unfold tkd0; rw [if_neg (by omega), if_pos hl]
  have L75 : ∀ k u, k ≤ 9 → (k = fEd n tp f - f ∨ (k = 9 ∧ 9 ≤ fEd n tp f - f)) → FN st u → gI u 68 7 = nI f → gI u 68 5 = nI (f + k) → gI u 68 10 = gI st 68 10 → gJ u 68 9 = lN (c27 tp f k) → wX11_word_L75 68 u Q := by
    intro k u hk hke hF u7 u5 u10 uj
    unfold wX11_word_L75
    rw [u7, u5, pk_sub (by omega), show f + k - f = k from by omega]
    refine ⟨fun q => ?_, fun q => ?_⟩
    · have hk8 := (nI_leI (b := 8) (by omega) (by omega)).mp q
      have e : k = fEd n tp f - f := by omega
      have hc := c27_lt (tp := tp) (i := f) (k := k) (fun j hj => (f3 j (by omega)).2)
      have p2 : 27 ^ k ≤ 27 ^ 8 := Nat.pow_le_pow_right (by omega) hk8
      refine r_words (by omega) uj ?_
      have := hq u hF u7 u10 (fun _ => ⟨by rw [u5]; congr 1; omega, by rw [uj, e]⟩)
      rw [kd0, if_neg (by omega), ← e] at this
      exact this
    · have : ¬ k ≤ 8 := fun z => q (nI_le (b := 8) z (by omega))
      have := hq u hF u7 u10 (fun z => by omega)
      rw [kd0, if_pos (by omega)] at this
      exact this
  have key : ∀ (d k : Nat) (u : St), k + d = 9 → k ≤ fEd n tp f - f → FN st u → gI u 68 7 = nI f → gI u 68 5 = nI (f + k) → gI u 68 10 = gI st 68 10 → gJ u 68 9 = lN (c27 tp f k) → lp (fun R s => wX11_word_L5 68 R s Q) (d + 1) u := by
    intro d
    induction d with
    | zero =>
      intro k u hk hke hF u7 u5 u10 uj
      have ek : k = 9 := by omega
      subst ek
      show wX11_word_L5 68 _ u Q
      unfold wX11_word_L5
      rw [u5]
      refine r_let (h.fn hF) (by omega) ⟨fun q => ?_, fun q => ⟨fun _ => L75 9 u (by omega) (Or.inr ⟨rfl, hke⟩) hF u7 u5 u10 uj, fun q2 => ?_⟩⟩
      · exact L75 9 u (by omega) (Or.inr ⟨rfl, hke⟩) hF u7 u5 u10 uj
      · rw [u7, u5, pk_sub (by omega), show f + 9 - f = 9 from by omega] at q2
        exact absurd (nI_le (Nat.le_refl 9) (by omega)) q2
    | succ d ih =>
      intro k u hk hke hF u7 u5 u10 uj
      have ih := ih (k + 1)
      show wX11_word_L5 68 (lp (fun R s => wX11_word_L5 68 R s Q) (d + 1)) u Q
      generalize lp (fun R s => wX11_word_L5 68 R s Q) (d + 1) = RR at ih ⊢
      unfold wX11_word_L5
      rw [u5]
      refine r_let (h.fn hF) (by omega) ⟨fun q => ?_, fun q => ⟨fun q2 => ?_, fun _ => ?_⟩⟩
      · refine L75 k u (by omega) (Or.inl ?_) hF u7 u5 u10 uj
        apply Nat.le_antisymm hke
        apply Nat.le_of_not_lt
        intro z
        have e := bI0.mp q
        rw [decide_eq_true (p := f + k < n) (by omega), isL_iff.mpr (f3 k z)] at e
        cases e
      · rw [u7, u5, pk_sub (by omega), show f + k - f = k from by omega] at q2
        have := (nI_leI (a := 9) (by omega) (by omega)).mp q2
        omega
      · have e := (Bool.not_eq_false _).mp (fun e => q (bI0.mpr e))
        rw [Bool.and_eq_true, decide_eq_true_iff] at e
        have hv := isL_iff.mp e.2
        rw [u5, nI_clamp (by omega), show gI u 55 (f + k) = nI (tp (f + k)) from by rw [(h.fn hF).2.2.1 _ e.1, sb_lo (by omega)], uj, step27 hv.1 hv.2]
        refine ⟨(vin_iff (by omega)).mpr (by omega), ?_⟩
        intro s4 e4 s5 e5
        have f45 : gI s4 68 5 = nI (f + k) := by rw [e4, gI_uJ]; exact u5
        rw [f45, nI_1] at e5
        have hke2 : k + 1 ≤ fEd n tp f - f := by
          apply Nat.le_of_not_lt
          intro z
          have ee : f + k = fEd n tp f := by omega
          unfold fEd at ee
          rw [if_pos ⟨hf, hl⟩] at ee
          have := sk_st (P := isL) (n := n) (tp := tp) (i := f + 1) (Nat.le_refl _)
          rw [← ee] at this
          exact this e
        refine ih s5 (by omega) hke2 (hF.tr (by rw [e5, e4]; exact FN.uJ.tr (FN.uI (by omega)))) ?_ ?_ ?_ ?_
        · rw [e5, gI_uI, if_neg (by omega), e4, gI_uJ]; exact u7
        · rw [e5, gI_uI, if_pos ⟨rfl, rfl⟩]; congr 1
        · rw [e5, gI_uI, if_neg (by omega), e4, gI_uJ]; exact u10
        · rw [e5, gJ_uI, e4, gJ_uJ, if_pos ⟨rfl, rfl⟩]; rfl
  refine ⟨10, key 9 0 s1 (by omega) (by omega) (by rw [e1]; exact FN.uJ) (by rw [e1, gI_uJ]; exact h7) (by rw [e1, gI_uJ]; exact h5) (by rw [e1, gI_uJ]) (by rw [e1, gJ_uJ, if_pos ⟨rfl, rfl⟩]; rfl)⟩
theorem r_token {f : Nat} (h : TpR st n tp) (hf : f ≤ n) (h5 : gI st 68 5 = nI f) (h7 : gI st 68 7 = nI f)
    (hq : ∀ st', FN st st' → gI st' 68 7 = nI f → gI st' 68 10 = gI st 68 10 → (2 ≤ tkd0 n tp f → gI st' 68 5 = nI (fEd n tp f)) → (tkd0 n tp f = 3 → gI st' 68 8 = nI (cnum tp f (fEd n tp f - f))) → (tkd0 n tp f = 2 → gJ st' 68 9 = lN (c27 tp f (fEd n tp f - f))) → Q (nI (rkd (tkd0 n tp f))) st') : wX11_token 68 st Q := by
  have h2 := h.2.1
  unfold wX11_token
  rw [h5, h.1]
  refine ⟨fun q => ?_, fun q => ?_⟩
  · have hin : f < n := (nI_ltI (by omega) (by omega)).mp q
    refine r_let h (by omega) ?_
    rw [decide_eq_true hin, Bool.true_and]
    refine ⟨fun q2 => ?_, fun q2 => ?_⟩
    · have eL := bI0.mp q2
      rw [h5]
      refine r_dig h (by omega) ?_
      rw [decide_eq_true hin, Bool.true_and]
      refine ⟨fun q3 => ?_, fun q3 => ?_⟩
      · have eD := bI0.mp q3
        have kd0 : tkd0 n tp f = sgk (tp f) := by unfold tkd0; rw [if_neg (by omega), if_neg (by rw [eL]; decide), if_neg (by rw [eD]; decide)]
        have hb := h.2.2.2 f
        have hs := sb_c _ hb
        rw [h5, nI_clamp (by omega), h.2.2.1 f hin]
        refine ⟨(vin_iff (by omega)).mpr (by omega), ?_⟩
        rintro _ rfl
        intro s6 e6
        rw [nI_1] at e6
        have F6 : FN st s6 := by rw [e6]; exact FN.uI (by omega)
        have fin : Q (nI (rkd (tkd0 n tp f))) s6 := by
          refine hq s6 F6 (by rw [e6, gI_uI, if_neg (by omega)]; exact h7) (by rw [e6, gI_uI, if_neg (by omega)]) (fun _ => by rw [e6, gI_uI, if_pos ⟨rfl, rfl⟩, fEd_sign eL eD]) (fun z => ?_) (fun z => ?_)
          · rw [kd0] at z
            have := sgk_rg (v := tp f)
            omega
          · rw [kd0] at z
            have := sgk_rg (v := tp f)
            omega
        rw [kd0] at fin
        have yes : ∀ c, tp f = c → sgk c ≠ 1 → c < 128 → wX11_token_L196 68 (sb (tp f)) s6 Q := by
          intro c e hc hc1
          unfold wX11_token_L196
          rcases rkd_sgk _ hb with e2 | e2
          · rw [e] at e2; exact absurd e2 hc
          · rw [e2] at fin
            rw [sb_lo (by omega)]
            exact fin
        refine ⟨fun q4 => yes 40 (hs.2.2.1.mp q4) (by decide) (by omega), fun q4 => ⟨fun q5 => yes 41 (hs.2.2.2.1.mp q5) (by decide) (by omega), fun q5 => ⟨fun q6 => yes 59 (hs.2.2.2.2.1.mp q6) (by decide) (by omega), fun q6 => ⟨fun q7 => yes 44 (hs.2.2.2.2.2.1.mp q7) (by decide) (by omega), fun q7 => ⟨fun q8 => yes 60 (hs.2.2.2.2.2.2.1.mp q8) (by decide) (by omega), fun q8 => ⟨fun q9 => yes 62 (hs.2.2.2.2.2.2.2.1.mp q9) (by decide) (by omega), fun q9 => ⟨fun q10 => ?_, fun q10 => yes 61 (hs.2.2.2.2.2.2.2.2.mp q10) (by decide) (by omega)⟩⟩⟩⟩⟩⟩⟩
        have : sgk (tp f) = 1 := by
          unfold sgk
          rw [if_neg (fun e => q4 (hs.2.2.1.mpr e)), if_neg (fun e => q5 (hs.2.2.2.1.mpr e)), if_neg (fun e => q6 (hs.2.2.2.2.1.mpr e)), if_neg (fun e => q7 (hs.2.2.2.2.2.1.mpr e)), if_neg (fun e => q8 (hs.2.2.2.2.2.2.1.mpr e)), if_neg (fun e => q10 (hs.2.2.2.2.2.2.2.2.mpr e)), if_neg (fun e => q9 (hs.2.2.2.2.2.2.2.1.mpr e))]
        rw [this] at fin
        exact fin
      · have eD := (Bool.not_eq_false _).mp (fun e => q3 (bI0.mpr e))
        obtain ⟨f1, f2, f3⟩ := fEd_num hin eL eD
        have kd0 : tkd0 n tp f = if 3 < fEd n tp f - f then 1 else 3 := by unfold tkd0; rw [if_neg (by omega), if_neg (by rw [eL]; decide), if_pos eD]
        intro s1 e1
        have L112 : ∀ k u, k ≤ 4 → (k = fEd n tp f - f ∨ (k = 4 ∧ 4 ≤ fEd n tp f - f)) → FN st u → gI u 68 7 = nI f → gI u 68 5 = nI (f + k) → gI u 68 10 = gI st 68 10 → gI u 68 8 = nI (cnum tp f k) → wX11_token_L112 68 u Q := by
          intro k u hk hke hF u7 u5 u10 u8
          unfold wX11_token_L112
          rw [u7, u5, pk_sub (by omega), show f + k - f = k from by omega]
          refine ⟨fun z => ?_, fun z => ?_⟩
          · have hk8 := (nI_leI (b := 3) (by omega) (by omega)).mp z
            have e : k = fEd n tp f - f := by omega
            have := hq u hF u7 u10 (fun _ => by rw [u5]; congr 1; omega) (fun _ => by rw [u8, e]) (fun y => by rw [kd0, if_neg (by omega)] at y; omega)
            rw [kd0, if_neg (by omega)] at this
            exact this
          · have hk8 : ¬ k ≤ 3 := fun y => z (nI_le (b := 3) y (by omega))
            have := hq u hF u7 u10 (fun y => by rw [kd0, if_pos (by omega)] at y; omega) (fun y => by rw [kd0, if_pos (by omega)] at y; omega) (fun y => by rw [kd0, if_pos (by omega)] at y; omega)
            rw [kd0, if_pos (by omega)] at this
            exact this
        have key : ∀ (d k : Nat) (u : St), k + d = 4 → k ≤ fEd n tp f - f → FN st u → gI u 68 7 = nI f → gI u 68 5 = nI (f + k) → gI u 68 10 = gI st 68 10 → gI u 68 8 = nI (cnum tp f k) → lp (fun R s => wX11_token_L48 68 R s Q) (d + 1) u := by
          intro d
          induction d with
          | zero =>
            intro k u hk hke hF u7 u5 u10 u8
            have ek : k = 4 := by omega
            subst ek
            show wX11_token_L48 68 _ u Q
            unfold wX11_token_L48
            rw [u5]
            refine r_dig (h.fn hF) (by omega) ⟨fun z => ?_, fun z => ⟨fun _ => L112 4 u (by omega) (Or.inr ⟨rfl, hke⟩) hF u7 u5 u10 u8, fun z2 => ?_⟩⟩
            · exact L112 4 u (by omega) (Or.inr ⟨rfl, hke⟩) hF u7 u5 u10 u8
            · rw [u7, u5, pk_sub (by omega), show f + 4 - f = 4 from by omega] at z2
              exact absurd (nI_le (Nat.le_refl 4) (by omega)) z2
          | succ d ih =>
            intro k u hk hke hF u7 u5 u10 u8
            have ih := ih (k + 1)
            show wX11_token_L48 68 (lp (fun R s => wX11_token_L48 68 R s Q) (d + 1)) u Q
            generalize lp (fun R s => wX11_token_L48 68 R s Q) (d + 1) = RR at ih ⊢
            unfold wX11_token_L48
            rw [u5]
            refine r_dig (h.fn hF) (by omega) ⟨fun z => ?_, fun z => ⟨fun z2 => ?_, fun _ => ?_⟩⟩
            · refine L112 k u (by omega) (Or.inl ?_) hF u7 u5 u10 u8
              apply Nat.le_antisymm hke
              apply Nat.le_of_not_lt
              intro y
              have e := bI0.mp z
              rw [decide_eq_true (p := f + k < n) (by omega), isD_iff.mpr (f3 k y)] at e
              cases e
            · rw [u7, u5, pk_sub (by omega), show f + k - f = k from by omega] at z2
              have := (nI_leI (a := 4) (by omega) (by omega)).mp z2
              omega
            · have e := (Bool.not_eq_false _).mp (fun e => z (bI0.mpr e))
              rw [Bool.and_eq_true, decide_eq_true_iff] at e
              have hv := isD_iff.mp e.2
              rw [u5, nI_clamp (by omega), show gI u 55 (f + k) = nI (tp (f + k)) from by rw [(h.fn hF).2.2.1 _ e.1, sb_lo (by omega)], u8, show (10 : Int32) * nI (cnum tp f k) = nI (10 * cnum tp f k) from pk_mul 10 _, nI_add, show nI (10 * cnum tp f k + tp (f + k)) - 48 = nI (10 * cnum tp f k + tp (f + k) - 48) from pk_sub (b := 48) (by omega)]
              refine ⟨(vin_iff (by omega)).mpr (by omega), ?_⟩
              intro s4 e4 s5 e5
              have f45 : gI s4 68 5 = nI (f + k) := by rw [e4, gI_uI, if_neg (by omega)]; exact u5
              rw [f45, nI_1] at e5
              have hke2 : k + 1 ≤ fEd n tp f - f := by
                apply Nat.le_of_not_lt
                intro y
                have ee : f + k = fEd n tp f := by omega
                unfold fEd at ee
                rw [if_neg (fun w => by rw [eL] at w; cases w.2), if_pos ⟨hin, eD⟩] at ee
                have := sk_st (P := isD) (n := n) (tp := tp) (i := f + 1) (Nat.le_refl _)
                rw [← ee] at this
                exact this e
              refine ih s5 (by omega) hke2 (hF.tr (by rw [e5, e4]; exact (FN.uI (by omega)).tr (FN.uI (by omega)))) ?_ ?_ ?_ ?_
              · rw [e5, gI_uI, if_neg (by omega), e4, gI_uI, if_neg (by omega)]; exact u7
              · rw [e5, gI_uI, if_pos ⟨rfl, rfl⟩]; congr 1
              · rw [e5, gI_uI, if_neg (by omega), e4, gI_uI, if_neg (by omega)]; exact u10
              · rw [e5, gI_uI, if_neg (by omega), e4, gI_uI, if_pos ⟨rfl, rfl⟩]
                show _ = nI (cnum tp f k * 10 + tp (f + k) - 48)
                congr 1; omega
        refine ⟨5, key 4 0 s1 (by omega) (by omega) (by rw [e1]; exact FN.uI (by omega)) (by rw [e1, gI_uI, if_neg (by omega)]; exact h7) (by rw [e1, gI_uI, if_neg (by omega)]; exact h5) (by rw [e1, gI_uI, if_neg (by omega)]) (by rw [e1, gI_uI, if_pos ⟨rfl, rfl⟩]; rfl)⟩
    · have eL := (Bool.not_eq_false _).mp (fun e => q2 (bI0.mpr e))
      refine r_word h hin eL h5 h7 (fun st' hF u7 u10 hu => ?_)
      have kd0 : tkd0 n tp f = if 8 < fEd n tp f - f then 1 else kwd (c27 tp f (fEd n tp f - f)) := by unfold tkd0; rw [if_neg (by omega), if_pos eL]
      refine hq st' hF u7 u10 (fun z => ?_) (fun z => ?_) (fun z => ?_)
      · by_cases y : fEd n tp f - f ≤ 8
        · exact (hu y).1
        · rw [kd0, if_pos (by omega)] at z; omega
      · have := (tkd0_3 z).2.1
        rw [eL] at this; cases this
      · exact (hu (tkd0_2 z).2.2).2
  · have hge : n ≤ f := Nat.le_of_not_lt (fun z => q (nI_lt z (by omega)))
    have kd0 : tkd0 n tp f = 0 := by unfold tkd0; rw [if_pos hge]
    have := hq st FN.rf h7 rfl (fun z => by rw [kd0] at z; omega) (fun z => by rw [kd0] at z; omega) (fun z => by rw [kd0] at z; omega)
    rw [kd0] at this
    exact this
/-- the reader stands at token t -/
def RS (n : Nat) (tp : Nat → Nat) (t : Nat) (st : St) : Prop := gI st 68 6 = nI (rkd (tkd n tp t)) ∧ gI st 68 7 = nI (tfr n tp t) ∧ (tkd n tp t = 3 → gI st 68 8 = nI (tnum n tp t)) ∧ (tkd n tp t = 2 → gJ st 68 9 = lN (twd n tp t)) ∧ gI st 68 10 = nI (t + 1) ∧ (2 ≤ tkd n tp t → gI st 68 5 = nI (tps n tp (t + 1)))
theorem r_next {t : Nat} (h : TpR st n tp) (ht : t ≤ 400) (hall : ∀ j, j < t → 2 ≤ tkd n tp j) (h5 : gI st 68 5 = nI (tps n tp t)) (h10 : gI st 68 10 = nI t) (hq : ∀ st', FN st st' → RS n tp t st' → Qv st') : wX11_next 68 st Qv := by
  unfold wX11_next
  have h2 := h.2.1
  have p1 := tps_le hall
  have p2 := tfr_le hall
  have L61 : ∀ u, FN st u → gI u 68 5 = nI (tfr n tp t) → gI u 68 10 = nI t → wX11_next_L61 68 u Qv := by
    intro u hF u5 u10
    unfold wX11_next_L61
    intro s1 e1
    rw [u5] at e1
    have F1 : FN u s1 := by rw [e1]; exact FN.uI (by omega)
    refine r_token (h.fn (hF.tr F1)) p2.2 (by rw [e1, gI_uI, if_neg (by omega)]; exact u5) (by rw [e1, gI_uI, if_pos ⟨rfl, rfl⟩]) (fun s2 F2 a7 a10 a5 a8 aj => ?_)
    have b10 : gI s2 68 10 = nI t := by rw [a10, e1, gI_uI, if_neg (by omega)]; exact u10
    have rg := tkd0_rg (n := n) (tp := tp) (i := tfr n tp t)
    have rl := rkd_lt rg
    intro s4 e4
    have L99 : ∀ (s5 : St) (kd : Nat), (s5 = s4 ∨ s5 = uI s4 68 6 1) → gI s5 68 6 = nI (rkd kd) → kd = tkd n tp t → (kd = tkd0 n tp (tfr n tp t) ∨ kd < 2) → wX11_next_L99 68 s5 Qv := by
      intro s5 kd e5 g6 hkd hk0
      unfold wX11_next_L99
      have F5 : FN s2 s5 := by
        rcases e5 with e5 | e5
        · rw [e5, e4]; exact FN.uI (by omega)
        · rw [e5, e4]; exact (FN.uI (by omega)).tr (FN.uI (by omega))
      have same : ∀ j, j ≠ 6 → gI s5 68 j = gI s2 68 j := by
        intro j hj
        rcases e5 with e5 | e5
        · rw [e5, e4, gI_uI, if_neg (fun z => hj z.2)]
        · rw [e5, gI_uI, if_neg (fun z => hj z.2), e4, gI_uI, if_neg (fun z => hj z.2)]
      have sameJ : gJ s5 68 9 = gJ s2 68 9 := by
        rcases e5 with e5 | e5
        · rw [e5, e4, gJ_uI]
        · rw [e5, gJ_uI, e4, gJ_uI]
      rw [same 10 (by omega), b10, nI_1]
      intro s7 e7
      refine hq s7 (hF.tr (F1.tr (F2.tr (F5.tr (by rw [e7]; exact FN.uI (by omega)))))) ⟨?_, ?_, fun z => ?_, fun z => ?_, ?_, fun z => ?_⟩
      · rw [e7, gI_uI, if_neg (by omega), g6, hkd]
      · rw [e7, gI_uI, if_neg (by omega), same 7 (by omega)]; exact a7
      · rw [e7, gI_uI, if_neg (by omega), same 8 (by omega)]
        have zz := z
        rw [← hkd] at z
        rcases hk0 with y | y
        · rw [a8 (by rw [← y]; exact z)]
          unfold tnum
          rw [if_pos zz]
        · omega
      · rw [e7, gJ_uI, sameJ]
        have zz := z
        rw [← hkd] at z
        rcases hk0 with y | y
        · rw [aj (by rw [← y]; exact z)]
          unfold twd
          rw [if_pos zz]
        · omega
      · rw [e7, gI_uI, if_pos ⟨rfl, rfl⟩]
      · rw [e7, gI_uI, if_neg (by omega), same 5 (by omega)]
        rw [← hkd] at z
        rcases hk0 with y | y
        · rw [a5 (by rw [← y]; exact z)]; rfl
        · omega
    have g46 : gI s4 68 6 = nI (rkd (tkd0 n tp (tfr n tp t))) := by rw [e4, gI_uI, if_pos ⟨rfl, rfl⟩]
    have g410 : gI s4 68 10 = nI t := by rw [e4, gI_uI, if_neg (by omega)]; exact b10
    rw [g46, g410]
    refine ⟨fun z => ?_, fun z => ⟨fun z2 => ?_, fun z2 => ?_⟩⟩
    · have e0 : rkd (tkd0 n tp (tfr n tp t)) = 0 := (nI_eq (b := 0) (by omega) (by omega)).mp z
      have k0 : tkd0 n tp (tfr n tp t) = 0 := rkd_inj _ (by omega) 0 (by omega) (by rw [e0]; rfl)
      have hge : n ≤ tfr n tp t := by
        apply Nat.le_of_not_lt
        intro y
        unfold tkd0 at k0
        rw [if_neg (by omega)] at k0
        have := kwd_rg (w := c27 tp (tfr n tp t) (fEd n tp (tfr n tp t) - tfr n tp t))
        have := sgk_rg (v := tp (tfr n tp t))
        split at k0
        · split at k0 <;> omega
        split at k0
        · split at k0 <;> omega
        · omega
      exact L99 s4 _ (Or.inl rfl) g46 (by unfold tkd; rw [if_pos (Or.inr hge)]) (Or.inl rfl)
    · have h4 : t ≠ 400 := fun y => z2 (by rw [y]; rfl)
      exact L99 s4 _ (Or.inl rfl) g46 (by unfold tkd; rw [if_pos (Or.inl (by omega))]) (Or.inl rfl)
    · have h4 : t = 400 := (nI_eq (b := 400) (by omega) (by omega)).mp z2
      intro s5 e5
      have hlt : ¬ n ≤ tfr n tp t := by
        intro y
        apply z
        unfold tkd0
        rw [if_pos y]; rfl
      refine L99 s5 1 (Or.inr e5) (by rw [e5, gI_uI, if_pos ⟨rfl, rfl⟩]; rfl) ?_ (Or.inr (by omega))
      unfold tkd
      rw [if_neg (by omega)]
  have key : ∀ (d i : Nat) (u : St), n - i ≤ d → i ≤ n → FN st u → gI u 68 5 = nI i → gI u 68 10 = nI t → sk isB n tp i = tfr n tp t → lp (fun R s => wX11_next_L0 68 R s Qv) (d + 1) u := by
    intro d
    induction d with
    | zero =>
      intro i u hd hi hF u5 u10 hs
      show wX11_next_L0 68 _ u Qv
      unfold wX11_next_L0
      rw [u5, (h.fn hF).1]
      have e : i = tfr n tp t := by rw [← hs, sk_un, if_neg (fun z => by omega)]
      exact ⟨fun _ => L61 u hF (by rw [u5, e]) u10, fun z => absurd (nI_le (by omega) (by omega)) z⟩
    | succ d ih =>
      intro i u hd hi hF u5 u10 hs
      have ih := ih (i + 1)
      show wX11_next_L0 68 (lp (fun R s => wX11_next_L0 68 R s Qv) (d + 1)) u Qv
      generalize lp (fun R s => wX11_next_L0 68 R s Qv) (d + 1) = RR at ih ⊢
      unfold wX11_next_L0 wX11_next_L48
      have hu := h.fn hF
      rw [u5, hu.1]
      rw [sk_un] at hs
      refine ⟨fun z => ?_, fun z => ?_⟩
      · have := (nI_leI (by omega) (by omega)).mp z
        rw [if_neg (fun y => by omega)] at hs
        exact L61 u hF (by rw [u5, hs]) u10
      · have hin : i < n := Nat.lt_of_not_le (fun y => z (nI_le y (by omega)))
        have v1 : vp_in (nI i) 1600 := (vin_iff (by omega)).mpr (by omega)
        rw [nI_clamp (by omega), hu.2.2.1 i hin]
        have hb := hu.2.2.2 i
        have hsb := sb_c _ hb
        have go : isB (tp i) = true → ∀ s6 : St, s6 = uI u 68 5 (nI i + 1) → RR s6 := by
          intro e s6 e6
          rw [if_pos ⟨hin, e⟩] at hs
          rw [nI_1] at e6
          exact ih s6 (by omega) (by omega) (hF.tr (by rw [e6]; exact FN.uI (by omega))) (by rw [e6, gI_uI, if_pos ⟨rfl, rfl⟩]) (by rw [e6, gI_uI, if_neg (by omega)]; exact u10) hs
        refine ⟨v1, fun q2 => go (isB_iff.mpr (Or.inl (hsb.1.mp q2))), fun q2 => ⟨v1, fun q3 => ?_, fun q3 => go (isB_iff.mpr (Or.inr (hsb.2.1.mp q3)))⟩⟩
        rw [if_neg (fun y => by
          rcases isB_iff.mp y.2 with e | e
          · exact q2 (hsb.1.mpr e)
          · exact q3 (hsb.2.1.mpr e))] at hs
        exact L61 u hF (by rw [u5, hs]) u10
  exact ⟨_, key _ (tps n tp t) st (Nat.le_refl _) p1 FN.rf h5 h10 rfl⟩
end RTK

/-! the class's scan of the tape; the reference's tokens -/
theorem gR_uR (st : St) (c j v : Nat) (d k : Nat) : gR (uR st c j v) d k = if d = c ∧ k = j then v else gR st d k := by
  simp only [gR, uR, sR, sw]
  by_cases h : d = c <;> by_cases h2 : k = j <;> simp [h, h2, va_up]
/-- the places of objects that may change -/
def XR (d j : Nat) : Prop := (d = 0 ∧ (j = 6 ∨ j = 7)) ∨ (d = 3 ∧ j ≤ 1) ∨ d = 16
/-- cells outside P stay whole -/
def FP (P : Nat → Prop) (st st' : St) : Prop := (∀ d, ¬ P d → st'.1 d = st.1 d ∧ st'.2.1 d = st.2.1 d ∧ st'.2.2.1 d = st.2.2.1 d ∧ st'.2.2.2 d = st.2.2.2 d) ∧ ∀ d j, ¬ XR d j → gR st' d j = gR st d j
theorem FP.rf {P : Nat → Prop} {st : St} : FP P st st := ⟨fun _ _ => ⟨rfl, rfl, rfl, rfl⟩, fun _ _ _ => rfl⟩
theorem FP.tr {P : Nat → Prop} {s1 s2 s3 : St} (h : FP P s1 s2) (h2 : FP P s2 s3) : FP P s1 s3 := ⟨fun d hd => ⟨(h2.1 d hd).1.trans (h.1 d hd).1, (h2.1 d hd).2.1.trans (h.1 d hd).2.1, (h2.1 d hd).2.2.1.trans (h.1 d hd).2.2.1, (h2.1 d hd).2.2.2.trans (h.1 d hd).2.2.2⟩, fun d j q => (h2.2 d j q).trans (h.2 d j q)⟩
theorem FP.mo {P P2 : Nat → Prop} {s1 s2 : St} (h : FP P s1 s2) (hp : ∀ d, P d → P2 d) : FP P2 s1 s2 := ⟨fun d hd => h.1 d (fun q => hd (hp d q)), h.2⟩
theorem FP.uI {P : Nat → Prop} {st : St} {c j : Nat} {v : Int32} (h : P c) : FP P st (uI st c j v) := ⟨fun d hd => ⟨if_neg (fun e : d = c => hd (by rw [e]; exact h)), rfl, rfl, rfl⟩, fun _ _ _ => rfl⟩
theorem FP.uJ {P : Nat → Prop} {st : St} {c j : Nat} {v : Int64} (h : P c) : FP P st (uJ st c j v) := ⟨fun d hd => ⟨rfl, if_neg (fun e : d = c => hd (by rw [e]; exact h)), rfl, rfl⟩, fun _ _ _ => rfl⟩
theorem FP.uK {P : Nat → Prop} {st : St} {c j : Nat} {v : Option Nat} (h : P c) : FP P st (uK st c j v) := ⟨fun d hd => ⟨rfl, rfl, if_neg (fun e : d = c => hd (by rw [e]; exact h)), rfl⟩, fun _ _ _ => rfl⟩
theorem FP.uR {P : Nat → Prop} {st : St} {c j v : Nat} (h : P c) (hx : XR c j) : FP P st (uR st c j v) := ⟨fun d hd => ⟨rfl, rfl, rfl, if_neg (fun e : d = c => hd (by rw [e]; exact h))⟩, fun d k q => by rw [gR_uR, if_neg (fun e => q (by rw [e.1, e.2]; exact hx))]⟩
theorem FP.gI {P : Nat → Prop} {st st' : St} (h : FP P st st') {d k : Nat} (hd : ¬ P d) : gI st' d k = gI st d k := congrFun (h.1 d hd).1 k
theorem FP.gJ {P : Nat → Prop} {st st' : St} (h : FP P st st') {d k : Nat} (hd : ¬ P d) : gJ st' d k = gJ st d k := congrFun (h.1 d hd).2.1 k
theorem FP.gK {P : Nat → Prop} {st st' : St} (h : FP P st st') {d k : Nat} (hd : ¬ P d) : gK st' d k = gK st d k := congrFun (h.1 d hd).2.2.1 k
theorem FP.gR {P : Nat → Prop} {st st' : St} (h : FP P st st') {d k : Nat} (hd : ¬ P d) : gR st' d k = gR st d k := congrFun (h.1 d hd).2.2.2 k
theorem FI.fp {P : Nat → Prop} {s1 s2 : St} (h : FI P s1 s2) : FP P s1 s2 := ⟨fun d hd => ⟨h.2 d hd, congrArg (fun z : (Nat → Nat → Int64) × (Nat → Nat → Option Nat) × (Nat → Nat → Nat) => z.1 d) h.1, congrArg (fun z : (Nat → Nat → Int64) × (Nat → Nat → Option Nat) × (Nat → Nat → Nat) => z.2.1 d) h.1, congrArg (fun z : (Nat → Nat → Int64) × (Nat → Nat → Option Nat) × (Nat → Nat → Nat) => z.2.2 d) h.1⟩, fun _ _ _ => h.gR⟩
theorem FG.fp {P : Nat → Prop} {s1 s2 : St} (h : FG P s1 s2) (h16 : P 16) : FP P s1 s2 := ⟨fun d hd => ⟨h.2.2.2 d hd, congrFun h.1 d, congrFun h.2.1 d, funext (fun j => h.2.2.1 d j (fun e => hd (by rw [e]; exact h16)))⟩, fun d j q => h.2.2.1 d j (fun e => q (Or.inr (Or.inr e)))⟩
theorem gJ_uJ (st : St) (c j : Nat) (v : Int64) (d k : Nat) : gJ (uJ st c j v) d k = if d = c ∧ k = j then v else gJ st d k := by
  simp only [gJ, uJ, sJ, sw]
  by_cases h : d = c <;> by_cases h2 : k = j <;> simp [h, h2, va_up]
theorem gK_uK (st : St) (c j : Nat) (v : Option Nat) (d k : Nat) : gK (uK st c j v) d k = if d = c ∧ k = j then v else gK st d k := by
  simp only [gK, uK, sK, sw]
  by_cases h : d = c <;> by_cases h2 : k = j <;> simp [h, h2, va_up]
theorem gJ_uK (st : St) (c j : Nat) (v : Option Nat) (d k : Nat) : gJ (uK st c j v) d k = gJ st d k := rfl
theorem gJ_uR (st : St) (c j v : Nat) (d k : Nat) : gJ (uR st c j v) d k = gJ st d k := rfl
theorem gK_uJ (st : St) (c j : Nat) (v : Int64) (d k : Nat) : gK (uJ st c j v) d k = gK st d k := rfl
theorem gK_uR (st : St) (c j v : Nat) (d k : Nat) : gK (uR st c j v) d k = gK st d k := rfl
theorem gR_uJ (st : St) (c j : Nat) (v : Int64) (d k : Nat) : gR (uJ st c j v) d k = gR st d k := rfl
theorem gR_uK (st : St) (c j : Nat) (v : Option Nat) (d k : Nat) : gR (uK st c j v) d k = gR st d k := rfl
section SC
variable {B n : Nat} {tp : Nat → Nat} {st st' : St} {Q : Int32 → St → Prop} {Qv : St → Prop} {Qk : Option Nat → St → Prop} {Qj : Int64 → St → Prop}
theorem kwd_rg {w : Nat} : kwd w = 2 ∨ (11 ≤ kwd w ∧ kwd w ≤ 36) := by
  unfold kwd
  cases h : fFind (fun k => decide (w27 k = w)) 26 with
  | none => exact Or.inl rfl
  | some k => have := (fFind_some h).1; exact Or.inr ⟨by show 11 ≤ 11 + k; omega, by show 11 + k ≤ 36; omega⟩
theorem sgk_rg {v : Nat} : sgk v = 1 ∨ (4 ≤ sgk v ∧ sgk v ≤ 10) := by
  unfold sgk
  (repeat' split) <;> omega
theorem tkd0_rg {i : Nat} : tkd0 n tp i ≤ 36 := by
  unfold tkd0
  have := kwd_rg (w := c27 tp i (fEd n tp i - i))
  have := sgk_rg (v := tp i)
  (repeat' split) <;> omega
theorem tkd_rg {t : Nat} : tkd n tp t ≤ 36 := by
  unfold tkd
  split
  · exact tkd0_rg
  · omega
theorem tkd0_3 {i : Nat} (h : tkd0 n tp i = 3) : i < n ∧ isL (tp i) = false ∧ isD (tp i) = true ∧ fEd n tp i - i ≤ 3 := by
  unfold tkd0 at h
  have := kwd_rg (w := c27 tp i (fEd n tp i - i))
  have := sgk_rg (v := tp i)
  split at h
  · omega
  split at h
  · split at h <;> omega
  split at h
  · next q1 q2 q3 =>
    split at h
    · omega
    · exact ⟨by omega, (Bool.not_eq_true _).mp q2, q3, by omega⟩
  · omega
theorem tkd0_2 {i : Nat} (h : tkd0 n tp i = 2) : i < n ∧ isL (tp i) = true ∧ fEd n tp i - i ≤ 8 := by
  unfold tkd0 at h
  have := sgk_rg (v := tp i)
  split at h
  · omega
  split at h
  · next q1 q2 =>
    split at h
    · omega
    · exact ⟨by omega, q2, by omega⟩
  split at h
  · split at h <;> omega
  · omega
theorem fEd_le {i : Nat} (h : i < n) : i < fEd n tp i ∧ fEd n tp i ≤ n := by
  cases hL : isL (tp i) with
  | true => exact ⟨(fEd_word h hL).1, (fEd_word h hL).2.1⟩
  | false =>
    cases hD : isD (tp i) with
    | true => exact ⟨(fEd_num h hL hD).1, (fEd_num h hL hD).2.1⟩
    | false => rw [fEd_sign hL hD]; omega
theorem tkd_in {t : Nat} (h : 2 ≤ tkd n tp t) : tfr n tp t < n ∧ t < 400 ∧ tkd n tp t = tkd0 n tp (tfr n tp t) := by
  unfold tkd at h ⊢
  split at h
  · next q =>
    rw [if_pos q]
    have : tfr n tp t < n := by
      unfold tkd0 at h
      split at h
      · omega
      · omega
    exact ⟨this, by omega, rfl⟩
  · omega
theorem tps_le {t : Nat} (h : ∀ j, j < t → 2 ≤ tkd n tp j) : tps n tp t ≤ n := by
  cases t with
  | zero => exact Nat.zero_le _
  | succ t =>
    have := tkd_in (h t (by omega))
    exact (fEd_le this.1).2
theorem tfr_le {t : Nat} (h : ∀ j, j < t → 2 ≤ tkd n tp j) : tps n tp t ≤ tfr n tp t ∧ tfr n tp t ≤ n := by
  have h1 := tps_le h
  have h2 := sk_ge (P := isB) (tp := tp) (n := n) (i := tps n tp t) (Nat.le_refl _)
  have h3 := sk_le (P := isB) (tp := tp) (n := n) (i := tps n tp t) (Nat.le_refl _)
  unfold tfr
  exact ⟨h2, by omega⟩
theorem twd_vw {t : Nat} : vw (twd n tp t) := by
  unfold twd
  split
  · next q =>
    have hi := tkd_in (n := n) (tp := tp) (t := t) (by omega)
    rw [hi.2.2] at q
    obtain ⟨a, b, c⟩ := tkd0_2 q
    obtain ⟨f1, f2, f3⟩ := fEd_word a b
    exact (vw_c (by omega) c f3).1
  · exact Or.inl rfl
theorem twd_nz {t : Nat} (h : tkd n tp t = 2) : twd n tp t ≠ 0 ∧ gw (twd n tp t) = c128 tp (tfr n tp t) (fEd n tp (tfr n tp t) - tfr n tp t) := by
  unfold twd
  rw [if_pos h]
  have hi := tkd_in (n := n) (tp := tp) (t := t) (by omega)
  rw [hi.2.2] at h
  obtain ⟨a, b, c⟩ := tkd0_2 h
  obtain ⟨f1, f2, f3⟩ := fEd_word a b
  obtain ⟨v1, v2, v3⟩ := vw_c (by omega) c f3
  refine ⟨v2, ?_⟩
  unfold gw
  rw [if_neg v2, v3]
theorem tnum_lt {t : Nat} : tnum n tp t < 1000 := by
  unfold tnum
  split
  · next q =>
    have hi := tkd_in (n := n) (tp := tp) (t := t) (by omega)
    rw [hi.2.2] at q
    obtain ⟨a, b, c, d⟩ := tkd0_3 q
    obtain ⟨f1, f2, f3⟩ := fEd_num a b c
    have h1 := cnum_lt f3
    have : 10 ^ (fEd n tp (tfr n tp t) - tfr n tp t) ≤ 10 ^ 3 := Nat.pow_le_pow_right (by omega) d
    omega
  · omega
/-- the class's tokens up to m -/
def TkC (B n : Nat) (tp : Nat → Nat) (m : Nat) (st : St) : Prop := ∀ j, j < m → gK st (B + 13) j = some (tkd n tp j) ∧ gI st (B + 14) j = nI (tfr n tp j) ∧ gI st (B + 15) j = nI (tnum n tp j) ∧ gJ st (B + 16) j = lN (gw (twd n tp j))
def PTk (B d : Nat) : Prop := B + 12 ≤ d ∧ d ≤ B + 16
theorem TpC.fp {P : Nat → Prop} (h : TpC st n tp) (hF : FP P st st') (h1 : ¬ P 1) (h2 : ¬ P 2) : TpC st' n tp := ⟨(hF.gI h1).trans h.1, h.2.1, fun i hi => (hF.gI h2).trans (h.2.2.1 i hi), h.2.2.2⟩
theorem c_scan (hB : 20 ≤ B) (h : TpC st n tp) (hq : ∀ st' L, FP (PTk B) st st' → (∀ j, j < L → 2 ≤ tkd n tp j) → tkd n tp L < 2 → L ≤ 400 → gI st' (B + 12) 4 = nI (L + 1) → TkC B n tp (L + 1) st' → Qv st') : wX7_scan (B + 12) 1 st Qv := by
  unfold wX7_scan
  have n1600 := h.2.1
  intro s0 e0
  have F0 : FP (PTk B) st s0 := by rw [e0]; exact FP.uI (by unfold PTk; omega)
  have key : ∀ (d t : Nat) (kd : Nat) (u : St), t + d = 401 → (∀ j, j < t → 2 ≤ tkd n tp j ∨ (j + 1 = t)) → (kd = if t = 0 then 2 else tkd n tp (t - 1)) → FP (PTk B) st u → gI u (B + 12) 4 = nI t → TkC B n tp t u → (t = 401 → kd < 2) → lp (fun R s => wX7_scan_L14 (B + 12) 1 R s.1 s.2.1 s.2.2.1 s.2.2.2 Qv) (d + 1) (nI (tps n tp t), some kd, nI t, u) := by
    intro d
    induction d with
    | zero =>
      intro t kd u ht hk hkd hF h4 hT h401
      have et : t = 401 := by omega
      subst et
      show wX7_scan_L14 (B + 12) 1 _ (nI (tps n tp 401)) (some kd) (nI 401) u Qv
      unfold wX7_scan_L14
      have hkl := h401 rfl
      rw [if_neg (by omega)] at hkd
      have hkd : kd = tkd n tp 400 := hkd
      exact ⟨fun _ => hq u 400 hF (fun j hj => by rcases hk j (by omega) with e | e; exact e; omega) (by omega) (by omega) h4 hT, fun q => absurd (nI_lt (a := 400) (b := 401) (by omega) (by omega)) q⟩
    | succ d ih =>
      intro t kd u ht hk hkd hF h4 hT h401
      have ih := ih (t + 1) (tkd n tp t)
      show wX7_scan_L14 (B + 12) 1 (lp (fun R s => wX7_scan_L14 (B + 12) 1 R s.1 s.2.1 s.2.2.1 s.2.2.2 Qv) (d + 1)) (nI (tps n tp t)) (some kd) (nI t) u Qv
      generalize lp (fun R s => wX7_scan_L14 (B + 12) 1 R s.1 s.2.1 s.2.2.1 s.2.2.2 Qv) (d + 1) = RR at ih ⊢
      have hk37 : kd < 37 := by
        rw [hkd]; split
        · omega
        · have := tkd_rg (n := n) (tp := tp) (t := t - 1); omega
      have stop : kd < 2 → Qv u := by
        intro hlt
        by_cases e : t = 0
        · rw [if_pos e] at hkd; omega
        · rw [if_neg e] at hkd
          exact hq u (t - 1) hF (fun j hj => by rcases hk j (by omega) with e2 | e2; exact e2; omega) (by omega) (by omega) (by rw [h4]; congr 1; omega) (by rw [show t - 1 + 1 = t from by omega]; exact hT)
      unfold wX7_scan_L14
      refine ⟨fun q => absurd ((nI_ltI (a := 400) (by omega) (by omega)).mp q) (by omega), fun _ => ⟨kin_l hk37, fun q => stop (by have := Option.some.inj q; omega), fun q => ⟨kin_l hk37, fun q2 => stop (by have := Option.some.inj q2; omega), fun q2 => ?_⟩⟩⟩
      have hge : 2 ≤ kd := by
        have a1 : kd ≠ 0 := fun e => q (by rw [e])
        have a2 : kd ≠ 1 := fun e => q2 (by rw [e])
        omega
      have hall : ∀ j, j < t → 2 ≤ tkd n tp j := by
        intro j hj
        rcases hk j hj with e | e
        · exact e
        · rw [if_neg (by omega)] at hkd
          rw [show j = t - 1 from by omega]; omega
      have hTu : TpC u n tp := h.fp hF (by unfold PTk; omega) (by unfold PTk; omega)
      have p1 := tps_le hall
      have p2 := tfr_le hall
      refine ⟨_, c_skip hTu _ (tps n tp t) (Nat.le_refl _) (by omega) ?_⟩
      refine c_findEnd hTu (show sk isB n tp (tps n tp t) ≤ 3000 from by unfold tfr at p2; omega) ?_
      have fe : fEd n tp (tfr n tp t) ≤ n + 1 := by
        by_cases q3 : tfr n tp t < n
        · have := (fEd_le (tp := tp) q3).2; omega
        · unfold fEd
          rw [if_neg (fun z => q3 z.1), if_neg (fun z => q3 z.1)]; omega
      -- the four rows
      have L78 : wX7_scan_L78 (B + 12) 1 RR (nI (tfr n tp t)) (nI t) (nI (fEd n tp (tfr n tp t))) (some (tkd n tp t)) u Qv := by
        have hk2 : tkd n tp t < 37 := by have := tkd_rg (n := n) (tp := tp) (t := t); omega
        have ct : (nI t).toNatClampNeg = t := nI_clamp (by omega)
        have vt : vp_in (nI t) 401 := (vin_iff (by omega)).mpr (by omega)
        unfold wX7_scan_L78
        refine ⟨vt, kin_l hk2, ?_⟩
        rw [ct]
        intro s1 e1
        refine ⟨vt, ?_⟩
        intro s2 e2
        have F2 : FP (PTk B) u s2 := by rw [e2, e1]; exact (FP.uK (by unfold PTk; omega)).tr (FP.uI (by unfold PTk; omega))
        have L144 : ∀ (s3 : St), (∃ z, s3 = uI s2 (B + 12 + 3) t z ∧ z = nI (tnum n tp t)) → ∀ j : Int64, j = lN (gw (twd n tp t)) → wX7_scan_L144 (B + 12) 1 RR (some (tkd n tp t)) (nI t) (nI (fEd n tp (tfr n tp t))) j (nI t) s3 Qv := by
          rintro s3 ⟨z, e3, ez⟩ j ej
          unfold wX7_scan_L144
          refine ⟨vt, ?_⟩
          rw [ct]
          intro s4 e4 s5 e5
          rintro _ rfl
          rw [nI_1]
          have F5 : FP (PTk B) u s5 := by rw [e5, e4, e3]; exact ((F2.tr (FP.uI (by unfold PTk; omega))).tr (FP.uJ (by unfold PTk; omega))).tr (FP.uI (by unfold PTk; omega))
          refine ih s5 (by omega) (fun i hi => ?_) (by rw [if_neg (by omega)]; rfl) (hF.tr F5) ?_ (fun i hi => ?_) (fun e => ?_)
          · by_cases e : i = t
            · exact Or.inr (by omega)
            · exact Or.inl (hall i (by omega))
          · rw [e5, gI_uI, if_pos ⟨rfl, rfl⟩]; exact nI_1 t
          · by_cases e : i = t
            · rw [e]
              refine ⟨?_, ?_, ?_, ?_⟩
              · rw [e5, gK_uI, e4, gK_uJ, e3, gK_uI, e2, gK_uI, e1, gK_uK, if_pos ⟨rfl, rfl⟩]
              · rw [e5, gI_uI, if_neg (by omega), e4, gI_uJ, e3, gI_uI, if_neg (by omega), e2, gI_uI, if_pos ⟨rfl, rfl⟩]
              · rw [e5, gI_uI, if_neg (by omega), e4, gI_uJ, e3, gI_uI, if_pos ⟨rfl, rfl⟩, ez]
              · rw [e5, gJ_uI, e4, gJ_uJ, if_pos ⟨rfl, rfl⟩, ej]
            · obtain ⟨g1, g2, g3, g4⟩ := hT i (by omega)
              refine ⟨?_, ?_, ?_, ?_⟩
              · rw [e5, gK_uI, e4, gK_uJ, e3, gK_uI, e2, gK_uI, e1, gK_uK, if_neg (fun z => e z.2)]; exact g1
              · rw [e5, gI_uI, if_neg (by omega), e4, gI_uJ, e3, gI_uI, if_neg (by omega), e2, gI_uI, if_neg (fun z => e z.2), e1, gI_uK]; exact g2
              · rw [e5, gI_uI, if_neg (by omega), e4, gI_uJ, e3, gI_uI, if_neg (fun z => e z.2), e2, gI_uI, if_neg (by omega), e1, gI_uK]; exact g3
              · rw [e5, gJ_uI, e4, gJ_uJ, if_neg (fun z => e z.2), e3, gJ_uI, e2, gJ_uI, e1, gJ_uK]; exact g4
          · have et : t = 400 := by omega
            subst et
            unfold tkd
            by_cases q3 : n ≤ tfr n tp 400
            · rw [if_pos (Or.inr q3)]
              unfold tkd0
              rw [if_pos q3]; omega
            · rw [if_neg (by omega)]; omega
        have L119 : ∀ z : Int32, z = nI (tnum n tp t) → wX7_scan_L119 (B + 12) 1 RR (nI (tfr n tp t)) (some (tkd n tp t)) (nI t) (nI (fEd n tp (tfr n tp t))) z (nI t) s2 Qv := by
          intro z hz
          unfold wX7_scan_L119
          refine ⟨vt, ?_⟩
          rw [ct]
          intro s3 e3
          refine ⟨kin_l hk2, fun q3 => ?_, fun q3 => ?_⟩
          · refine L144 s3 ⟨z, e3, hz⟩ 0 ?_
            have : twd n tp t = 0 := by unfold twd; rw [if_neg (fun e => q3 (by rw [e]))]
            rw [this]; rfl
          · have q4 : tkd n tp t = 2 := Option.some.inj q3
            have hi := tkd_in (n := n) (tp := tp) (t := t) (by omega)
            have F3 : FP (PTk B) u s3 := by rw [e3]; exact F2.tr (FP.uI (by unfold PTk; omega))
            have hT3 : TpC s3 n tp := hTu.fp F3 (by unfold PTk; omega) (by unfold PTk; omega)
            refine c_code hT3 (fEd_le hi.1).2 (Nat.le_of_lt (fEd_le hi.1).1) ?_
            exact L144 s3 ⟨z, e3, hz⟩ _ (by rw [(twd_nz q4).2])
        refine ⟨kin_l hk2, fun q3 => ?_, fun q3 => ?_⟩
        · refine L119 0 ?_
          have : tnum n tp t = 0 := by unfold tnum; rw [if_neg (fun e => q3 (by rw [e]))]
          rw [this]; rfl
        · have q4 : tkd n tp t = 3 := Option.some.inj q3
          have hi := tkd_in (n := n) (tp := tp) (t := t) (by omega)
          have q5 := q4
          rw [hi.2.2] at q5
          obtain ⟨a, b, c, dd⟩ := tkd0_3 q5
          obtain ⟨f1, f2, f3⟩ := fEd_num a b c
          have hT2 : TpC s2 n tp := hTu.fp F2 (by unfold PTk; omega) (by unfold PTk; omega)
          refine c_val hT2 f2 (by omega) f3 ?_
          refine L119 _ ?_
          unfold tnum; rw [if_pos q4]
      have L65 : tkd n tp t = tkd0 n tp (tfr n tp t) → wX7_scan_L65 (B + 12) 1 RR (nI (tfr n tp t)) (nI t) (nI (fEd n tp (tfr n tp t))) u Qv := by
        intro e
        unfold wX7_scan_L65
        refine c_kindOf hTu (by omega) ?_
        rw [← e]
        exact L78
      refine ⟨fun q3 => L65 ?_, fun q3 => ⟨fun q4 => ?_, fun q4 => L65 ?_⟩⟩
      · have := (nI_ltI (b := 400) (by omega) (by omega)).mp q3
        unfold tkd; rw [if_pos (Or.inl this)]
      · have h4' : ¬ t < 400 := fun z => q3 (nI_lt (b := 400) z (by omega))
        rw [hTu.1] at q4
        have h5 := (nI_ltI (by unfold tfr at p2; omega) (by omega)).mp q4
        have : tkd n tp t = 1 := by unfold tkd; rw [if_neg (by unfold tfr; omega)]
        have L := L78
        rw [this] at L
        exact L
      · rw [hTu.1] at q4
        have : n ≤ tfr n tp t := Nat.le_of_not_lt (fun z => q4 (nI_lt z (by omega)))
        unfold tkd; rw [if_pos (Or.inr this)]
  refine ⟨402, key 401 0 2 s0 (by omega) (fun j hj => absurd hj (by omega)) rfl F0 (by rw [e0, gI_uI, if_pos ⟨rfl, rfl⟩]; rfl) (fun j hj => absurd hj (by omega)) (fun e => absurd e (by omega))⟩
end SC

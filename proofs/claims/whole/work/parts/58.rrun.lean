/-! the reference's run over its orders: as the class's, order by order -/
def sgn (k : Nat) : Nat := k + 52
/-- the order q leads, over jumps, to the place x (act + 1; 0: behind the last) -/
def Lnd (A : Bk) (og : Nat → Int32) : Nat → Nat → Nat → Prop
  | 0, q, x => q < 400 ∧ ((x ≠ 0 ∧ q = A 18 (x - 1)) ∨ (x = 0 ∧ og (4 * q) = nI 301))
  | k + 1, q, x => Lnd A og k q x ∨ (q < 400 ∧ og (4 * q) = nI 300 ∧ ∃ q', og (4 * q + 1) = nI q' ∧ Lnd A og k q' x)
def rCmp (A : Bk) (cg : Nat → Int32) : Nat → Nat → Nat → Prop
  | 0, u, i => i < 400 ∧ cg (4 * i) = vI (fVc A u) ∧ cg (4 * i + 1) = nI (sgn (A 10 (u + 1))) ∧ cg (4 * i + 2) = vI (fVc A (u + 2)) ∧ cg (4 * i + 3) = nI 1
  | n + 1, u, i => i < 400 ∧ cg (4 * i) = vI (fVc A u) ∧ cg (4 * i + 1) = nI (sgn (A 10 (u + 1))) ∧ cg (4 * i + 2) = vI (fVc A (u + 2)) ∧ cg (4 * i + 3) = nI 0 ∧ rCmp A cg n (u + 4) (i + 1)
def inn (A : Bk) (a : Nat) : Nat := if A 10 (A 5 a) = 22 then (if A 8 a = 0 then a + 1 else A 8 a) else (if A 8 a = 0 then fBeh A 4 a else A 8 a)
def rKd (A : Bk) (og cg : Nat → Int32) (a : Nat) : Prop :=
  (A 10 (A 5 a) = 16 → og (4 * A 18 a + 1) = wI (fWc A (A 5 a + 1)) ∧ og (4 * A 18 a + 2) = wO (fWith A (A 5 a + 2))) ∧
  ((A 10 (A 5 a) = 18 ∨ A 10 (A 5 a) = 19 ∨ A 10 (A 5 a) = 20) → og (4 * A 18 a + 1) = vI (fVc A (A 5 a + 1))) ∧
  (A 10 (A 5 a) = 21 → og (4 * A 18 a + 1) = nI (A 11 (A 5 a + 1) - 1)) ∧
  ((A 10 (A 5 a) = 22 ∨ A 10 (A 5 a) = 23) → og (4 * A 18 a + 1) = nI (A 20 a) ∧ rCmp A cg (A 21 a) (A 5 a + 1) (A 20 a) ∧ Lnd A og 4 (A 18 a + 1) (inn A a) ∧ ∃ q, og (4 * A 18 a + 3) = nI q ∧ Lnd A og 4 q (if A 10 (A 5 a) = 22 then fBeh A 4 a else if A 9 a = 0 then fBeh A 4 a else A 9 a)) ∧
  (A 10 (A 5 a) ≠ 22 → A 10 (A 5 a) ≠ 23 → Lnd A og 4 (A 18 a + 1) (fBeh A 4 a))
/-- the reference's book over og, cg, bg is the same book -/
def gOK (A : Bk) (og cg bg : Nat → Int32) : Prop := (∀ p, p < A 0 2 → bg p = nI (A 23 p) ∧ Lnd A og 4 (A 23 p) (A 4 p)) ∧ ∀ a, a < A 0 3 → A 18 a < 400 ∧ og (4 * A 18 a) = nI (189 + A 10 (A 5 a)) ∧ rKd A og cg a
def P568 (d : Nat) : Prop := d = 56 ∨ d = 58
section RRU
variable {t K : Nat} {A : Bk} {M M' : Nat → Nat} {st st' : St} {Q : Int32 → St → Prop} {Qv : St → Prop} {og cg bg : Nat → Int32}
theorem Lnd.lt : ∀ {k q x : Nat}, Lnd A og k q x → q < 400 := by
  intro k
  induction k with
  | zero => intro q x h; exact h.1
  | succ k ih => rintro q x (h | h); exact ih h; exact h.1
theorem vc_lt {u : Nat} (hv : vOK A u) : fVc A u < 107 := by
  unfold fVc
  rcases hv with ⟨h1, h2, h3⟩ | ⟨h1, h2⟩
  · rw [if_pos h1]; omega
  · rw [if_neg (by omega)]; omega
theorem r_areSo {nc f u i : Nat} (hB : BB (A 0 0) (A 0 1) (A 1) (A 2)) (hM : MB 120 M) (hn : M 2 < 2 ^ 30) (hK : KB (A 0 0) (A 0 1) (A 1) (A 2) st) (hR : RM st M) (hO : A 0 4 ≤ 401) (hc : cOK A nc u) (hr : rCmp A (gI st 66) nc u i) (hf : nc < f) (hq : Q (bI (fHold A M f u)) st) : wX12_areSo 54 (nI i) st Q := by
  unfold wX12_areSo
  rintro _ rfl
  have key : ∀ (nc f u i : Nat), cOK A nc u → rCmp A (gI st 66) nc u i → nc < f → Q (bI (fHold A M f u)) st → lp (fun R s => wX12_areSo_L6 54 (nI i) R s.1 s.2.1 s.2.2 Q) (nc + 2) (nI (4 * i), nI 0, st) := by
    intro nc
    induction nc with
    | zero =>
      intro f u i hc hr hf hq
      obtain ⟨v1, k1, k2, v2, hu, k3⟩ := hc
      obtain ⟨hi, c0, c1, c2, c3⟩ := hr
      obtain ⟨f, rfl⟩ : ∃ g, f = g + 1 := ⟨f - 1, by omega⟩
      show wX12_areSo_L6 54 (nI i) (lp (fun R s => wX12_areSo_L6 54 (nI i) R s.1 s.2.1 s.2.2 Q) 1) (nI (4 * i)) (nI 0) st Q
      have last : ∀ z : Q 1 st, lp (fun R s => wX12_areSo_L6 54 (nI i) R s.1 s.2.1 s.2.2 Q) 1 (nI (4 * i + 4), nI 1, st) := fun z => ⟨fun _ => z, fun q => absurd (show nI 1 = 0 from q) (by decide)⟩
      generalize lp (fun R s => wX12_areSo_L6 54 (nI i) R s.1 s.2.1 s.2.2 Q) 1 = RR at last ⊢
      have b1 := fV_lt hB hM hn v1
      have b2 := fV_lt hB hM hn v2
      unfold fHold at hq
      rw [if_neg k3, Bool.and_true] at hq
      have no : fCmp (A 10 (u + 1)) (fV A M u) (fV A M (u + 2)) = false → Q 0 st := fun e => by rw [e] at hq; exact hq
      have yes : fCmp (A 10 (u + 1)) (fV A M u) (fV A M (u + 2)) = true → wX12_areSo_L98 54 (nI i) RR (nI (4 * i)) st Q := fun e => by
        rw [e] at hq
        unfold wX12_areSo_L98 wX12_areSo_L118
        rw [show nI (4 * i) + 3 = nI (4 * i + 3) from nI_add _ 3, nI_clamp (by omega), c3]
        refine ⟨(vin_iff (by omega)).mpr (by omega), fun q => absurd rfl q, fun _ => ?_⟩
        rintro _ rfl
        rw [show nI (4 * i) + 4 = nI (4 * i + 4) from nI_add _ 4]
        exact last hq
      unfold wX12_areSo_L6
      refine ⟨fun q => absurd rfl q, fun _ => ⟨(vin_iff (by omega)).mpr (by omega), ?_⟩⟩
      rw [show nI (4 * i) + 2 = nI (4 * i + 2) from nI_add _ 2, show nI (4 * i) + 1 = nI (4 * i + 1) from nI_add _ 1, nI_clamp (by omega), nI_clamp (by omega), nI_clamp (by omega), c0]
      refine r_value hB hM hK hR (vc_lt v1) ⟨(vin_iff (by omega)).mpr (by omega), ?_⟩
      rw [c2]
      refine r_value hB hM hK hR (vc_lt v2) ⟨(vin_iff (by omega)).mpr (by omega), ?_⟩
      rw [c1]
      rintro _ rfl
      unfold fCmp at no yes
      have ks : A 10 (u + 1) = 8 ∨ A 10 (u + 1) = 9 ∨ A 10 (u + 1) = 10 := by omega
      show (¬ nI (sgn (A 10 (u + 1))) = 60 → ((¬ nI (sgn (A 10 (u + 1))) = 62 → ((nI (fV A M u) = nI (fV A M (u + 2)) → _) ∧ (¬ nI (fV A M u) = nI (fV A M (u + 2)) → _))) ∧ (nI (sgn (A 10 (u + 1))) = 62 → ((nI (fV A M (u + 2)) < nI (fV A M u) → _) ∧ (¬ nI (fV A M (u + 2)) < nI (fV A M u) → _))))) ∧ (nI (sgn (A 10 (u + 1))) = 60 → ((nI (fV A M u) < nI (fV A M (u + 2)) → _) ∧ (¬ nI (fV A M u) < nI (fV A M (u + 2)) → _)))
      rw [nI_eq (by omega) (by omega), nI_ltI (by omega) (by omega), nI_ltI (by omega) (by omega)]
      rcases ks with e | e | e
      · rw [e] at no yes ⊢
        refine ⟨fun q => absurd (show nI (sgn 8) = 60 from rfl) q, fun _ => ⟨fun q => yes (by rw [if_pos rfl, decide_eq_true q]), fun q => no (by rw [if_pos rfl, decide_eq_false q])⟩⟩
      · rw [e] at no yes ⊢
        refine ⟨fun _ => ⟨fun _ => ⟨fun q => yes (by rw [if_neg (by decide), if_neg (by decide), decide_eq_true q]), fun q => no (by rw [if_neg (by decide), if_neg (by decide), decide_eq_false q])⟩, fun q => absurd q (by decide)⟩, fun q => absurd q (by decide)⟩
      · rw [e] at no yes ⊢
        refine ⟨fun _ => ⟨fun q => absurd (show nI (sgn 10) = 62 from rfl) q, fun _ => ⟨fun q => yes (by rw [if_neg (by decide), if_pos rfl, decide_eq_true q]), fun q => no (by rw [if_neg (by decide), if_pos rfl, decide_eq_false q])⟩⟩, fun q => absurd q (by decide)⟩
    | succ nc ih =>
      intro f u i hc hr hf hq
      obtain ⟨v1, k1, k2, v2, hu, k3, hc2⟩ := hc
      obtain ⟨hi, c0, c1, c2, c3, hr2⟩ := hr
      obtain ⟨f, rfl⟩ : ∃ g, f = g + 1 := ⟨f - 1, by omega⟩
      have ih := ih f (u + 4) (i + 1) hc2 hr2 (by omega)
      show wX12_areSo_L6 54 (nI i) (lp (fun R s => wX12_areSo_L6 54 (nI i) R s.1 s.2.1 s.2.2 Q) (nc + 2)) (nI (4 * i)) (nI 0) st Q
      have ih : Q (bI (fHold A M f (u + 4))) st → lp (fun R s => wX12_areSo_L6 54 (nI i) R s.1 s.2.1 s.2.2 Q) (nc + 2) (nI (4 * i + 4), nI 0, st) := fun z => by
        have := ih z
        rw [show 4 * (i + 1) = 4 * i + 4 from by omega] at this
        exact this
      generalize lp (fun R s => wX12_areSo_L6 54 (nI i) R s.1 s.2.1 s.2.2 Q) (nc + 2) = RR at ih ⊢
      have b1 := fV_lt hB hM hn v1
      have b2 := fV_lt hB hM hn v2
      unfold fHold at hq
      rw [if_pos k3] at hq
      have no : fCmp (A 10 (u + 1)) (fV A M u) (fV A M (u + 2)) = false → Q 0 st := fun e => by rw [e, Bool.false_and] at hq; exact hq
      have yes : fCmp (A 10 (u + 1)) (fV A M u) (fV A M (u + 2)) = true → wX12_areSo_L98 54 (nI i) RR (nI (4 * i)) st Q := fun e => by
        rw [e, Bool.true_and] at hq
        unfold wX12_areSo_L98 wX12_areSo_L118
        rw [show nI (4 * i) + 3 = nI (4 * i + 3) from nI_add _ 3, nI_clamp (by omega), c3]
        refine ⟨(vin_iff (by omega)).mpr (by omega), fun _ => ?_, fun q => absurd q (by decide)⟩
        rintro _ rfl
        rw [show nI (4 * i) + 4 = nI (4 * i + 4) from nI_add _ 4]
        exact ih hq
      unfold wX12_areSo_L6
      refine ⟨fun q => absurd rfl q, fun _ => ⟨(vin_iff (by omega)).mpr (by omega), ?_⟩⟩
      rw [show nI (4 * i) + 2 = nI (4 * i + 2) from nI_add _ 2, show nI (4 * i) + 1 = nI (4 * i + 1) from nI_add _ 1, nI_clamp (by omega), nI_clamp (by omega), nI_clamp (by omega), c0]
      refine r_value hB hM hK hR (vc_lt v1) ⟨(vin_iff (by omega)).mpr (by omega), ?_⟩
      rw [c2]
      refine r_value hB hM hK hR (vc_lt v2) ⟨(vin_iff (by omega)).mpr (by omega), ?_⟩
      rw [c1]
      rintro _ rfl
      unfold fCmp at no yes
      have ks : A 10 (u + 1) = 8 ∨ A 10 (u + 1) = 9 ∨ A 10 (u + 1) = 10 := by omega
      show (¬ nI (sgn (A 10 (u + 1))) = 60 → ((¬ nI (sgn (A 10 (u + 1))) = 62 → ((nI (fV A M u) = nI (fV A M (u + 2)) → _) ∧ (¬ nI (fV A M u) = nI (fV A M (u + 2)) → _))) ∧ (nI (sgn (A 10 (u + 1))) = 62 → ((nI (fV A M (u + 2)) < nI (fV A M u) → _) ∧ (¬ nI (fV A M (u + 2)) < nI (fV A M u) → _))))) ∧ (nI (sgn (A 10 (u + 1))) = 60 → ((nI (fV A M u) < nI (fV A M (u + 2)) → _) ∧ (¬ nI (fV A M u) < nI (fV A M (u + 2)) → _)))
      rw [nI_eq (by omega) (by omega), nI_ltI (by omega) (by omega), nI_ltI (by omega) (by omega)]
      rcases ks with e | e | e
      · rw [e] at no yes ⊢
        refine ⟨fun q => absurd (show nI (sgn 8) = 60 from rfl) q, fun _ => ⟨fun q => yes (by rw [if_pos rfl, decide_eq_true q]), fun q => no (by rw [if_pos rfl, decide_eq_false q])⟩⟩
      · rw [e] at no yes ⊢
        refine ⟨fun _ => ⟨fun _ => ⟨fun q => yes (by rw [if_neg (by decide), if_neg (by decide), decide_eq_true q]), fun q => no (by rw [if_neg (by decide), if_neg (by decide), decide_eq_false q])⟩, fun q => absurd q (by decide)⟩, fun q => absurd q (by decide)⟩
      · rw [e] at no yes ⊢
        refine ⟨fun _ => ⟨fun q => absurd (show nI (sgn 10) = 62 from rfl) q, fun _ => ⟨fun q => yes (by rw [if_neg (by decide), if_pos rfl, decide_eq_true q]), fun q => no (by rw [if_neg (by decide), if_pos rfl, decide_eq_false q])⟩⟩, fun q => absurd q (by decide)⟩
  have e4 : (4 : Int32) * nI i = nI (4 * i) := pk_mul 4 i
  rw [e4]
  have gen : ∀ (n : Nat) (s : Int32 × Int32 × St), lp (fun R s => wX12_areSo_L6 54 (nI i) R s.1 s.2.1 s.2.2 Q) n s → ∃ n, lp (fun R s => wX12_areSo_L6 54 (nI i) R s.1 s.2.1 s.2.2 Q) n s := fun n s h => ⟨n, h⟩
  exact gen _ _ (key nc f u i hc hr hf hq)
theorem min_max (v : Nat) (hv : v < 2 ^ 30) : (if (0 : Int32) < (if nI v < 120 then nI v else 120) then (if nI v < 120 then nI v else 120) else 0) = nI (if v < 120 then v else 120) := by
  by_cases q : v < 120
  · have h1 : nI v < nI 120 := nI_lt q (by omega)
    rw [if_pos (show nI v < 120 from h1), if_pos q]
    by_cases q0 : 0 < v
    · have h0 : nI 0 < nI v := nI_lt q0 (by omega)
      rw [if_pos (show (0 : Int32) < nI v from h0)]
    · have : v = 0 := by omega
      subst this
      rfl
  · have h1 : ¬ nI v < 120 := fun z => q ((nI_ltI (b := 120) (by omega) (by omega)).mp z)
    rw [if_neg h1, if_neg q]
    rfl
/-- an act that is none of do, while and if -/
theorem r_done {a : Nat} (hB : BB (A 0 0) (A 0 1) (A 1) (A 2)) (hM : MB 120 M) (hn : M 2 < 2 ^ 30) (hK : KB (A 0 0) (A 0 1) (A 1) (A 2) st) (hR : RM st M) (hk : kOK A a) (hr : rKd A og cg a) (h1 : A 10 (A 5 a) ≠ 21) (h2 : A 10 (A 5 a) ≠ 22) (h3 : A 10 (A 5 a) ≠ 23)
    (hq : ∀ st', FI P56 st st' → RM st' (fEff A a M).2 → Q (bI (fEff A a M).1) st') : wX12_isDone 54 (nI (189 + A 10 (A 5 a))) (og (4 * A 18 a + 1)) (og (4 * A 18 a + 2)) st Q := by
  have h8 := hB.1
  unfold wX12_isDone
  unfold fEff at hq
  rcases hk with ⟨hk, hh, hh2⟩ | ⟨hk | hk | hk, hv⟩ | ⟨hk, _⟩ | ⟨hk | hk, _⟩
  · obtain ⟨g1, g2⟩ := hr.1 hk
    rw [g1, g2]
    rw [if_pos hk] at hq
    refine ⟨fun q => absurd (by rw [hk]; rfl) q, fun _ => ?_⟩
    have w1 := fWc_lt h8 hh
    refine r_send hB hM hK hR w1.1 w1.2 (fun c e => ?_) hq
    unfold fWith at e
    split at e
    · next q2 => cases e; exact fWc_lt h8 (hh2 q2)
    · cases e
  · rw [hr.2.1 (Or.inl hk)]
    rw [if_neg (by omega), if_pos hk] at hq
    have bv := fV_lt hB hM hn hv
    refine ⟨fun _ => r_value hB hM hK hR (vc_lt hv) ⟨fun _ => ⟨fun _ => ?_, fun q => absurd q (by rw [hk]; decide)⟩, fun q => absurd q (by rw [hk]; decide)⟩, fun q => absurd q (by rw [hk]; decide)⟩
    rw [min_max _ (show fVal (A 0 0) (A 0 1) M (fVc A (A 5 a + 1)) < 2 ^ 30 from bv)]
    exact r_goBy hB hM (by split <;> omega) hK hR (fun st' hF hR' => hq st' hF hR')
  · rw [hr.2.1 (Or.inr (Or.inl hk))]
    rw [if_neg (by omega), if_neg (by omega), if_pos hk] at hq
    refine ⟨fun _ => r_value hB hM hK hR (vc_lt hv) ⟨fun _ => ⟨fun q => absurd (by rw [hk]; rfl) q, fun _ => ?_⟩, fun q => absurd q (by rw [hk]; decide)⟩, fun q => absurd q (by rw [hk]; decide)⟩
    exact r_write hR (fun st' hF hR' => hq st' hF hR')
  · rw [hr.2.1 (Or.inr (Or.inr hk))]
    rw [if_neg (by omega), if_neg (by omega), if_neg (by omega), if_pos hk] at hq
    refine ⟨fun _ => r_value hB hM hK hR (vc_lt hv) ⟨fun q => absurd (by rw [hk]; rfl) q, fun _ => ?_⟩, fun q => absurd q (by rw [hk]; decide)⟩
    exact r_mend hB hM hK hR (by have := fV_lt hB hM hn hv; show fV A M (A 5 a + 1) < 2 ^ 31; omega) hq
  · exact absurd hk h1
  · exact absurd hk h2
  · exact absurd hk h3
theorem FI.p568 {s1 s2 : St} (h : FI P56 s1 s2) : FI P568 s1 s2 := h.mo (fun _ h => Or.inl h)
theorem r_loop (hO : bOK A) (hB : BB (A 0 0) (A 0 1) (A 1) (A 2)) (hK : K + 800 < 2 ^ 29) {p : Int32} {s0 : St} (hK0 : KB (A 0 0) (A 0 1) (A 1) (A 2) s0) (h0 : gOK A (gI s0 65) (gI s0 66) (gI s0 64)) : ∀ (f x dp : Nat) (op lnn : Nat → Nat) (done : Nat) (M : Nat → Nat) (q : Nat), 2 * (100 - done) + dp ≤ f → LI A x dp op → done ≤ 100 → MB 120 M → MC (K + 8 * done) M → Lnd A (gI s0 65) 4 q x → (∀ d, d < dp → Lnd A (gI s0 65) 4 (lnn d) (fBeh A 4 (op d))) → (∀ st', FI P568 s0 st' → RM st' (fPerf A f x dp op done M).2 → Q (nI (fPerf A f x dp op done M).1) st') →
    ∃ n, ∀ u, FI P568 s0 u → RM u M → (∀ d, d < dp → gI u 58 d = nI (lnn d)) → lp (fun R s => wX12_run_L15 54 p R s.1 s.2.1 s.2.2.1 s.2.2.2 Q) n (nI q, nI dp, nI done, u) := by
  have h401 := hO.2.2.2.2.1
  have h6 := hO.2.2.1
  intro f
  induction f with
  | zero =>
    intro x dp op lnn done M q hm hL hd hM hC hl hln hq
    have e : done = 100 := by omega
    subst e
    refine ⟨1, fun u hF hR _ => ?_⟩
    show wX12_run_L15 54 p _ (nI q) (nI dp) (nI 100) u Q
    unfold wX12_run_L15
    exact ⟨fun _ => hq u hF hR, fun z => absurd (nI_le (Nat.le_refl 100) (by omega)) z⟩
  | succ f ih =>
    intro x dp op lnn done M q hm hL hd hM hC hl hln hq
    unfold fPerf at hq
    by_cases h100 : 100 ≤ done
    · rw [if_pos h100] at hq
      refine ⟨1, fun u hF hR _ => ?_⟩
      show wX12_run_L15 54 p _ (nI q) (nI dp) (nI done) u Q
      unfold wX12_run_L15
      exact ⟨fun _ => hq u hF hR, fun z => absurd (nI_le (a := 100) h100 (by omega)) z⟩
    rw [if_neg h100] at hq
    -- at the order itself
    have base : ∀ q, Lnd A (gI s0 65) 0 q x → ∃ n, ∀ u, FI P568 s0 u → RM u M → (∀ d, d < dp → gI u 58 d = nI (lnn d)) → lp (fun R s => wX12_run_L15 54 p R s.1 s.2.1 s.2.2.1 s.2.2.2 Q) n (nI q, nI dp, nI done, u) := by
      rintro q ⟨hq400, ⟨hx0, rfl⟩ | ⟨hx0, hog⟩⟩
      · rw [if_neg hx0] at hq
        obtain ⟨ha, hp5⟩ : x - 1 < A 0 3 ∧ A 13 (x - 1) + dp ≤ 5 := by rcases hL.1 with e | e; exact absurd e hx0; exact e
        have hA := hO.2.2.2.2.2.2 _ ha
        have hk : kOK A (x - 1) := hA.2.2.2.2.2.2.2.2
        obtain ⟨-, o1, rk⟩ := h0.2 _ ha
        have hE := fEff_ok hB hk hM hC
        have hN := hL.next (M := M) hO hx0
        have hn2 : M 2 < 2 ^ 30 := by have := hC.1; omega
        -- what goes on behind it
        have go : ∀ q2, (fEff A (x - 1) M).1 = true → A 10 (A 5 (x - 1)) ≠ 21 → Lnd A (gI s0 65) 4 q2 (fNext A (x - 1) M) → ∃ n, ∀ u, FI P568 s0 u → RM u (fEff A (x - 1) M).2 → (∀ d, d < dp → gI u 58 d = nI (lnn d)) → lp (fun R s => wX12_run_L15 54 p R s.1 s.2.1 s.2.2.1 s.2.2.2 Q) n (nI q2, nI dp, nI (done + 1), u) := by
          intro q2 hok hn21 hl2
          unfold fDp fOp at hN
          rw [if_neg hn21, if_neg hn21] at hN
          rw [if_pos hok, if_neg hn21] at hq
          exact ih _ dp op lnn (done + 1) _ q2 (by omega) hN (by omega) hE.1 (hE.2.mo (by omega)) hl2 hln hq
        by_cases k21 : A 10 (A 5 (x - 1)) = 21
        · -- do
          have he : fEff A (x - 1) M = (true, M) := by unfold fEff; rw [if_neg (by omega), if_neg (by omega), if_neg (by omega), if_neg (by omega)]
          have hd1 : 1 ≤ A 11 (A 5 (x - 1) + 1) ∧ A 11 (A 5 (x - 1) + 1) ≤ A 13 (x - 1) := by
            rcases hk with ⟨h1, _⟩ | ⟨h1 | h1 | h1, _⟩ | ⟨_, h1⟩ | ⟨h1 | h1, _⟩
            case inr.inr.inl => exact h1
            all_goals omega
          have hpn : A 11 (A 5 (x - 1) + 1) - 1 < A 0 2 := by have := hA.2.1; omega
          obtain ⟨b1, b2⟩ := h0.1 _ hpn
          have bl := b2.lt
          have e1 := rk.2.2.1 k21
          unfold fDp fOp at hN
          rw [if_pos k21, if_pos k21] at hN
          rw [he] at hq
          have hq : ∀ st', FI P568 s0 st' → RM st' (fPerf A f (fNext A (x - 1) M) (dp + 1) (up op dp (x - 1)) (done + 1) M).2 → Q (nI (fPerf A f (fNext A (x - 1) M) (dp + 1) (up op dp (x - 1)) (done + 1) M).1) st' := by
            intro st' a b
            have := hq st' a
            rw [if_pos rfl, if_pos k21] at this
            exact this b
          have hnx : fNext A (x - 1) M = A 4 (A 11 (A 5 (x - 1) + 1) - 1) := by unfold fNext; rw [if_pos k21]
          obtain ⟨n, hn⟩ := ih (fNext A (x - 1) M) (dp + 1) (up op dp (x - 1)) (up lnn dp (A 18 (x - 1) + 1)) (done + 1) M (A 23 (A 11 (A 5 (x - 1) + 1) - 1)) (by omega) hN (by omega) hM (hC.mo (by omega)) (by rw [hnx]; exact b2) (fun d hd2 => by
            rw [up_a, up_a]
            by_cases e : d = dp
            · rw [if_pos e, if_pos e]; exact rk.2.2.2.2 (by omega) (by omega)
            · rw [if_neg e, if_neg e]; exact hln d (by omega)) hq
          refine ⟨n + 1, fun u hF hR hlu => ?_⟩
          show wX12_run_L15 54 p (lp (fun R s => wX12_run_L15 54 p R s.1 s.2.1 s.2.2.1 s.2.2.2 Q) n) (nI (A 18 (x - 1))) (nI dp) (nI done) u Q
          generalize lp (fun R s => wX12_run_L15 54 p R s.1 s.2.1 s.2.2.1 s.2.2.2 Q) n = RR at hn ⊢
          unfold wX12_run_L15 wX12_run_L208
          have g : ∀ j, gI u 65 j = gI s0 65 j := fun j => hF.gI (by unfold P568; omega)
          refine ⟨fun z => absurd ((nI_leI (a := 100) (by omega) (by omega)).mp z) (by omega), fun _ => ?_⟩
          rintro _ rfl
          rw [show (4 : Int32) * nI (A 18 (x - 1)) = nI (4 * A 18 (x - 1)) from pk_mul 4 _, show nI (4 * A 18 (x - 1)) + 0 = nI (4 * A 18 (x - 1)) from nI_add _ 0, show nI (4 * A 18 (x - 1)) + 1 = nI (4 * A 18 (x - 1) + 1) from nI_add _ 1, show nI (A 18 (x - 1)) + 1 = nI (A 18 (x - 1) + 1) from nI_add _ 1, nI_clamp (n := 4 * A 18 (x - 1)) (by omega), nI_clamp (n := 4 * A 18 (x - 1) + 1) (by omega), g, g, o1, e1, k21]
          refine ⟨(vin_iff (by omega)).mpr (by omega), ?_⟩
          rintro _ rfl
          refine ⟨(vin_iff (by omega)).mpr (by omega), ?_⟩
          rintro _ rfl _ rfl
          refine ⟨fun _ => ⟨fun _ => ⟨fun z => absurd rfl z, fun _ => ⟨(vin_iff (by omega)).mpr (by omega), ?_⟩⟩, fun z => absurd z (by decide)⟩, fun z => absurd z (by decide)⟩
          intro s9 e9
          rintro _ rfl
          refine ⟨(vin_iff (by omega)).mpr (by omega), ?_⟩
          rw [nI_clamp (by omega)] at e9
          have F9 : FI P568 u s9 := by rw [e9]; exact FI.u (Or.inr rfl)
          rw [nI_clamp (by omega), show gI s9 64 (A 11 (A 5 (x - 1) + 1) - 1) = nI (A 23 (A 11 (A 5 (x - 1) + 1) - 1)) from ((hF.tr F9).gI (by unfold P568; omega)).trans b1]
          rintro _ rfl _ rfl
          rw [nI_1, nI_1]
          refine hn s9 (hF.tr F9) (fun k hk => by rw [e9, gI_uI, if_neg (by omega)]; exact hR k hk) (fun d hd2 => ?_)
          rw [e9, gI_uI, up_a]
          by_cases e : d = dp
          · rw [if_pos ⟨rfl, e⟩, if_pos e]
          · rw [if_neg (fun z => e z.2), if_neg e]; exact hlu d (by omega)
        by_cases k22 : A 10 (A 5 (x - 1)) = 22 ∨ A 10 (A 5 (x - 1)) = 23
        · -- while, if
          have he : fEff A (x - 1) M = (true, M) := by unfold fEff; rw [if_neg (by omega), if_neg (by omega), if_neg (by omega), if_neg (by omega)]
          obtain ⟨e1, ec, el, q3, e3, e3l⟩ := rk.2.2.2.1 k22
          have hcc : cOK A (A 21 (x - 1)) (A 5 (x - 1) + 1) := by
            rcases hk with ⟨h1, _⟩ | ⟨h1 | h1 | h1, _⟩ | ⟨h1, _⟩ | ⟨_, h1⟩
            case inr.inr.inr => exact h1
            all_goals omega
          have hlen := cOK_len hcc
          have hi20 : A 20 (x - 1) < 400 := by
            cases hnc : A 21 (x - 1) with
            | zero => rw [hnc] at ec; exact ec.1
            | succ n => rw [hnc] at ec; exact ec.1
          have hnx : fNext A (x - 1) M = if fHold A M 101 (A 5 (x - 1) + 1) = true then inn A (x - 1) else (if A 10 (A 5 (x - 1)) = 22 then fBeh A 4 (x - 1) else if A 9 (x - 1) = 0 then fBeh A 4 (x - 1) else A 9 (x - 1)) := by
            unfold fNext inn
            rw [if_neg k21]
            generalize fHold A M 101 (A 5 (x - 1) + 1) = hb
            rcases k22 with e | e <;> cases hb <;> simp [e]
          have el3 := e3l.lt
          obtain ⟨qn, hqn, hql⟩ : ∃ qn, (qn = if fHold A M 101 (A 5 (x - 1) + 1) = true then A 18 (x - 1) + 1 else q3) ∧ Lnd A (gI s0 65) 4 qn (fNext A (x - 1) M) := by
            refine ⟨_, rfl, ?_⟩
            rw [hnx]
            split
            · exact el
            · exact e3l
          obtain ⟨n, hn⟩ := go qn (by rw [he]) k21 hql
          rw [he] at hn
          refine ⟨n + 1, fun u hF hR hlu => ?_⟩
          have hn := fun z1 => hn u hF z1 hlu
          show wX12_run_L15 54 p (lp (fun R s => wX12_run_L15 54 p R s.1 s.2.1 s.2.2.1 s.2.2.2 Q) n) (nI (A 18 (x - 1))) (nI dp) (nI done) u Q
          generalize lp (fun R s => wX12_run_L15 54 p R s.1 s.2.1 s.2.2.1 s.2.2.2 Q) n = RR at hn ⊢
          have g : ∀ j, gI u 65 j = gI s0 65 j := fun j => hF.gI (by unfold P568; omega)
          have g66 : gI u 66 = gI s0 66 := funext (fun j => hF.gI (by unfold P568; omega))
          have hKu : KB (A 0 0) (A 0 1) (A 1) (A 2) u := hK0.fi hF (by unfold P568; omega) (by unfold P568; omega) (by unfold P568; omega)
          have L151 : wX12_run_L151 54 p RR (nI (A 18 (x - 1) + 1)) (nI dp) (nI done) (nI (4 * A 18 (x - 1))) (nI (A 20 (x - 1))) u Q := by
            unfold wX12_run_L151 wX12_run_L173 wX12_run_L208
            refine r_areSo (f := 101) hB hM hn2 hKu hR h401 hcc (by rw [g66]; exact ec) (by omega) ⟨fun z => ?_, fun z => ?_⟩
            · rw [if_pos ((Bool.not_eq_false _).mp (fun e => z (bI0.mpr e)))] at hqn
              rintro _ rfl
              rw [nI_1, ← hqn]
              exact hn hR
            · rw [bI0.mp z, if_neg (by decide)] at hqn
              rw [show nI (4 * A 18 (x - 1)) + 3 = nI (4 * A 18 (x - 1) + 3) from nI_add _ 3, nI_clamp (by omega), g, e3]
              refine ⟨(vin_iff (by omega)).mpr (by omega), ?_⟩
              rintro _ rfl _ rfl
              rw [nI_1, ← hqn]
              exact hn hR
          unfold wX12_run_L15
          refine ⟨fun z => absurd ((nI_leI (a := 100) (by omega) (by omega)).mp z) (by omega), fun _ => ?_⟩
          rintro _ rfl
          rw [show (4 : Int32) * nI (A 18 (x - 1)) = nI (4 * A 18 (x - 1)) from pk_mul 4 _, show nI (4 * A 18 (x - 1)) + 0 = nI (4 * A 18 (x - 1)) from nI_add _ 0, show nI (4 * A 18 (x - 1)) + 1 = nI (4 * A 18 (x - 1) + 1) from nI_add _ 1, show nI (A 18 (x - 1)) + 1 = nI (A 18 (x - 1) + 1) from nI_add _ 1, nI_clamp (n := 4 * A 18 (x - 1)) (by omega), nI_clamp (n := 4 * A 18 (x - 1) + 1) (by omega), g, g, o1, e1]
          refine ⟨(vin_iff (by omega)).mpr (by omega), ?_⟩
          rintro _ rfl
          refine ⟨(vin_iff (by omega)).mpr (by omega), ?_⟩
          rintro _ rfl _ rfl
          rcases k22 with e | e
          · rw [e]
            exact ⟨fun _ => ⟨fun _ => ⟨fun _ => ⟨fun _ => L151, fun z => absurd rfl z⟩, fun z => absurd z (by decide)⟩, fun z => absurd z (by decide)⟩, fun z => absurd z (by decide)⟩
          · rw [e]
            exact ⟨fun _ => ⟨fun _ => ⟨fun _ => ⟨fun _ => L151, fun _ => ⟨fun z => absurd rfl z, fun _ => L151⟩⟩, fun z => absurd z (by decide)⟩, fun z => absurd z (by decide)⟩, fun z => absurd z (by decide)⟩
        · -- the others
          have n22 : A 10 (A 5 (x - 1)) ≠ 22 := fun e => k22 (Or.inl e)
          have n23 : A 10 (A 5 (x - 1)) ≠ 23 := fun e => k22 (Or.inr e)
          have hnx : fNext A (x - 1) M = fBeh A 4 (x - 1) := by unfold fNext; rw [if_neg k21, if_neg n22, if_neg n23]
          have hlb := rk.2.2.2.2 n22 n23
          have hkk : A 10 (A 5 (x - 1)) = 16 ∨ A 10 (A 5 (x - 1)) = 18 ∨ A 10 (A 5 (x - 1)) = 19 ∨ A 10 (A 5 (x - 1)) = 20 := by
            rcases hk with ⟨h1, _⟩ | ⟨h1 | h1 | h1, _⟩ | ⟨h1, _⟩ | ⟨h1 | h1, _⟩ <;> omega
          have main : ∀ n, ((fEff A (x - 1) M).1 = true → ∀ u, FI P568 s0 u → RM u (fEff A (x - 1) M).2 → (∀ d, d < dp → gI u 58 d = nI (lnn d)) → lp (fun R s => wX12_run_L15 54 p R s.1 s.2.1 s.2.2.1 s.2.2.2 Q) n (nI (A 18 (x - 1) + 1), nI dp, nI (done + 1), u)) → ∀ u, FI P568 s0 u → RM u M → (∀ d, d < dp → gI u 58 d = nI (lnn d)) → lp (fun R s => wX12_run_L15 54 p R s.1 s.2.1 s.2.2.1 s.2.2.2 Q) (n + 1) (nI (A 18 (x - 1)), nI dp, nI done, u) := by
            intro n hn u hF hR hlu
            show wX12_run_L15 54 p (lp (fun R s => wX12_run_L15 54 p R s.1 s.2.1 s.2.2.1 s.2.2.2 Q) n) (nI (A 18 (x - 1))) (nI dp) (nI done) u Q
            generalize lp (fun R s => wX12_run_L15 54 p R s.1 s.2.1 s.2.2.1 s.2.2.2 Q) n = RR at hn ⊢
            have g : ∀ j, gI u 65 j = gI s0 65 j := fun j => hF.gI (by unfold P568; omega)
            have hKu : KB (A 0 0) (A 0 1) (A 1) (A 2) u := hK0.fi hF (by unfold P568; omega) (by unfold P568; omega) (by unfold P568; omega)
            unfold wX12_run_L15 wX12_run_L208
            refine ⟨fun z => absurd ((nI_leI (a := 100) (by omega) (by omega)).mp z) (by omega), fun _ => ?_⟩
            rintro _ rfl
            rw [show (4 : Int32) * nI (A 18 (x - 1)) = nI (4 * A 18 (x - 1)) from pk_mul 4 _, show nI (4 * A 18 (x - 1)) + 0 = nI (4 * A 18 (x - 1)) from nI_add _ 0, show nI (4 * A 18 (x - 1)) + 1 = nI (4 * A 18 (x - 1) + 1) from nI_add _ 1, show nI (4 * A 18 (x - 1)) + 2 = nI (4 * A 18 (x - 1) + 2) from nI_add _ 2, show nI (A 18 (x - 1)) + 1 = nI (A 18 (x - 1) + 1) from nI_add _ 1, nI_clamp (n := 4 * A 18 (x - 1)) (by omega), nI_clamp (n := 4 * A 18 (x - 1) + 1) (by omega), nI_clamp (n := 4 * A 18 (x - 1) + 2) (by omega), g, g, g, o1]
            refine ⟨(vin_iff (by omega)).mpr (by omega), ?_⟩
            rintro _ rfl
            refine ⟨(vin_iff (by omega)).mpr (by omega), ?_⟩
            rintro _ rfl _ rfl
            have a300 : ¬ nI (189 + A 10 (A 5 (x - 1))) = 300 := fun z => by have := (nI_eq (b := 300) (by omega) (by omega)).mp z; omega
            have a301 : ¬ nI (189 + A 10 (A 5 (x - 1))) = 301 := fun z => by have := (nI_eq (b := 301) (by omega) (by omega)).mp z; omega
            have a210 : ¬ nI (189 + A 10 (A 5 (x - 1))) = 210 := fun z => by have := (nI_eq (b := 210) (by omega) (by omega)).mp z; omega
            have a211 : ¬ nI (189 + A 10 (A 5 (x - 1))) = 211 := fun z => by have := (nI_eq (b := 211) (by omega) (by omega)).mp z; omega
            have a212 : ¬ nI (189 + A 10 (A 5 (x - 1))) = 212 := fun z => by have := (nI_eq (b := 212) (by omega) (by omega)).mp z; omega
            refine ⟨fun _ => ⟨fun _ => ⟨fun _ => ⟨fun z => absurd z a211, fun _ => ⟨fun _ => ⟨(vin_iff (by omega)).mpr (by omega), ?_⟩, fun z => absurd z a212⟩⟩, fun z => absurd z a210⟩, fun z => absurd z a301⟩, fun z => absurd z a300⟩
            refine r_done (og := gI s0 65) (cg := gI s0 66) hB hM hn2 hKu hR hk rk k21 n22 n23 (fun s1 F1 R1 => ⟨fun z => ?_, fun z => ?_⟩)
            · have z := (Bool.not_eq_false _).mp (fun e => z (bI0.mpr e))
              rintro _ rfl
              rw [nI_1]
              exact hn z s1 (hF.tr F1.p568) R1 (fun d hd2 => (F1.gI (by unfold P56; omega)).trans (hlu d hd2))
            · rw [if_neg (by rw [bI0.mp z]; decide)] at hq
              refine hq s1 (hF.tr F1.p568) ?_
              have hsame : (fEff A (x - 1) M).1 = false → (fEff A (x - 1) M).2 = M := by
                unfold fEff
                split
                · unfold fSend
                  cases hw : fWho (A 0 0) (A 1) (A 2) M (fWc A (A 5 (x - 1) + 1)) none with
                  | none => exact fun _ => rfl
                  | some one =>
                    have s1 : ∀ other, (fSnd1 (A 0 1) (A 1) (A 2) one other M).1 = false → (fSnd1 (A 0 1) (A 1) (A 2) one other M).2 = M := by
                      intro other
                      unfold fSnd1
                      split
                      · intro z; cases z
                      · exact fun _ => rfl
                    cases hv : fWith A (A 5 (x - 1) + 2) with
                    | none => exact s1 none
                    | some c =>
                      cases hv2 : fWho (A 0 0) (A 1) (A 2) M c (some one) with
                      | none => exact fun _ => by simp only [hv2]
                      | some o =>
                        intro z
                        simp only [hv2] at z ⊢
                        by_cases qo : o = one
                        · rw [if_pos qo]
                        · rw [if_neg qo] at z ⊢
                          exact s1 (some o) z
                split
                · intro z; cases z
                split
                · intro z; cases z
                split
                · unfold fMend
                  split
                  · cases fF0 M (A 0 1) with
                    | none => exact fun _ => rfl
                    | some k => intro z; cases z
                  · exact fun _ => rfl
                · intro z; cases z
              rw [hsame (bI0.mp z)] at R1
              exact R1
          by_cases hok : (fEff A (x - 1) M).1 = true
          · obtain ⟨n, hn⟩ := go (A 18 (x - 1) + 1) hok k21 (by rw [hnx]; exact hlb)
            exact ⟨n + 1, main n (fun _ => hn)⟩
          · exact ⟨0 + 1, main 0 (fun z => absurd z hok)⟩
      · -- behind the last
        rw [if_pos hx0] at hq
        by_cases hd0 : dp = 0
        · rw [if_pos hd0] at hq
          refine ⟨1, fun u hF hR hlu => ?_⟩
          show wX12_run_L15 54 p _ (nI q) (nI dp) (nI done) u Q
          unfold wX12_run_L15
          have g : ∀ j, gI u 65 j = gI s0 65 j := fun j => hF.gI (by unfold P568; omega)
          refine ⟨fun z => absurd ((nI_leI (a := 100) (by omega) (by omega)).mp z) (by omega), fun _ => ?_⟩
          rintro _ rfl
          rw [show (4 : Int32) * nI q = nI (4 * q) from pk_mul 4 _, show nI (4 * q) + 0 = nI (4 * q) from nI_add _ 0, nI_clamp (n := 4 * q) (by omega), g, hog]
          refine ⟨(vin_iff (by omega)).mpr (by omega), ?_⟩
          rintro _ rfl
          rw [show nI (4 * q) + 1 = nI (4 * q + 1) from nI_add _ 1]
          refine ⟨(vin_iff (by omega)).mpr (by omega), ?_⟩
          rintro _ rfl _ rfl
          refine ⟨fun _ => ⟨fun z => absurd rfl z, fun _ => ⟨fun z => absurd (by rw [hd0]; rfl) z, fun _ => hq u hF hR⟩⟩, fun z => absurd z (by decide)⟩
        · rw [if_neg hd0] at hq
          obtain ⟨n, hn⟩ := ih (fBeh A 4 (op (dp - 1))) (dp - 1) op lnn done M (lnn (dp - 1)) (by omega) (hL.pop hO hd0) hd hM hC (hln _ (by omega)) (fun d hd2 => hln d (by omega)) hq
          have hl7 : dp ≤ 6 := by have := (hL.2 (dp - 1) (by omega)).2; omega
          refine ⟨n + 1, fun u hF hR hlu => ?_⟩
          have hn := hn u hF hR (fun d hd2 => hlu d (by omega))
          show wX12_run_L15 54 p (lp (fun R s => wX12_run_L15 54 p R s.1 s.2.1 s.2.2.1 s.2.2.2 Q) n) (nI q) (nI dp) (nI done) u Q
          generalize lp (fun R s => wX12_run_L15 54 p R s.1 s.2.1 s.2.2.1 s.2.2.2 Q) n = RR at hn ⊢
          unfold wX12_run_L15 wX12_run_L208
          have g : ∀ j, gI u 65 j = gI s0 65 j := fun j => hF.gI (by unfold P568; omega)
          refine ⟨fun z => absurd ((nI_leI (a := 100) (by omega) (by omega)).mp z) (by omega), fun _ => ?_⟩
          rintro _ rfl
          rw [show (4 : Int32) * nI q = nI (4 * q) from pk_mul 4 _, show nI (4 * q) + 0 = nI (4 * q) from nI_add _ 0, nI_clamp (n := 4 * q) (by omega), g, hog]
          refine ⟨(vin_iff (by omega)).mpr (by omega), ?_⟩
          rintro _ rfl
          rw [show nI (4 * q) + 1 = nI (4 * q + 1) from nI_add _ 1]
          refine ⟨(vin_iff (by omega)).mpr (by omega), ?_⟩
          rintro _ rfl _ rfl
          refine ⟨fun _ => ⟨fun z => absurd rfl z, fun _ => ⟨fun _ => ?_, fun z => absurd ((nI_eq (b := 0) (by omega) (by omega)).mp z) hd0⟩⟩, fun z => absurd z (by decide)⟩
          rintro _ rfl
          have e1 : nI dp + (-1) = nI (dp - 1) := by
            obtain ⟨k, rfl⟩ : ∃ k, dp = k + 1 := ⟨dp - 1, by omega⟩
            exact pk_m1 k
          rw [e1, nI_clamp (by omega)]
          refine ⟨(vin_iff (by omega)).mpr (by omega), ?_⟩
          rintro _ rfl
          rw [show gI u (54 + 4) (dp - 1) = nI (lnn (dp - 1)) from hlu _ (by omega)]
          exact hn
    -- over jumps
    have jump : ∀ k q, Lnd A (gI s0 65) k q x → ∃ n, ∀ u, FI P568 s0 u → RM u M → (∀ d, d < dp → gI u 58 d = nI (lnn d)) → lp (fun R s => wX12_run_L15 54 p R s.1 s.2.1 s.2.2.1 s.2.2.2 Q) n (nI q, nI dp, nI done, u) := by
      intro k
      induction k with
      | zero => exact base
      | succ k ihk =>
        rintro q (h | ⟨hq4, hgo, q', hq', hl'⟩)
        · exact ihk q h
        · obtain ⟨n, hn⟩ := ihk q' hl'
          refine ⟨n + 1, fun u hF hR hlu => ?_⟩
          have hn := hn u hF hR hlu
          show wX12_run_L15 54 p (lp (fun R s => wX12_run_L15 54 p R s.1 s.2.1 s.2.2.1 s.2.2.2 Q) n) (nI q) (nI dp) (nI done) u Q
          generalize lp (fun R s => wX12_run_L15 54 p R s.1 s.2.1 s.2.2.1 s.2.2.2 Q) n = RR at hn ⊢
          unfold wX12_run_L15 wX12_run_L208
          have g : ∀ j, gI u 65 j = gI s0 65 j := fun j => hF.gI (by unfold P568; omega)
          refine ⟨fun z => absurd ((nI_leI (a := 100) (by omega) (by omega)).mp z) (by omega), fun _ => ?_⟩
          rintro _ rfl
          rw [show (4 : Int32) * nI q = nI (4 * q) from pk_mul 4 _, show nI (4 * q) + 0 = nI (4 * q) from nI_add _ 0, show nI (4 * q) + 1 = nI (4 * q + 1) from nI_add _ 1, nI_clamp (n := 4 * q) (by omega), nI_clamp (n := 4 * q + 1) (by omega), g, g, hgo, hq']
          refine ⟨(vin_iff (by omega)).mpr (by omega), ?_⟩
          rintro _ rfl
          refine ⟨(vin_iff (by omega)).mpr (by omega), ?_⟩
          rintro _ rfl _ rfl
          exact ⟨fun z => absurd rfl z, fun _ => hn⟩
    exact jump 4 q hl
theorem r_run {p : Nat} (hO : bOK A) (hB : BB (A 0 0) (A 0 1) (A 1) (A 2)) (hM : MB 120 M) (hC : MC K M) (hK : K + 800 < 2 ^ 29) (hKB : KB (A 0 0) (A 0 1) (A 1) (A 2) st) (hR : RM st M) (h0 : gOK A (gI st 65) (gI st 66) (gI st 64)) (hp : p < A 0 2) (hq : ∀ st', FI P568 st st' → RM st' (fRunP A p M).2 → Q (nI (fRunP A p M).1) st') : wX12_run 54 (nI p) st Q := by
  unfold wX12_run
  have h6 := hO.2.2.1
  obtain ⟨b1, b2⟩ := h0.1 p hp
  refine ⟨(vin_iff (by omega)).mpr (by omega), ?_⟩
  rw [nI_clamp (by omega), b1]
  rintro _ rfl
  obtain ⟨n, hn⟩ := r_loop (p := nI p) hO hB hK hKB h0 1000 (A 4 p) 0 (fun _ => 0) (fun _ => 0) 0 M (A 23 p) (by omega) (LI.first hO hp) (by omega) hM (hC.mo (by omega)) b2 (fun d hd => absurd hd (by omega)) hq
  exact ⟨n, hn st FI.rf hR (fun d hd => absurd hd (by omega))⟩
end RRU

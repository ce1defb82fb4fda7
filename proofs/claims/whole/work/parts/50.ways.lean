/-! who is meant: the class's choice, the reference's; a crossing sent; a bridge begun, copied, kept and brought back -/
theorem neg_leI {a b : Nat} (ha : a < 2 ^ 30) (hb : b < 2 ^ 30) : (-nI a ≤ -nI b) ↔ b ≤ a := by
  have h1 : (-nI a).toInt = -(a : Int) := by rw [Int32.toInt_neg, nI_toInt (by omega)]; exact Int.bmod_eq_of_le (by omega) (by omega)
  have h2 : (-nI b).toInt = -(b : Int) := by rw [Int32.toInt_neg, nI_toInt (by omega)]; exact Int.bmod_eq_of_le (by omega) (by omega)
  rw [Int32.le_iff_toInt_le, h1, h2]; omega
theorem oI_iff {k : Nat} {o : Option Nat} (hk : k < 2 ^ 31) (ho : ∀ j, o = some j → j < 2 ^ 31) : (nI k = oI o) ↔ some k = o := by
  cases o with
  | none => rw [oI_none, ne_m1 hk]; exact ⟨False.elim, fun q => by cases q⟩
  | some j => rw [oI_some, nI_eq hk (ho j rfl)]; exact ⟨fun q => by rw [q], fun q => by cases q; rfl⟩
theorem oI_m1 {o : Option Nat} (ho : ∀ j, o = some j → j < 2 ^ 31) : (oI o = -nI 1) ↔ o = none := by
  cases o with
  | none => exact ⟨fun _ => rfl, fun _ => rfl⟩
  | some j => rw [oI_some, ne_m1 (ho j rfl)]; exact ⟨False.elim, fun q => by cases q⟩
def rk (wt mi : Nat → Nat) (how j : Nat) : Int32 := if how = 0 then -nI (mi j) else if how = 1 then nI (mi j) else if how = 2 then -nI (wt j) else nI (wt j)
section WH
variable {b nw pl t : Nat} {wt mi : Nat → Nat} {M M' : Nat → Nat} {st st' : St} {Q : Int32 → St → Prop} {Qv : St → Prop}
theorem rk_le {how i j : Nat} (hB : BB nw pl wt mi) (hh : how < 4) : (rk wt mi how i ≤ rk wt mi how j) ↔ ¬ fRather wt mi how i j = true := by
  have b1 := hB.2.2 i
  have b2 := hB.2.2 j
  have hc : how = 0 ∨ how = 1 ∨ how = 2 ∨ how = 3 := by omega
  rcases hc with rfl | rfl | rfl | rfl
  · show -nI (mi i) ≤ -nI (mi j) ↔ ¬ decide (mi i < mi j) = true
    rw [neg_leI (by omega) (by omega), decide_eq_true_iff]; omega
  · show nI (mi i) ≤ nI (mi j) ↔ ¬ decide (mi j < mi i) = true
    rw [nI_leI (by omega) (by omega), decide_eq_true_iff]; omega
  · show -nI (wt i) ≤ -nI (wt j) ↔ ¬ decide (wt i < wt j) = true
    rw [neg_leI (by omega) (by omega), decide_eq_true_iff]; omega
  · show nI (wt i) ≤ nI (wt j) ↔ ¬ decide (wt j < wt i) = true
    rw [nI_leI (by omega) (by omega), decide_eq_true_iff]; omega
theorem fCh_lt {how : Nat} {but : Option Nat} : ∀ {k j : Nat}, fCh wt mi M how but k = some j → j < k := by
  intro k
  induction k with
  | zero => intro j h; cases h
  | succ k ih =>
    intro j h
    unfold fCh at h
    split at h
    · have := ih h; omega
    · split at h
      · cases h; omega
      · next i hi =>
        have := ih hi
        split at h <;> cases h <;> omega
theorem fWho_lt {c j : Nat} {but : Option Nat} (hc : c < 8 → c < nw) (h : fWho nw wt mi M c but = some j) : j < nw := by
  unfold fWho at h
  split at h
  · next q => cases h; exact hc q
  · exact fCh_lt h
theorem fCh_skip {how k : Nat} {but : Option Nat} (q : some k = but ∨ M (8 + k) ≠ M 0) : fCh wt mi M how but (k + 1) = fCh wt mi M how but k := by
  show (if some k = but ∨ M (8 + k) ≠ M 0 then fCh wt mi M how but k else _) = _
  rw [if_pos q]
theorem fCh_none {how k : Nat} {but : Option Nat} (q : ¬ (some k = but ∨ M (8 + k) ≠ M 0)) (h : fCh wt mi M how but k = none) : fCh wt mi M how but (k + 1) = some k := by
  show (if some k = but ∨ M (8 + k) ≠ M 0 then fCh wt mi M how but k else _) = _
  rw [if_neg q, h]
theorem fCh_some {how k j : Nat} {but : Option Nat} (q : ¬ (some k = but ∨ M (8 + k) ≠ M 0)) (h : fCh wt mi M how but k = some j) : fCh wt mi M how but (k + 1) = if fRather wt mi how k j = true then some k else some j := by
  show (if some k = but ∨ M (8 + k) ≠ M 0 then fCh wt mi M how but k else _) = _
  rw [if_neg q, h]
theorem c_rank {how k : Nat} (hB : BB nw pl wt mi) (hC : CB b nw wt mi st) (h : BR b nw pl st M) (hh : how < 4) (hk : k < nw) (hq : Q (rk wt mi how k) st) : wX2_rankOf b (some (26 + how)) (nI k) st Q := by
  unfold wX2_rankOf
  have h8 := hB.1
  have e1 := hC.1 k hk
  have e2 := hC.2 k hk
  refine c_has hB h hk ⟨fun _ => ⟨26 + how, rfl, by omega, (vin_iff (by omega)).mpr (by omega), ?_⟩, fun q => absurd q (by decide)⟩
  have hin : vp_in (nI k) 8 := (vin_iff (by omega)).mpr (by omega)
  rw [nI_clamp (n := k) (by omega), e1, e2]
  have hc : how = 0 ∨ how = 1 ∨ how = 2 ∨ how = 3 := by omega
  rcases hc with rfl | rfl | rfl | rfl
  · exact ⟨fun q => absurd q (by decide +kernel), fun _ => ⟨hin, hq⟩, fun q => absurd q (by decide +kernel), fun q => absurd q (by decide +kernel)⟩
  · exact ⟨fun q => absurd q (by decide +kernel), fun q => absurd q (by decide +kernel), fun _ => ⟨hin, hq⟩, fun q => absurd q (by decide +kernel)⟩
  · exact ⟨fun q => absurd q (by decide +kernel), fun q => absurd q (by decide +kernel), fun q => absurd q (by decide +kernel), fun _ => ⟨hin, hq⟩⟩
  · exact ⟨fun _ => ⟨hin, hq⟩, fun q => absurd q (by decide +kernel), fun q => absurd q (by decide +kernel), fun q => absurd q (by decide +kernel)⟩
theorem c_choose {how : Nat} {but : Option Nat} (hB : BB nw pl wt mi) (hM : MB t M) (hC : CB b nw wt mi st) (h : BR b nw pl st M) (hh : how < 4) (hb : ∀ o, but = some o → o < nw) (hq : Q (oI (fCh wt mi M how but nw)) st) : wX2_choose b (some (26 + how)) (oI but) st Q := by
  unfold wX2_choose
  have h8 := hB.1
  have e0 := h.w0
  have e7 := h.la
  have ob : ∀ j, but = some j → j < 2 ^ 31 := fun j e => Nat.lt_trans (hb j e) (by omega)
  refine lp_inv (n := nw) (I := fun k s => ∃ best, s = (some (26 + how), oI but, oI (fCh wt mi M how but k), best, nI k, st) ∧ ∀ j, fCh wt mi M how but k = some j → best = rk wt mi how j) ?_ ?_ ⟨0, rfl, fun j e => by cases e⟩
  · rintro k s hk ⟨best, rfl, hbest⟩ R hR2
    show wX2_choose_L8 b (some (26 + how)) (oI but) R (some (26 + how)) (oI but) (oI (fCh wt mi M how but k)) best (nI k) st Q
    unfold wX2_choose_L8 wX2_choose_L57 wX2_choose_L64
    have hskip : (some k = but ∨ M (8 + k) ≠ M 0) → ∀ x : Int32, x = nI k + 1 → R (some (26 + how), oI but, oI (fCh wt mi M how but k), best, x, st) := by
      rintro q _ rfl
      rw [nI_1]
      exact hR2 _ ⟨best, by rw [fCh_skip q], fun j e => hbest j (by rw [← fCh_skip q]; exact e)⟩
    have hnew : fCh wt mi M how but (k + 1) = some k → ∀ x : Int32, x = nI k + 1 → R (some (26 + how), oI but, nI k, rk wt mi how k, x, st) := by
      rintro q _ rfl
      rw [nI_1]
      exact hR2 _ ⟨rk wt mi how k, by rw [q]; rfl, fun j e => by rw [q] at e; cases e; rfl⟩
    rw [e0]
    refine ⟨fun q => absurd ((nI_leI (by omega) (by omega)).mp q) (by omega), fun _ => ⟨fun q => hskip (Or.inl ((oI_iff (by omega) ob).mp q)), fun q => ?_⟩⟩
    have q1 : ¬ some k = but := fun e => q ((oI_iff (by omega) ob).mpr e)
    refine c_near hB h hk ?_
    rw [e7, there_la hM (by omega)]
    unfold fThere
    rw [decide_eq_true_iff]
    refine ⟨fun q2 => hskip (Or.inr q2), fun q2 => ?_⟩
    have q3 : ¬ (some k = but ∨ M (8 + k) ≠ M 0) := by rintro (a | a); exact q1 a; exact a q2
    refine c_rank hB hC h hh hk ?_
    cases hw : fCh wt mi M how but k with
    | none => exact ⟨fun _ => hnew (fCh_none q3 hw), fun q4 => absurd rfl q4⟩
    | some j =>
      have hj := fCh_lt hw
      refine ⟨fun q4 => ((ne_m1 (by omega)).mp q4).elim, fun _ => ?_⟩
      have hs := fCh_some q3 hw
      rw [hbest j hw, rk_le hB hh]
      refine ⟨fun q4 => ?_, fun q4 => ?_⟩
      · rintro _ rfl
        rw [nI_1]
        rw [if_neg q4] at hs
        exact hR2 _ ⟨rk wt mi how j, by rw [hs], fun i e => by rw [hs] at e; cases e; rfl⟩
      · rw [if_pos (Decidable.not_not.mp q4)] at hs
        exact hnew hs
  · rintro s ⟨best, rfl, -⟩ R
    show wX2_choose_L8 b (some (26 + how)) (oI but) R (some (26 + how)) (oI but) (oI (fCh wt mi M how but nw)) best (nI nw) st Q
    unfold wX2_choose_L8
    rw [e0]
    exact ⟨fun _ => hq, fun q => absurd (nI_le (Nat.le_refl _) (by omega)) q⟩
theorem r_rather {how one than : Nat} (hB : BB nw pl wt mi) (hK : KB nw pl wt mi st) (hh : how < 4) (h1 : one < nw) (h2 : than < nw) (hq : Q (bI (fRather wt mi how one than)) st) : wX12_isRather 54 (wI (8 + how)) (nI one) (nI than) st Q := by
  unfold wX12_isRather
  have h8 := hB.1
  have a1 := hK.2.2.1 one h1
  have a2 := hK.2.2.1 than h2
  have a3 := hK.2.2.2 one h1
  have a4 := hK.2.2.2 than h2
  have b1 := hB.2.2 one
  have b2 := hB.2.2 than
  have i1 : vp_in (nI one) 9 := (vin_iff (by omega)).mpr (by omega)
  have i2 : vp_in (nI than) 9 := (vin_iff (by omega)).mpr (by omega)
  rw [nI_clamp (n := one) (by omega), nI_clamp (n := than) (by omega), a1, a2, a3, a4]
  have key : ∀ (x y : Nat) (c : Bool), x ≤ 20 → y ≤ 20 → (c = decide (x < y)) → Q (bI c) st → (nI y ≤ nI x → Q 0 st) ∧ (¬ nI y ≤ nI x → Q 1 st) := by
    rintro x y c hx hy rfl hc
    rw [nI_leI (by omega) (by omega)]
    refine ⟨fun q => ?_, fun q => ?_⟩
    · rw [decide_eq_false (by omega)] at hc; exact hc
    · rw [decide_eq_true (by omega)] at hc; exact hc
  have hc : how = 0 ∨ how = 1 ∨ how = 2 ∨ how = 3 := by omega
  rcases hc with rfl | rfl | rfl | rfl
  · exact ⟨fun q => absurd (show wI (8 + 0) = -2 from by decide) q, fun _ => ⟨i1, i2, key _ _ _ (by omega) (by omega) rfl hq⟩⟩
  · exact ⟨fun _ => ⟨fun q => absurd (show wI (8 + 1) = -3 from by decide) q, fun _ => ⟨i1, i2, key _ _ _ (by omega) (by omega) rfl hq⟩⟩, fun q => absurd q (by decide)⟩
  · exact ⟨fun _ => ⟨fun _ => ⟨fun q => absurd (show wI (8 + 2) = -4 from by decide) q, fun _ => ⟨i1, i2, key _ _ _ (by omega) (by omega) rfl hq⟩⟩, fun q => absurd q (by decide)⟩, fun q => absurd q (by decide)⟩
  · exact ⟨fun _ => ⟨fun _ => ⟨fun _ => ⟨i1, i2, key _ _ _ (by omega) (by omega) rfl hq⟩, fun q => absurd q (by decide)⟩, fun q => absurd q (by decide)⟩, fun q => absurd q (by decide)⟩
theorem wI_neg : ∀ how, how < 4 → wI (8 + how) < 0 := by decide
theorem r_meant {c : Nat} {but : Option Nat} (hB : BB nw pl wt mi) (hM : MB t M) (hK : KB nw pl wt mi st) (hR : RM st M) (hc : c < 12) (hb : ∀ o, but = some o → o < nw) (hq : Q (oI (fWho nw wt mi M c but)) st) : wX12_meant 54 (wI c) (oI but) st Q := by
  unfold wX12_meant
  have h8 := hB.1
  have ob : ∀ j, but = some j → j < 2 ^ 31 := fun j e => Nat.lt_trans (hb j e) (by omega)
  unfold fWho at hq
  by_cases q8 : c < 8
  · rw [if_pos q8] at hq
    have : wI c = nI c := if_pos q8
    rw [this]
    exact ⟨fun q => absurd q (nI_pos (by omega)), fun _ => hq⟩
  rw [if_neg q8] at hq
  obtain ⟨how, rfl⟩ : ∃ how, c = 8 + how := ⟨c - 8, by omega⟩
  rw [show 8 + how - 8 = how from by omega] at hq
  have hh : how < 4 := by omega
  refine ⟨fun _ => ?_, fun q => absurd (wI_neg how hh) q⟩
  refine lp_inv (n := nw) (I := fun k s => s = (wI (8 + how), oI but, oI (fCh wt mi M how but k), nI k, st)) ?_ ?_ rfl
  · rintro k s hk rfl R hR2
    show wX12_meant_L11 54 (wI (8 + how)) (oI but) R (wI (8 + how)) (oI but) (oI (fCh wt mi M how but k)) (nI k) st Q
    unfold wX12_meant_L11 wX12_meant_L57 wX12_meant_L60
    have hskip : (some k = but ∨ M (8 + k) ≠ M 0) → ∀ x : Int32, x = nI k + 1 → R (wI (8 + how), oI but, oI (fCh wt mi M how but k), x, st) := by
      rintro q _ rfl
      rw [nI_1]
      exact hR2 _ (by rw [fCh_skip q])
    have hnew : fCh wt mi M how but (k + 1) = some k → ∀ x : Int32, x = nI k + 1 → R (wI (8 + how), oI but, nI k, x, st) := by
      rintro q _ rfl
      rw [nI_1]
      exact hR2 _ (by rw [q]; rfl)
    rw [hK.1]
    refine ⟨fun q => absurd ((nI_leI (by omega) (by omega)).mp q) (by omega), fun _ => ⟨fun q => hskip (Or.inl ((oI_iff (by omega) ob).mp q)), fun q => ?_⟩⟩
    have q1 : ¬ some k = but := fun e => q ((oI_iff (by omega) ob).mpr e)
    refine r_isThere (x := some k) hM hR (fun o e => by cases e; omega) ?_
    refine ⟨fun q2 => ?_, fun q2 => hskip (Or.inr (of_decide_eq_false (bI0.mp q2)))⟩
    have q2 : M (8 + k) = M 0 := of_decide_eq_true ((Bool.not_eq_false _).mp (fun e => q2 (bI0.mpr e)))
    have q3 : ¬ (some k = but ∨ M (8 + k) ≠ M 0) := by rintro (a | a); exact q1 a; exact a q2
    cases hw : fCh wt mi M how but k with
    | none => exact ⟨fun _ => hnew (fCh_none q3 hw), fun q4 => absurd rfl q4⟩
    | some j =>
      have hj := fCh_lt hw
      refine ⟨fun q4 => ((ne_m1 (by omega)).mp q4).elim, fun _ => ?_⟩
      have hs := fCh_some q3 hw
      refine r_rather hB hK hh hk (by omega) ?_
      refine ⟨fun q4 => ?_, fun q4 => ?_⟩
      · rintro _ rfl
        rw [nI_1]
        rw [if_neg (by rw [bI0.mp q4]; decide)] at hs
        exact hR2 _ (by rw [hs])
      · rw [if_pos ((Bool.not_eq_false _).mp (fun e => q4 (bI0.mpr e)))] at hs
        exact hnew hs
  · rintro s rfl R
    show wX12_meant_L11 54 (wI (8 + how)) (oI but) R (wI (8 + how)) (oI but) (oI (fCh wt mi M how but nw)) (nI nw) st Q
    unfold wX12_meant_L11
    rw [hK.1]
    exact ⟨fun _ => hq, fun q => absurd (nI_le (Nat.le_refl _) (by omega)) q⟩
/-- a crossing that is sent: whether it is done -/
def fSnd1 (pl : Nat) (wt mi : Nat → Nat) (one : Nat) (other : Option Nat) (M : Nat → Nat) : Bool × (Nat → Nat) := if fCan pl mi one other M = true then (true, (fCross pl wt mi one other M).2) else (false, M)
def fSend (nw pl : Nat) (wt mi : Nat → Nat) (c1 : Nat) (c2 : Option Nat) (M : Nat → Nat) : Bool × (Nat → Nat) := match fWho nw wt mi M c1 none with
  | none => (false, M)
  | some one => match c2 with
    | none => fSnd1 pl wt mi one none M
    | some c => match fWho nw wt mi M c (some one) with
      | none => (false, M)
      | some o => if o = one then (false, M) else fSnd1 pl wt mi one (some o) M
def wO : Option Nat → Int32
  | none => -nI 1
  | some c => wI c
theorem wI_ne : ∀ c, c < 12 → wI c ≠ -1 := by decide
theorem r_snd1 {one : Nat} {other : Option Nat} {p1 p2 : Int32} (hB : BB nw pl wt mi) (hM : MB 120 M) (hK : KB nw pl wt mi st) (hR : RM st M) (hO : OK2 nw one other) (hq : ∀ st', FI P56 st st' → RM st' (fSnd1 pl wt mi one other M).2 → Q (bI (fSnd1 pl wt mi one other M).1) st') : wX12_send_L48 54 p1 p2 (nI one) (oI other) st Q := by
  unfold wX12_send_L48
  unfold fSnd1 at hq
  refine r_canCross hB hM hK hR hO ?_
  refine ⟨fun q => ?_, fun q => ?_⟩
  · have q := (Bool.not_eq_false _).mp (fun e => q (bI0.mpr e))
    rw [if_pos q] at hq
    exact r_cross hB hM hK hR hO (fCan_all q).2.2 hq
  · rw [if_neg (by rw [bI0.mp q]; decide)] at hq
    exact hq st FI.rf hR
theorem r_send {c1 : Nat} {c2 : Option Nat} (hB : BB nw pl wt mi) (hM : MB 120 M) (hK : KB nw pl wt mi st) (hR : RM st M) (h1 : c1 < 12) (h1n : c1 < 8 → c1 < nw) (h2 : ∀ c, c2 = some c → c < 12 ∧ (c < 8 → c < nw)) (hq : ∀ st', FI P56 st st' → RM st' (fSend nw pl wt mi c1 c2 M).2 → Q (bI (fSend nw pl wt mi c1 c2 M).1) st') : wX12_send 54 (wI c1) (wO c2) st Q := by
  unfold wX12_send
  have h8 := hB.1
  unfold fSend at hq
  refine r_meant (but := none) hB hM hK hR h1 (fun o e => by cases e) ?_
  cases hw : fWho nw wt mi M c1 none with
  | none =>
    simp only [hw] at hq
    exact ⟨fun q => absurd rfl q, fun _ => hq st FI.rf hR⟩
  | some one =>
    have ho := fWho_lt h1n hw
    simp only [hw] at hq
    refine ⟨fun _ => ?_, fun q => ((ne_m1 (by omega)).mp q).elim⟩
    cases c2 with
    | none =>
      refine ⟨fun q => absurd rfl q, fun _ => ?_⟩
      unfold wX12_send_L29
      exact ⟨fun _ => r_snd1 (other := none) hB hM hK hR ⟨ho, fun o e => by cases e⟩ hq, fun q => absurd rfl q⟩
    | some c =>
      obtain ⟨hc, hcn⟩ := h2 c rfl
      refine ⟨fun _ => ?_, fun q => absurd q (wI_ne c hc)⟩
      refine r_meant (but := some one) hB hM hK hR hc (fun o e => by cases e; exact ho) ?_
      unfold wX12_send_L29
      refine ⟨fun q => absurd q (wI_ne c hc), fun _ => ?_⟩
      cases hw2 : fWho nw wt mi M c (some one) with
      | none =>
        simp only [hw2] at hq
        exact ⟨fun _ => hq st FI.rf hR, fun q => absurd rfl q⟩
      | some o =>
        have ho2 := fWho_lt hcn hw2
        simp only [hw2] at hq
        refine ⟨fun q => ((ne_m1 (by omega)).mp q).elim, fun _ => ?_⟩
        rw [oI_some, oI_some, nI_eq (by omega) (by omega)]
        refine ⟨fun q => ?_, fun q => ?_⟩
        · rw [if_pos q] at hq
          exact hq st FI.rf hR
        · rw [if_neg q] at hq
          exact r_snd1 (other := some o) hB hM hK hR ⟨ho, fun o' e => by cases e; exact ⟨ho2, q⟩⟩ hq
end WH
/-! a bridge begun, copied, kept, brought back -/
theorem gI_cp (st : St) (s c d k : Nat) (m : Int32) : gI (sI st c (va_cpy (st.1 s) (st.1 c) (0 : Int32).toNatClampNeg (0 : Int32).toNatClampNeg m.toNatClampNeg)) d k = if d = c ∧ k < m.toNatClampNeg then gI st s k else gI st d k := by
  rw [gI_sI]
  have e0 : (0 : Int32).toNatClampNeg = 0 := rfl
  by_cases h : d = c
  · subst h
    rw [if_pos rfl]
    unfold va_cpy
    rw [e0]
    by_cases h2 : k < m.toNatClampNeg
    · rw [if_pos ⟨Nat.zero_le _, by omega⟩, if_pos ⟨rfl, h2⟩, show 0 + (k - 0) = k from by omega]
      rfl
    · rw [if_neg (by omega), if_neg (fun q => h2 q.2)]
      rfl
  · rw [if_neg h, if_neg (fun q => h q.1)]
def fBeg (sg : Nat → Nat) : Nat → Nat := fun j => if j = 1 then 60 else if 16 ≤ j ∧ j < 28 then sg (j - 16) else 0
theorem fBeg0 {sg : Nat → Nat} {j : Nat} (h : j ≠ 1) (h2 : ¬ (16 ≤ j ∧ j < 28)) : fBeg sg j = 0 := by unfold fBeg; rw [if_neg h, if_neg h2]
theorem fBeg1 {sg : Nat → Nat} : fBeg sg 1 = 60 := rfl
theorem fBegS {sg : Nat → Nat} {k : Nat} (h : k < 12) : fBeg sg (16 + k) = sg k := by unfold fBeg; rw [if_neg (by omega), if_pos (by omega)]; congr 1; omega
theorem MB.beg {sg : Nat → Nat} (h : ∀ k, k < 12 → sg k ≤ 30) : MB 120 (fBeg sg) := by
  refine ⟨fun j => ?_, fun k hk q => ?_⟩
  · unfold Bd fBeg
    by_cases e : 16 ≤ j ∧ j < 28
    · have := h (j - 16) (by omega)
      rw [if_neg (by omega), if_pos e]
      refine ⟨?_, ?_, ?_, ?_, ?_, ?_⟩ <;> intros <;> omega
    · rw [if_neg e]
      refine ⟨?_, ?_, ?_, ?_, ?_, ?_⟩ <;> intros <;> (try split) <;> omega
  · rw [fBeg0 (by omega) (by omega)] at q
    omega
def PB (b d : Nat) : Prop := b ≤ d ∧ d ≤ b + 5
section BG
variable {b nw pl t : Nat} {wt mi : Nat → Nat} {M M' : Nat → Nat} {st st' : St} {Q : Int32 → St → Prop} {Qv : St → Prop}
theorem sbt_full (hw : nw ≤ 8) (h : ∀ k, k < nw → M (8 + k) = 0) : SBt nw M (2 ^ nw - 1) := by
  refine ⟨?_, fun k => ?_⟩
  · have : 2 ^ nw ≤ 2 ^ 8 := Nat.pow_le_pow_right (by omega) hw
    omega
  · rw [Nat.testBit_two_pow_sub_one]
    by_cases q : k < nw
    · rw [decide_eq_true q, decide_eq_true (h k q)]; rfl
    · rw [decide_eq_false q]; rfl
theorem c_begin {p : Nat} {sg : Nat → Nat} (hd : b + 5 < p) (hw8 : nw ≤ 8) (hp12 : pl ≤ 12) (h4 : gI st p 4 = nI nw) (h6 : gI st p 6 = nI pl) (hw : ∀ k, k < nw → gI st (p + 2) k = nI (wt k)) (hm : ∀ k, k < nw → gI st (p + 3) k = nI (mi k)) (hs : ∀ k, k < pl → gI st (p + 4) k = nI (sg k))
    (hq : ∀ st', FI (PB b) st st' → CB b nw wt mi st' → BR b nw pl st' (fBeg sg) → Qv st') : wX2_begin b p st Qv := by
  unfold wX2_begin
  intro s1 e1 s2 e2 s3 e3 s4 e4 s5 e5 s6 e6
  have f1 : ∀ d k, gI s1 d k = if d = b ∧ k = 0 then nI nw else gI st d k := fun d k => by rw [e1, gI_uI, h4]
  have f2 : ∀ d k, gI s2 d k = if d = b + 1 ∧ k < 8 then gI s1 (p + 2) k else gI s1 d k := fun d k => by rw [e2]; exact gI_cp _ _ _ _ _ 8
  have f3 : ∀ d k, gI s3 d k = if d = b + 2 ∧ k < 8 then gI s2 (p + 3) k else gI s2 d k := fun d k => by rw [e3]; exact gI_cp _ _ _ _ _ 8
  have g0 : gI s3 b 0 = nI nw := by rw [f3, if_neg (by omega), f2, if_neg (by omega), f1, if_pos (by omega)]
  have g4 : ((1 : Int32) <<< ((gI s3 b 0) &&& 31)) - 1 = nI (2 ^ nw - 1) := by
    rw [g0]
    show nI 1 <<< (nI nw &&& nI 31) - nI 1 = _
    rw [shl_nI nw (by omega)]
    exact pk_sub (Nat.one_le_two_pow)
  have f4 : ∀ d k, gI s4 d k = if d = b ∧ k = 3 then nI (2 ^ nw - 1) else gI s3 d k := fun d k => by rw [e4, gI_uI, g4]
  have g6 : gI s4 p 6 = nI pl := by rw [f4, if_neg (by omega), f3, if_neg (by omega), f2, if_neg (by omega), f1, if_neg (by omega), h6]
  have f5 : ∀ d k, gI s5 d k = if d = b ∧ k = 4 then nI pl else gI s4 d k := fun d k => by rw [e5, gI_uI, g6]
  have f6 : ∀ d k, gI s6 d k = if d = b + 3 ∧ k < 12 then gI s5 (p + 4) k else gI s5 d k := fun d k => by rw [e6]; exact gI_cp _ _ _ _ _ 12
  have F6 : FI (PB b) st s6 := by
    rw [e6, e5, e4, e3, e2, e1]
    exact (((((FI.u (P := PB b) (by unfold PB; omega)).tr (FI.s (by unfold PB; omega))).tr (FI.s (by unfold PB; omega))).tr (FI.u (by unfold PB; omega))).tr (FI.u (by unfold PB; omega))).tr (FI.s (by unfold PB; omega))
  refine lp_inv (n := 12) (I := fun k s => ∃ u, s = (nI k, u) ∧ FI (PB b) st u ∧ ∀ d j, gI u d j = if d = b + 4 ∧ j < k then nI 0 else gI s6 d j) ?_ ?_ ⟨s6, rfl, F6, fun d j => by rw [if_neg (by omega)]⟩
  · rintro k s hk ⟨u, rfl, hF, hu⟩ R hR2
    show wX2_begin_L75 b p R (nI k) u Qv
    unfold wX2_begin_L75
    refine ⟨fun q => absurd ((nI_leI (a := 12) (by omega) (by omega)).mp q) (by omega), fun _ => ⟨(vin_iff (by omega)).mpr hk, ?_⟩⟩
    rintro _ rfl _ rfl
    rw [nI_1, nI_clamp (by omega)]
    refine hR2 _ ⟨_, rfl, hF.tr (FI.u (by unfold PB; omega)), fun d j => ?_⟩
    rw [gI_uI, hu]
    by_cases q : d = b + 4 ∧ j = k
    · rw [if_pos q, if_pos (by omega)]; rfl
    · rw [if_neg q]
      by_cases q2 : d = b + 4 ∧ j < k
      · rw [if_pos q2, if_pos (by omega)]
      · rw [if_neg q2, if_neg (by omega)]
  · rintro s ⟨u, rfl, hF, hu⟩ R
    show wX2_begin_L75 b p R (nI 12) u Qv
    unfold wX2_begin_L75
    refine ⟨fun _ => ?_, fun q => absurd (nI_le (Nat.le_refl 12) (by omega)) q⟩
    intro s7 e7 s8 e8 s9 e9 s10 e10 s11 e11 s12 e12 s13 e13
    have k7 : ∀ d k, gI s7 d k = if d = b ∧ k = 7 then nI 1 else gI u d k := fun d k => by rw [e7, gI_uI]; rfl
    have k8 : ∀ d k, gI s8 d k = if d = b ∧ k = 8 then nI 60 else gI s7 d k := fun d k => by rw [e8, gI_uI]; rfl
    have k9 : ∀ d k, gI s9 d k = if d = b ∧ k = 9 then nI 0 else gI s8 d k := fun d k => by rw [e9, gI_uI]; rfl
    have k10 : ∀ d k, gI s10 d k = if d = b ∧ k = 10 then nI 0 else gI s9 d k := fun d k => by rw [e10, gI_uI]; rfl
    have k11 : ∀ d k, gI s11 d k = if d = b ∧ k = 11 then nI 0 else gI s10 d k := fun d k => by rw [e11, gI_uI]; rfl
    have k12 : ∀ d k, gI s12 d k = if d = b ∧ k = 12 then nI 0 else gI s11 d k := fun d k => by rw [e12, gI_uI]; rfl
    have k13 : ∀ d k, gI s13 d k = if d = b ∧ k = 13 then nI 0 else gI s12 d k := fun d k => by rw [e13, gI_uI]; rfl
    have F13 : FI (PB b) st s13 := by
      rw [e13, e12, e11, e10, e9, e8, e7]
      have hb : PB b b := by unfold PB; omega
      exact ((((((hF.tr (FI.u hb)).tr (FI.u hb)).tr (FI.u hb)).tr (FI.u hb)).tr (FI.u hb)).tr (FI.u hb)).tr (FI.u hb)
    have lo : ∀ d j, (d ≠ b ∨ j < 7) → gI s13 d j = gI u d j := fun d j h => by
      rw [k13, if_neg (by omega), k12, if_neg (by omega), k11, if_neg (by omega), k10, if_neg (by omega), k9, if_neg (by omega), k8, if_neg (by omega), k7, if_neg (by omega)]
    have lu : ∀ d j, d ≠ b + 4 → gI u d j = gI s6 d j := fun d j h => by rw [hu, if_neg (by omega)]
    have z3 : gI s13 b 3 = nI (2 ^ nw - 1) := by rw [lo _ _ (by omega), lu _ _ (by omega), f6, if_neg (by omega), f5, if_neg (by omega), f4, if_pos ⟨rfl, rfl⟩]
    refine hq s13 F13 ⟨fun k hk => ?_, fun k hk => ?_⟩ ⟨fun j hj => ?_, ⟨2 ^ nw - 1, z3, sbt_full hw8 (fun k hk => fBeg0 (by omega) (by omega))⟩, fun k hk => ?_, fun k hk => ?_, fun k hk => ?_, fun k hk hk2 => ?_⟩
    · rw [lo _ _ (by omega), lu _ _ (by omega), f6, if_neg (by omega), f5, if_neg (by omega), f4, if_neg (by omega), f3, if_neg (by omega), f2, if_pos (by omega), f1, if_neg (by omega)]
      exact hw k hk
    · rw [lo _ _ (by omega), lu _ _ (by omega), f6, if_neg (by omega), f5, if_neg (by omega), f4, if_neg (by omega), f3, if_pos (by omega), f2, if_neg (by omega), f1, if_neg (by omega)]
      exact hm k hk
    · rcases hj with rfl | rfl | hj
      · rw [lo _ _ (by omega), lu _ _ (by omega), f6, if_neg (by omega), f5, if_neg (by omega), f4, if_neg (by omega)]
        exact g0
      · rw [lo _ _ (by omega), lu _ _ (by omega), f6, if_neg (by omega), f5, if_pos ⟨rfl, rfl⟩]
        rfl
      · have hc : j = 7 ∨ j = 8 ∨ j = 9 ∨ j = 10 ∨ j = 11 ∨ j = 12 ∨ j = 13 := by omega
        rcases hc with rfl | rfl | rfl | rfl | rfl | rfl | rfl
        · rw [k13, if_neg (by omega), k12, if_neg (by omega), k11, if_neg (by omega), k10, if_neg (by omega), k9, if_neg (by omega), k8, if_neg (by omega), k7, if_pos ⟨rfl, rfl⟩]; rfl
        · rw [k13, if_neg (by omega), k12, if_neg (by omega), k11, if_neg (by omega), k10, if_neg (by omega), k9, if_neg (by omega), k8, if_pos ⟨rfl, rfl⟩]; rfl
        · rw [k13, if_neg (by omega), k12, if_neg (by omega), k11, if_neg (by omega), k10, if_neg (by omega), k9, if_pos ⟨rfl, rfl⟩]; rfl
        · rw [k13, if_neg (by omega), k12, if_neg (by omega), k11, if_neg (by omega), k10, if_pos ⟨rfl, rfl⟩]; rfl
        · rw [k13, if_neg (by omega), k12, if_neg (by omega), k11, if_pos ⟨rfl, rfl⟩]; rfl
        · rw [k13, if_neg (by omega), k12, if_pos ⟨rfl, rfl⟩]; rfl
        · rw [k13, if_pos ⟨rfl, rfl⟩]; rfl
    · rw [lo _ _ (by omega), lu _ _ (by omega), f6, if_pos (by omega), f5, if_neg (by omega), f4, if_neg (by omega), f3, if_neg (by omega), f2, if_neg (by omega), f1, if_neg (by omega), hs k hk, fBegS (by omega)]
    · rw [lo _ _ (by omega), hu, if_pos (by omega), fBeg0 (by omega) (by omega)]
    · rw [lo _ _ (by omega), hu, if_pos (by omega)]
      exact Or.inl rfl
    · rw [fBeg0 (by omega) (by omega)] at hk2
      omega
theorem BR.cp {p : Nat} (h : BR p nw pl st M) (hw : nw ≤ 8) (hp : pl ≤ 12) (h0 : ∀ j, j < 14 → gI st' b j = gI st p j ∨ (j ≠ 0 ∧ j ≠ 3 ∧ j ≠ 4 ∧ j < 7)) (h3 : ∀ k, k < 12 → gI st' (b + 3) k = gI st (p + 3) k) (h4 : ∀ k, k < 12 → gI st' (b + 4) k = gI st (p + 4) k) (h5 : ∀ k, k < 10 → gI st' (b + 5) k = gI st (p + 5) k) : BR b nw pl st' M := by
  obtain ⟨a1, ⟨S, a2, a3⟩, a5, a6, a7, a8⟩ := h
  refine ⟨fun j hj => ?_, ⟨S, ?_, a3⟩, fun k hk => ?_, fun k hk => ?_, fun k hk => ?_, fun k hk hk2 => ?_⟩
  · rcases h0 j (by omega) with e | e
    · rw [e]; exact a1 j hj
    · omega
  · rcases h0 3 (by omega) with e | e
    · rw [e]; exact a2
    · omega
  · rw [h3 k (by omega)]; exact a5 k hk
  · rw [h4 k (by omega)]; exact a6 k hk
  · rw [h4 k hk]; exact a7 k hk
  · rw [h5 _ (Nat.mod_lt _ (by omega))]; exact a8 k hk hk2
theorem c_copy {p : Nat} (hd : p + 5 < b) (hB : BB nw pl wt mi) (hM : MB t M) (hC : CB p nw wt mi st) (h : BR p nw pl st M) (hq : ∀ st', FI (PB b) st st' → CB b nw wt mi st' → BR b nw pl st' M → Qv st') : wX2_copyFrom b p st Qv := by
  unfold wX2_copyFrom
  have h8 := hB.1
  have hp := hB.2.1
  intro s1 e1 s2 e2 s3 e3 s4 e4 s5 e5 s6 e6
  have f1 : ∀ d k, gI s1 d k = if d = b ∧ k = 0 then gI st p 0 else gI st d k := fun d k => by rw [e1, gI_uI]
  have f2 : ∀ d k, gI s2 d k = if d = b + 1 ∧ k < 8 then gI s1 (p + 1) k else gI s1 d k := fun d k => by rw [e2]; exact gI_cp _ _ _ _ _ 8
  have f3 : ∀ d k, gI s3 d k = if d = b + 2 ∧ k < 8 then gI s2 (p + 2) k else gI s2 d k := fun d k => by rw [e3]; exact gI_cp _ _ _ _ _ 8
  have f4 : ∀ d k, gI s4 d k = if d = b ∧ k = 3 then gI s3 p 3 else gI s3 d k := fun d k => by rw [e4, gI_uI]
  have f5 : ∀ d k, gI s5 d k = if d = b ∧ k = 4 then gI s4 p 4 else gI s4 d k := fun d k => by rw [e5, gI_uI]
  have f6 : ∀ d k, gI s6 d k = if d = b + 3 ∧ k < 12 then gI s5 (p + 3) k else gI s5 d k := fun d k => by rw [e6]; exact gI_cp _ _ _ _ _ 12
  have lo6 : ∀ d j, d < b → gI s6 d j = gI st d j := fun d j hdb => by
    rw [f6, if_neg (by omega), f5, if_neg (by omega), f4, if_neg (by omega), f3, if_neg (by omega), f2, if_neg (by omega), f1, if_neg (by omega)]
  have hb : ∀ i, i ≤ 5 → PB b (b + i) := fun i hi => by unfold PB; omega
  have F6 : FI (PB b) st s6 := by
    rw [e6, e5, e4, e3, e2, e1]
    exact (((((FI.u (hb 0 (by omega))).tr (FI.s (hb 1 (by omega)))).tr (FI.s (hb 2 (by omega)))).tr (FI.u (hb 0 (by omega)))).tr (FI.u (hb 0 (by omega)))).tr (FI.s (hb 3 (by omega)))
  refine lp_inv (n := 12) (I := fun k s => ∃ u, s = (nI k, u) ∧ FI (PB b) s6 u ∧ ∀ d j, gI u d j = if d = b + 4 ∧ j < k then gI s6 (p + 4) j else gI s6 d j) ?_ ?_ ⟨s6, rfl, FI.rf, fun d j => by rw [if_neg (by omega)]⟩
  · rintro k s hk ⟨u, rfl, hF, hu⟩ R hR2
    show wX2_copyFrom_L71 b p R (nI k) u Qv
    unfold wX2_copyFrom_L71
    refine ⟨fun q => absurd ((nI_leI (a := 12) (by omega) (by omega)).mp q) (by omega), fun _ => ⟨(vin_iff (by omega)).mpr hk, (vin_iff (by omega)).mpr hk, ?_, ?_⟩⟩
    · rw [nI_clamp (by omega), hu, if_neg (by omega), lo6 _ _ (by omega)]
      exact h.bz9 hk
    rintro _ rfl _ rfl
    rw [nI_1, nI_clamp (by omega)]
    refine hR2 _ ⟨_, rfl, hF.tr (FI.u (hb 4 (by omega))), fun d j => ?_⟩
    rw [gI_uI]
    by_cases q : d = b + 4 ∧ j = k
    · rw [if_pos q, if_pos (by omega), q.2, hu, if_neg (by omega)]
    · rw [if_neg q, hu]
      by_cases q2 : d = b + 4 ∧ j < k
      · rw [if_pos q2, if_pos (by omega)]
      · rw [if_neg q2, if_neg (by omega)]
  rintro s ⟨s7, rfl, hF7, f7⟩ R
  show wX2_copyFrom_L71 b p R (nI 12) s7 Qv
  unfold wX2_copyFrom_L71
  refine ⟨fun _ => ?_, fun q => absurd (nI_le (Nat.le_refl 12) (by omega)) q⟩
  have lo7 : ∀ d j, d < b → gI s7 d j = gI st d j := fun d j hdb => by rw [f7, if_neg (by omega), lo6 d j hdb]
  refine ⟨?_, ?_⟩
  · rw [lo7 _ _ (by omega), h.la]
    have := hM.la
    have hc : M 0 = 0 ∨ M 0 = 1 := by omega
    rcases hc with e | e
    · rw [e]; exact Or.inr rfl
    · rw [e]; exact Or.inl rfl
  intro s8 e8 s9 e9 s10 e10 s11 e11 s12 e12 s13 e13 s14 e14 s15 e15
  have f8 : ∀ d k, gI s8 d k = if d = b ∧ k = 7 then gI s7 p 7 else gI s7 d k := fun d k => by rw [e8, gI_uI]
  have f9 : ∀ d k, gI s9 d k = if d = b ∧ k = 8 then gI s8 p 8 else gI s8 d k := fun d k => by rw [e9, gI_uI]
  have f10 : ∀ d k, gI s10 d k = if d = b ∧ k = 9 then gI s9 p 9 else gI s9 d k := fun d k => by rw [e10, gI_uI]
  have f11 : ∀ d k, gI s11 d k = if d = b ∧ k = 10 then gI s10 p 10 else gI s10 d k := fun d k => by rw [e11, gI_uI]
  have f12 : ∀ d k, gI s12 d k = if d = b ∧ k = 11 then gI s11 p 11 else gI s11 d k := fun d k => by rw [e12, gI_uI]
  have f13 : ∀ d k, gI s13 d k = if d = b ∧ k = 12 then gI s12 p 12 else gI s12 d k := fun d k => by rw [e13, gI_uI]
  have f14 : ∀ d k, gI s14 d k = if d = b ∧ k = 13 then gI s13 p 13 else gI s13 d k := fun d k => by rw [e14, gI_uI]
  have f15 : ∀ d k, gI s15 d k = if d = b + 5 ∧ k < 10 then gI s14 (p + 5) k else gI s14 d k := fun d k => by rw [e15]; exact gI_cp _ _ _ _ _ 10
  have F15 : FI (PB b) st s15 := by
    rw [e15, e14, e13, e12, e11, e10, e9, e8]
    exact ((((((((F6.tr hF7).tr (FI.u (hb 0 (by omega)))).tr (FI.u (hb 0 (by omega)))).tr (FI.u (hb 0 (by omega)))).tr (FI.u (hb 0 (by omega)))).tr (FI.u (hb 0 (by omega)))).tr (FI.u (hb 0 (by omega)))).tr (FI.u (hb 0 (by omega)))).tr (FI.s (hb 5 (by omega)))
  have lo14 : ∀ d j, (d ≠ b ∨ j < 7) → gI s14 d j = gI s7 d j := fun d j hdb => by
    rw [f14, if_neg (by omega), f13, if_neg (by omega), f12, if_neg (by omega), f11, if_neg (by omega), f10, if_neg (by omega), f9, if_neg (by omega), f8, if_neg (by omega)]
  have lo8 : ∀ j, gI s8 p j = gI st p j := fun j => by rw [f8, if_neg (by omega), lo7 _ _ (by omega)]
  have lo9 : ∀ j, gI s9 p j = gI st p j := fun j => by rw [f9, if_neg (by omega), lo8]
  have lo10 : ∀ j, gI s10 p j = gI st p j := fun j => by rw [f10, if_neg (by omega), lo9]
  have lo11 : ∀ j, gI s11 p j = gI st p j := fun j => by rw [f11, if_neg (by omega), lo10]
  have lo12 : ∀ j, gI s12 p j = gI st p j := fun j => by rw [f12, if_neg (by omega), lo11]
  have lo13 : ∀ j, gI s13 p j = gI st p j := fun j => by rw [f13, if_neg (by omega), lo12]
  refine hq s15 F15 ⟨fun k hk => ?_, fun k hk => ?_⟩ (h.cp h8 hp (fun j hj => ?_) (fun k hk => ?_) (fun k hk => ?_) (fun k hk => ?_))
  · rw [f15, if_neg (by omega), lo14 _ _ (by omega), f7, if_neg (by omega), f6, if_neg (by omega), f5, if_neg (by omega), f4, if_neg (by omega), f3, if_neg (by omega), f2, if_pos (by omega), f1, if_neg (by omega)]
    exact hC.1 k hk
  · rw [f15, if_neg (by omega), lo14 _ _ (by omega), f7, if_neg (by omega), f6, if_neg (by omega), f5, if_neg (by omega), f4, if_neg (by omega), f3, if_pos (by omega), f2, if_neg (by omega), f1, if_neg (by omega)]
    exact hC.2 k hk
  · rw [f15, if_neg (by omega)]
    have hc : j = 0 ∨ j = 3 ∨ j = 4 ∨ (j ≠ 0 ∧ j ≠ 3 ∧ j ≠ 4 ∧ j < 7) ∨ j = 7 ∨ j = 8 ∨ j = 9 ∨ j = 10 ∨ j = 11 ∨ j = 12 ∨ j = 13 := by omega
    rcases hc with rfl | rfl | rfl | e | rfl | rfl | rfl | rfl | rfl | rfl | rfl
    · left; rw [lo14 _ _ (by omega), f7, if_neg (by omega), f6, if_neg (by omega), f5, if_neg (by omega), f4, if_neg (by omega), f3, if_neg (by omega), f2, if_neg (by omega), f1, if_pos ⟨rfl, rfl⟩]
    · left; rw [lo14 _ _ (by omega), f7, if_neg (by omega), f6, if_neg (by omega), f5, if_neg (by omega), f4, if_pos ⟨rfl, rfl⟩, f3, if_neg (by omega), f2, if_neg (by omega), f1, if_neg (by omega)]
    · left; rw [lo14 _ _ (by omega), f7, if_neg (by omega), f6, if_neg (by omega), f5, if_pos ⟨rfl, rfl⟩, f4, if_neg (by omega), f3, if_neg (by omega), f2, if_neg (by omega), f1, if_neg (by omega)]
    · exact Or.inr e
    · left; rw [f14, if_neg (by omega), f13, if_neg (by omega), f12, if_neg (by omega), f11, if_neg (by omega), f10, if_neg (by omega), f9, if_neg (by omega), f8, if_pos ⟨rfl, rfl⟩, lo7 _ _ (by omega)]
    · left; rw [f14, if_neg (by omega), f13, if_neg (by omega), f12, if_neg (by omega), f11, if_neg (by omega), f10, if_neg (by omega), f9, if_pos ⟨rfl, rfl⟩, lo8]
    · left; rw [f14, if_neg (by omega), f13, if_neg (by omega), f12, if_neg (by omega), f11, if_neg (by omega), f10, if_pos ⟨rfl, rfl⟩, lo9]
    · left; rw [f14, if_neg (by omega), f13, if_neg (by omega), f12, if_neg (by omega), f11, if_pos ⟨rfl, rfl⟩, lo10]
    · left; rw [f14, if_neg (by omega), f13, if_neg (by omega), f12, if_pos ⟨rfl, rfl⟩, lo11]
    · left; rw [f14, if_neg (by omega), f13, if_pos ⟨rfl, rfl⟩, lo12]
    · left; rw [f14, if_pos ⟨rfl, rfl⟩, lo13]
  · rw [f15, if_neg (by omega), lo14 _ _ (by omega), f7, if_neg (by omega), f6, if_pos (by omega), f5, if_neg (by omega), f4, if_neg (by omega), f3, if_neg (by omega), f2, if_neg (by omega), f1, if_neg (by omega)]
  · rw [f15, if_neg (by omega), lo14 _ _ (by omega), f7, if_pos (by omega), lo6 _ _ (by omega)]
  · rw [f15, if_pos (by omega), lo14 _ _ (by omega), lo7 _ _ (by omega)]
/-- what is kept -/
def RK (st : St) (M : Nat → Nat) : Prop := ∀ k, k < 50 → gI st 57 k = nI (M k)
theorem r_keep (hR : RM st M) (hq : ∀ st', FI (fun d => d = 57) st st' → RM st' M → RK st' M → Qv st') : wX12_keep 54 st Qv := by
  unfold wX12_keep
  intro s1 e1
  have f1 : ∀ d k, gI s1 d k = if d = 57 ∧ k < 50 then gI st 56 k else gI st d k := fun d k => by rw [e1]; exact gI_cp _ _ _ _ _ 50
  refine hq s1 (by rw [e1]; exact FI.s rfl) (fun k hk => ?_) (fun k hk => ?_)
  · rw [f1, if_neg (by omega)]; exact hR k hk
  · rw [f1, if_pos ⟨rfl, hk⟩]; exact hR k hk
theorem r_back (hR : RK st M) (hq : ∀ st', FI P56 st st' → RM st' M → RK st' M → Qv st') : wX12_bringBack 54 st Qv := by
  unfold wX12_bringBack
  intro s1 e1
  have f1 : ∀ d k, gI s1 d k = if d = 56 ∧ k < 50 then gI st 57 k else gI st d k := fun d k => by rw [e1]; exact gI_cp _ _ _ _ _ 50
  refine hq s1 (by rw [e1]; exact FI.s rfl) (fun k hk => ?_) (fun k hk => ?_)
  · rw [f1, if_pos ⟨rfl, hk⟩]; exact hR k hk
  · rw [f1, if_neg (by omega)]; exact hR k hk
/-- the reference begins -/
theorem r_begin {sg : Nat → Nat} (hs : ∀ k, k < 12 → gI st 63 k = nI (sg k)) (hq : ∀ st', FI P56 st st' → RM st' (fBeg sg) → Qv st') : wX12_begin 54 st Qv := by
  unfold wX12_begin
  refine lp_inv (n := 50) (I := fun k s => ∃ u, s = (nI k, u) ∧ FI P56 st u ∧ ∀ j, j < k → gI u 56 j = nI 0) ?_ ?_ ⟨st, rfl, FI.rf, fun j hj => absurd hj (by omega)⟩
  · rintro k s hk ⟨u, rfl, hF, hu⟩ R hR2
    show wX12_begin_L2 54 R (nI k) u Qv
    unfold wX12_begin_L2
    refine ⟨fun q => absurd ((nI_leI (a := 50) (by omega) (by omega)).mp q) (by omega), fun _ => ⟨(vin_iff (by omega)).mpr hk, ?_⟩⟩
    rintro _ rfl _ rfl
    rw [nI_1, nI_clamp (by omega)]
    refine hR2 _ ⟨_, rfl, hF.tr (FI.u rfl), fun j hj => ?_⟩
    rw [gI_uI]
    by_cases q : j = k
    · rw [if_pos ⟨rfl, q⟩]; rfl
    · rw [if_neg (fun a => q a.2)]; exact hu j (by omega)
  · rintro s ⟨u, rfl, hF, hu⟩ R
    show wX12_begin_L2 54 R (nI 50) u Qv
    unfold wX12_begin_L2
    refine ⟨fun _ => ⟨(vin_iff (k := 1) (by omega)).mpr (by omega), ?_⟩, fun q => absurd (nI_le (Nat.le_refl 50) (by omega)) q⟩
    intro s1 e1 s2 e2
    have f1 : ∀ d k, gI s1 d k = if d = 56 ∧ k = 1 then nI 60 else gI u d k := fun d k => by rw [e1, gI_uI]; rfl
    have f2 : ∀ k, gI s2 56 k = if 16 ≤ k ∧ k < 28 then gI s1 63 (k - 16) else gI s1 56 k := fun k => by
      rw [e2, gI_sI, if_pos rfl]
      unfold va_cpy
      rw [show (0 : Int32).toNatClampNeg = 0 from rfl, show (16 : Int32).toNatClampNeg = 16 from rfl, show (12 : Int32).toNatClampNeg = 12 from rfl, Nat.zero_add]
      rfl
    have F2 : FI P56 st s2 := by
      rw [e2, e1]
      exact (hF.tr (FI.u rfl)).tr (FI.s rfl)
    refine hq s2 F2 (fun k hk => ?_)
    rw [f2]
    by_cases q : 16 ≤ k ∧ k < 28
    · rw [if_pos q, f1, if_neg (by omega), hF.gI (by unfold P56; omega), hs _ (by omega)]
      unfold fBeg
      rw [if_neg (by omega), if_pos q]
    · rw [if_neg q, f1]
      by_cases q1 : k = 1
      · rw [if_pos ⟨rfl, q1⟩, q1]; rfl
      · rw [if_neg (fun a => q1 a.2), hu k hk, fBeg0 q1 q]
end BG
/-! in how few minutes: the crossings as a graph; nodes: who is near (a number of bits) and the lamp (0 near, 1 far) -/
def bt (a b : Nat) : Nat := 2 ^ a ||| 2 ^ b
def tk (mi : Nat → Nat) (a b : Nat) : Nat := if mi a < mi b then mi b else mi a
def Ed (S l a b : Nat) : Prop := if l = 0 then S &&& bt a b = bt a b else S &&& bt a b = 0
theorem bt_tb (a b i : Nat) : (bt a b).testBit i = (decide (a = i) || decide (b = i)) := by
  unfold bt
  rw [Nat.testBit_or, Nat.testBit_two_pow, Nat.testBit_two_pow]
theorem bt_co (a b : Nat) : bt a b = bt b a := Nat.or_comm _ _
theorem tk_co (mi : Nat → Nat) (a b : Nat) : tk mi a b = tk mi b a := by unfold tk; split <;> split <;> omega
theorem bt_pos (a b : Nat) : bt a b ≠ 0 := by
  intro h
  have := bt_tb a b a
  rw [h, Nat.zero_testBit, decide_eq_true rfl] at this
  cases this
theorem bt_lt {n a b : Nat} (ha : a < n) (hb : b < n) : bt a b < 2 ^ n := Nat.or_lt_two_pow (Nat.pow_lt_pow_right (by omega) ha) (Nat.pow_lt_pow_right (by omega) hb)
theorem xb_lt {n S a b : Nat} (hS : S < 2 ^ n) (ha : a < n) (hb : b < n) : S ^^^ bt a b < 2 ^ n := Nat.xor_lt_two_pow hS (bt_lt ha hb)
theorem xb_xb (S a b : Nat) : S ^^^ bt a b ^^^ bt a b = S := by
  apply Nat.eq_of_testBit_eq
  intro i
  rw [Nat.testBit_xor, Nat.testBit_xor]
  cases S.testBit i <;> cases (bt a b).testBit i <;> rfl
theorem Ed.sw {S l a b : Nat} (h : Ed S l a b) : Ed S l b a := by unfold Ed at h ⊢; rw [bt_co b a]; exact h
theorem ed_near {S a b : Nat} (ha : S.testBit a = true) (hb : S.testBit b = true) : Ed S 0 a b := by
  unfold Ed
  rw [if_pos rfl]
  apply Nat.eq_of_testBit_eq
  intro i
  rw [Nat.testBit_and, bt_tb]
  by_cases q : a = i
  · rw [← q, ha, decide_eq_true rfl]; rfl
  · by_cases q2 : b = i
    · rw [← q2, hb, decide_eq_true rfl]; simp
    · rw [decide_eq_false q, decide_eq_false q2]; simp
theorem ed_far {S l a b : Nat} (hl : l ≠ 0) (ha : S.testBit a = false) (hb : S.testBit b = false) : Ed S l a b := by
  unfold Ed
  rw [if_neg hl]
  apply Nat.eq_of_testBit_eq
  intro i
  rw [Nat.testBit_and, bt_tb, Nat.zero_testBit]
  by_cases q : a = i
  · rw [← q, ha]; rfl
  · by_cases q2 : b = i
    · rw [← q2, hb]; rfl
    · rw [decide_eq_false q, decide_eq_false q2]; simp
theorem ed_nearb {S a b : Nat} (h : Ed S 0 a b) : S.testBit a = true ∧ S.testBit b = true := by
  unfold Ed at h
  rw [if_pos rfl] at h
  have h1 := congrArg (fun x => x.testBit a) h
  have h2 := congrArg (fun x => x.testBit b) h
  simp only [Nat.testBit_and, bt_tb, decide_true, Bool.true_or, Bool.or_true, Bool.and_true] at h1 h2
  exact ⟨h1, h2⟩
theorem ed_farb {S l a b : Nat} (hl : l ≠ 0) (h : Ed S l a b) : S.testBit a = false ∧ S.testBit b = false := by
  unfold Ed at h
  rw [if_neg hl] at h
  have h1 := congrArg (fun x => x.testBit a) h
  have h2 := congrArg (fun x => x.testBit b) h
  simp only [Nat.testBit_and, bt_tb, decide_true, Bool.true_or, Bool.or_true, Bool.and_true, Nat.zero_testBit] at h1 h2
  exact ⟨h1, h2⟩
theorem xb_tb (S a b i : Nat) : (S ^^^ bt a b).testBit i = (S.testBit i ^^ (decide (a = i) || decide (b = i))) := by rw [Nat.testBit_xor, bt_tb]
theorem Ed.bk {S l a b : Nat} (hl : l ≤ 1) (h : Ed S l a b) : Ed (S ^^^ bt a b) (1 - l) a b := by
  by_cases q : l = 0
  · subst q
    obtain ⟨h1, h2⟩ := ed_nearb h
    refine ed_far (by omega) ?_ ?_
    · rw [xb_tb, h1, decide_eq_true rfl]; rfl
    · rw [xb_tb, h2, decide_eq_true (p := b = b) rfl, Bool.or_true]; rfl
  · obtain ⟨h1, h2⟩ := ed_farb q h
    rw [show 1 - l = 0 from by omega]
    refine ed_near ?_ ?_
    · rw [xb_tb, h1, decide_eq_true rfl]; rfl
    · rw [xb_tb, h2, decide_eq_true (p := b = b) rfl, Bool.or_true]; rfl
/-- the next node is not the one with nobody near and the lamp near -/
theorem Ed.nz {S l a b : Nat} (h : Ed S l a b) (hl : l ≤ 1) : S ^^^ bt a b ≠ 0 ∨ 1 - l = 1 := by
  by_cases q : l = 0
  · right; omega
  · left
    obtain ⟨h1, h2⟩ := ed_farb q h
    intro e
    have := xb_tb S a b a
    rw [e, h1, decide_eq_true rfl, Nat.zero_testBit] at this
    cases this
theorem Ed.sn {S a b : Nat} (h : Ed S 0 a b) : S ≠ 0 := by
  rintro rfl
  have := (ed_nearb h).1
  rw [Nat.zero_testBit] at this
  cases this
/-- a way of at most n crossings from a node to the end, in v minutes -/
def Pth (nw : Nat) (mi : Nat → Nat) : Nat → Nat → Nat → Nat → Prop
  | 0, S, l, v => S = 0 ∧ l = 1 ∧ v = 0
  | n + 1, S, l, v => Pth nw mi n S l v ∨ ∃ a b w, a < nw ∧ b < nw ∧ Ed S l a b ∧ v = tk mi a b + w ∧ Pth nw mi n (S ^^^ bt a b) (1 - l) w
section GR
variable {nw : Nat} {mi : Nat → Nat}
theorem Pth.mo {n S l v : Nat} (h : Pth nw mi n S l v) {m : Nat} (hm : n ≤ m) : Pth nw mi m S l v := by
  obtain ⟨d, rfl⟩ : ∃ d, m = n + d := ⟨m - n, by omega⟩
  induction d with
  | zero => exact h
  | succ d ih => exact Or.inl (ih (by omega))
theorem tk_pos {a b : Nat} (hm : ∀ k, k < nw → 1 ≤ mi k) (ha : a < nw) (hb : b < nw) : 1 ≤ tk mi a b := by
  have := hm a ha
  have := hm b hb
  unfold tk; split <;> omega
theorem tk_le {a b : Nat} (hm : ∀ k, mi k ≤ 20) : tk mi a b ≤ 20 := by
  have := hm a
  have := hm b
  unfold tk; split <;> omega
/-- each crossing takes a minute at least -/
theorem Pth.sh (hm : ∀ k, k < nw → 1 ≤ mi k) : ∀ {n S l v : Nat}, Pth nw mi n S l v → Pth nw mi v S l v := by
  intro n
  induction n with
  | zero => rintro S l v ⟨rfl, rfl, rfl⟩; exact ⟨rfl, rfl, rfl⟩
  | succ n ih =>
    rintro S l v (h | ⟨a, b, w, ha, hb, he, rfl, h⟩)
    · exact ih h
    · have h1 := tk_pos hm ha hb
      exact Pth.mo (n := w + 1) (Or.inr ⟨a, b, w, ha, hb, he, rfl, ih h⟩) (by omega)
theorem tb_lt {S k i : Nat} (hS : S < 2 ^ k) (h : S.testBit i = true) : i < k := by
  apply Nat.lt_of_not_le
  intro q
  rw [Nat.testBit_lt_two_pow (Nat.lt_of_lt_of_le hS (Nat.pow_le_pow_right (by omega) q))] at h
  cases h
theorem way_near (hm : ∀ k, mi k ≤ 20) : ∀ (k S : Nat), k ≤ nw → S < 2 ^ k → S ≠ 0 → ∃ n v, Pth nw mi n S 0 v ∧ v ≤ 40 * k := by
  intro k
  induction k with
  | zero => intro S _ h h0; exact absurd h (by omega)
  | succ k ih =>
    intro S hk hS h0
    by_cases q : S < 2 ^ k
    · obtain ⟨n, v, h1, h2⟩ := ih S (by omega) q h0
      exact ⟨n, v, h1, by omega⟩
    · have e2 : 2 ^ (k + 1) = 2 * 2 ^ k := by rw [Nat.pow_succ]; omega
      have hbk : S.testBit k = true := by
        rw [Nat.testBit_eq_decide_div_mod_eq]
        have : S / 2 ^ k = 1 := by
          apply Nat.div_eq_of_lt_le <;> omega
        rw [this]; rfl
      have ht := tk_le (a := k) (b := k) hm
      obtain ⟨S1, hS1⟩ : ∃ S1, S1 = S ^^^ 2 ^ k := ⟨_, rfl⟩
      have tb1 : ∀ i, S1.testBit i = (S.testBit i ^^ decide (k = i)) := fun i => by rw [hS1, Nat.testBit_xor, Nat.testBit_two_pow]
      have hlt : S1 < 2 ^ k := by
        apply Nat.lt_pow_two_of_testBit
        intro i hi
        rw [tb1]
        by_cases qi : k = i
        · rw [← qi, hbk, decide_eq_true rfl]; rfl
        · rw [decide_eq_false qi, Nat.testBit_lt_two_pow (Nat.lt_of_lt_of_le hS (Nat.pow_le_pow_right (by omega) (by omega)))]; rfl
      have hkk : S ^^^ bt k k = S1 := by
        rw [hS1]; unfold bt; rw [Nat.or_self]
      by_cases q1 : S1 = 0
      · exact ⟨1, tk mi k k, Or.inr ⟨k, k, 0, by omega, by omega, ed_near hbk hbk, rfl, by rw [hkk]; exact ⟨q1, rfl, rfl⟩⟩, by omega⟩
      · obtain ⟨b, hb⟩ := Nat.exists_testBit_of_ne_zero q1
        have hbl := tb_lt hlt hb
        have hbS : S.testBit b = true := by
          have := tb1 b
          rw [hb, decide_eq_false (by omega)] at this
          simpa using this.symm
        obtain ⟨n, v, h1, h2⟩ := ih S1 (by omega) hlt q1
        have ht2 := tk_le (a := k) (b := b) hm
        have ht3 := tk_le (a := b) (b := b) hm
        have hback : S ^^^ bt k b ^^^ bt b b = S1 := by
          apply Nat.eq_of_testBit_eq
          intro i
          rw [xb_tb, xb_tb, tb1]
          by_cases qb : b = i
          · rw [decide_eq_true qb, decide_eq_false (p := k = i) (by omega)]; cases S.testBit i <;> rfl
          · rw [decide_eq_false qb]; cases S.testBit i <;> cases decide (k = i) <;> rfl
        refine ⟨n + 1 + 1, tk mi k b + (tk mi b b + v), Or.inr ⟨k, b, tk mi b b + v, by omega, by omega, ed_near hbk hbS, rfl, Or.inr ⟨b, b, v, by omega, by omega, ?_, rfl, ?_⟩⟩, by omega⟩
        · refine ed_far (by omega) ?_ ?_ <;> (rw [xb_tb, hbS, decide_eq_true (p := b = b) rfl, Bool.or_true]; rfl)
        · rw [hback]; exact h1
theorem way_far (hm : ∀ k, mi k ≤ 20) {S a : Nat} (hS : S < 2 ^ nw) (ha : a < nw) (h : S.testBit a = false) : ∃ n v, Pth nw mi n S 1 v ∧ v ≤ 40 * nw + 20 := by
  have he : Ed S 1 a a := ed_far (by omega) h h
  obtain ⟨n, v, h1, h2⟩ := way_near (nw := nw) hm nw (S ^^^ bt a a) (Nat.le_refl _) (xb_lt hS ha ha) (by rcases he.nz (by omega) with e | e; exact e; omega)
  have ht := tk_le (a := a) (b := a) hm
  exact ⟨n + 1, tk mi a a + v, Or.inr ⟨a, a, v, ha, ha, he, rfl, h1⟩, by omega⟩
/-- v is the fewest minutes from this node, 1000000 if there is no way -/
def Opt (nw : Nat) (mi : Nat → Nat) (S l v : Nat) : Prop := v ≤ 1000000 ∧ (v = 1000000 ∨ ∃ n, Pth nw mi n S l v) ∧ ∀ n w, Pth nw mi n S l w → v ≤ w
theorem Opt.un {S l v w : Nat} (h : Opt nw mi S l v) (h2 : Opt nw mi S l w) : v = w := by
  have key : ∀ {x y : Nat}, Opt nw mi S l x → Opt nw mi S l y → x ≤ y := by
    intro x y hx hy
    rcases hy.2.1 with e | ⟨n, e⟩
    · rw [e]; exact hx.1
    · exact hx.2.2 n y e
  exact Nat.le_antisymm (key h h2) (key h2 h)
/-- a table that is supported by ways -/
def Sup (nw : Nat) (mi : Nat → Nat) (T : Nat → Nat → Nat) : Prop := T 0 1 = 0 ∧ ∀ S l, S < 2 ^ nw → l ≤ 1 → (S ≠ 0 ∨ l = 1) → T S l ≤ 1000000 ∧ (T S l = 1000000 ∨ ∃ n, Pth nw mi n S l (T S l))
def WT (nw : Nat) (mi : Nat → Nat) (T : Nat → Nat → Nat) : Prop := T 0 1 = 0 ∧ ∀ S l, S < 2 ^ nw → l ≤ 1 → (S ≠ 0 ∨ l = 1) → Opt nw mi S l (T S l)
theorem WT.un {T T' : Nat → Nat → Nat} (h : WT nw mi T) (h2 : WT nw mi T') {S l : Nat} (hS : S < 2 ^ nw) (hl : l ≤ 1) (h0 : S ≠ 0 ∨ l = 1) : T S l = T' S l := (h.2 S l hS hl h0).un (h2.2 S l hS hl h0)
theorem Sup.set {T T' : Nat → Nat → Nat} (h : Sup nw mi T) {S l a b : Nat} (hS : S < 2 ^ nw) (hl : l ≤ 1) (ha : a < nw) (hb : b < nw) (he : Ed S l a b) (hlt : tk mi a b + T (S ^^^ bt a b) (1 - l) < T S l) (h1 : T' S l = tk mi a b + T (S ^^^ bt a b) (1 - l)) (h2 : ∀ S' l', S' < 2 ^ nw → l' ≤ 1 → ¬ (S' = S ∧ l' = l) → T' S' l' = T S' l') : Sup nw mi T' := by
  have hT := h.2 (S ^^^ bt a b) (1 - l) (xb_lt hS ha hb) (by omega) (he.nz hl)
  refine ⟨?_, fun S' l' hS' hl' h0 => ?_⟩
  · by_cases q : 0 = S ∧ 1 = l
    · obtain ⟨rfl, rfl⟩ := q
      rw [h.1] at hlt
      omega
    · rw [h2 0 1 (Nat.two_pow_pos _) (Nat.le_refl _) q]; exact h.1
  · by_cases q : S' = S ∧ l' = l
    · obtain ⟨rfl, rfl⟩ := q
      have hS2 := h.2 S' l' hS' hl' h0
      refine ⟨by omega, Or.inr ?_⟩
      rcases hT.2 with e | ⟨n, e⟩
      · omega
      · exact ⟨n + 1, Or.inr ⟨a, b, _, ha, hb, he, h1, e⟩⟩
    · rw [h2 S' l' hS' hl' q]; exact h.2 S' l' hS' hl' h0
/-- nothing can be bettered -/
def Clo (nw : Nat) (mi : Nat → Nat) (T : Nat → Nat → Nat) : Prop := ∀ S l a b, S < 2 ^ nw → l ≤ 1 → a < nw → b < nw → Ed S l a b → T S l ≤ tk mi a b + T (S ^^^ bt a b) (1 - l)
theorem Clo.wt {T : Nat → Nat → Nat} (h : Sup nw mi T) (hc : Clo nw mi T) : WT nw mi T := by
  have key : ∀ n S l v, S < 2 ^ nw → l ≤ 1 → Pth nw mi n S l v → T S l ≤ v := by
    intro n
    induction n with
    | zero => rintro S l v _ _ ⟨rfl, rfl, rfl⟩; rw [h.1]; exact Nat.le_refl _
    | succ n ih =>
      rintro S l v hS hl (q | ⟨a, b, w, ha, hb, he, rfl, q⟩)
      · exact ih S l v hS hl q
      · have h1 := hc S l a b hS hl ha hb he
        have h2 := ih _ _ _ (xb_lt hS ha hb) (by omega) q
        omega
  exact ⟨h.1, fun S l hS hl h0 => ⟨(h.2 S l hS hl h0).1, (h.2 S l hS hl h0).2, fun n w hp => key n S l w hS hl hp⟩⟩
/-- as good as all ways of r crossings -/
def Bf (nw : Nat) (mi : Nat → Nat) (r : Nat) (T : Nat → Nat → Nat) : Prop := ∀ S l v, S < 2 ^ nw → l ≤ 1 → Pth nw mi r S l v → T S l ≤ v
theorem Bf.wt {T : Nat → Nat → Nat} (hw : nw ≤ 8) (h1 : ∀ k, k < nw → 1 ≤ mi k) (h20 : ∀ k, mi k ≤ 20) (h : Sup nw mi T) (hb : Bf nw mi 512 T) : WT nw mi T := by
  refine ⟨h.1, fun S l hS hl h0 => ⟨(h.2 S l hS hl h0).1, (h.2 S l hS hl h0).2, fun n w hp => ?_⟩⟩
  have small : ∀ n v, v ≤ 512 → Pth nw mi n S l v → T S l ≤ v := fun n v hv hp => hb S l v hS hl (hp.sh h1 |>.mo hv)
  by_cases q : w ≤ 512
  · exact small n w q hp
  · have hs : ∃ n v, Pth nw mi n S l v ∧ v ≤ 40 * nw + 20 := by
      have hl2 : l = 0 ∨ l = 1 := by omega
      rcases hl2 with rfl | rfl
      · obtain ⟨n, v, a, b⟩ := way_near (nw := nw) h20 nw S (Nat.le_refl _) hS (by omega)
        exact ⟨n, v, a, by omega⟩
      · have : ∃ a, a < nw ∧ S.testBit a = false := by
          have hpw := hp.sh h1
          rw [show w = (w - 1) + 1 from by omega] at hpw
          have gen : ∀ m v, Pth nw mi m S 1 v → v ≠ 0 → ∃ a, a < nw ∧ S.testBit a = false := by
            intro m
            induction m with
            | zero => rintro v ⟨_, _, e⟩ hv; exact absurd e hv
            | succ m ih =>
              rintro v (e | ⟨a, b, w2, ha, hb2, he, -, -⟩) hv
              · exact ih v e hv
              · exact ⟨a, ha, (ed_farb (by omega) he).1⟩
          exact gen _ _ hp (by omega)
        obtain ⟨a, ha, hSa⟩ := this
        exact way_far h20 hS ha hSa
    obtain ⟨n2, v2, a, b⟩ := hs
    have := small n2 v2 (by omega) a
    omega
theorem WT.sm {T : Nat → Nat → Nat} (hw : nw ≤ 8) (h20 : ∀ k, mi k ≤ 20) (h : WT nw mi T) {S l : Nat} (hS : S < 2 ^ nw) (hl : l ≤ 1) (h0 : (l = 0 ∧ S ≠ 0) ∨ (l = 1 ∧ ∃ a, a < nw ∧ S.testBit a = false)) : T S l ≤ 340 := by
  rcases h0 with ⟨rfl, h0⟩ | ⟨rfl, a, ha, h0⟩
  · obtain ⟨n, v, h1, h2⟩ := way_near (nw := nw) h20 nw S (Nat.le_refl _) hS h0
    have := (h.2 S 0 hS hl (Or.inl h0)).2.2 n v h1
    omega
  · obtain ⟨n, v, h1, h2⟩ := way_far h20 hS ha h0
    have := (h.2 S 1 hS hl (Or.inr rfl)).2.2 n v h1
    omega
end GR
/-- the least with a property -/
def fFind (P : Nat → Bool) : Nat → Option Nat
  | 0 => none
  | k + 1 => match fFind P k with
    | some j => some j
    | none => if P k = true then some k else none
theorem fFind_no {P : Nat → Bool} : ∀ {n : Nat}, (∀ j, j < n → P j = false) → fFind P n = none := by
  intro n
  induction n with
  | zero => exact fun _ => rfl
  | succ n ih =>
    intro h
    unfold fFind
    rw [ih (fun j hj => h j (by omega))]
    show (if P n = true then some n else none) = none
    rw [h n (by omega)]; rfl
theorem fFind_at {P : Nat → Bool} {k : Nat} : ∀ {n : Nat}, (∀ j, j < k → P j = false) → P k = true → k < n → fFind P n = some k := by
  intro n
  induction n with
  | zero => intro _ _ h; exact absurd h (by omega)
  | succ n ih =>
    intro h hk hn
    unfold fFind
    by_cases q : k < n
    · rw [ih h hk q]
    · have e : k = n := by omega
      subst e
      rw [fFind_no h]
      show (if P k = true then some k else none) = _
      rw [hk]; rfl
theorem fFind_some {P : Nat → Bool} {k : Nat} : ∀ {n : Nat}, fFind P n = some k → k < n ∧ P k = true ∧ ∀ j, j < k → P j = false := by
  intro n
  induction n with
  | zero => intro h; cases h
  | succ n ih =>
    intro h
    unfold fFind at h
    cases e : fFind P n with
    | some j =>
      rw [e] at h
      cases h
      have := ih e
      exact ⟨by omega, this.2⟩
    | none =>
      rw [e] at h
      have h : (if P n = true then some n else none) = some k := h
      split at h
      · next q =>
        cases h
        refine ⟨by omega, q, fun j hj => ?_⟩
        cases hp : P j with
        | false => rfl
        | true =>
          exfalso
          have gen : ∀ m, j < m → (∃ i, fFind P m = some i) := by
            intro m
            induction m with
            | zero => intro hm; exact absurd hm (by omega)
            | succ m ih2 =>
              intro hm
              unfold fFind
              cases e2 : fFind P m with
              | some i => exact ⟨i, rfl⟩
              | none =>
                by_cases q2 : j < m
                · obtain ⟨i, hi⟩ := ih2 q2
                  rw [hi] at e2; cases e2
                · have : j = m := by omega
                  subst this
                  exact ⟨j, by show (if P j = true then some j else none) = _; rw [hp]; rfl⟩
          obtain ⟨i, hi⟩ := gen _ hj
          rw [hi] at e; cases e
      · cases h
/-! the class's ways: its table, worked out by rounds; the fewest minutes, who crosses first, who second -/
def Edb (S l a b : Nat) : Bool := if l = 0 then decide (S &&& bt a b = bt a b) else decide (S &&& bt a b = 0)
theorem Edb_iff {S l a b : Nat} : Edb S l a b = true ↔ Ed S l a b := by
  unfold Edb Ed
  by_cases q : l = 0
  · rw [if_pos q, if_pos q, decide_eq_true_iff]
  · rw [if_neg q, if_neg q, decide_eq_true_iff]
def tb (t : Nat → Nat) (S l : Nat) : Nat := t (2 * S + 1 - l)
def TC (st : St) (t : Nat → Nat) : Prop := ∀ i, i < 512 → gI st 19 i = nI (t i)
def P18 (d : Nat) : Prop := d = 18 ∨ d = 19
def thr (mi : Nat → Nat) (T : Nat → Nat → Nat) (S l a b : Nat) : Nat := if Edb S l a b = true then tk mi a b + T (S ^^^ bt a b) (1 - l) else 1000000
theorem and_nI (a b : Nat) : nI a &&& nI b = nI (a &&& b) := by
  apply Int32.toBitVec_inj.1
  show BitVec.ofNat 32 a &&& BitVec.ofNat 32 b = BitVec.ofNat 32 (a &&& b)
  apply BitVec.eq_of_getLsbD_eq
  intro i hi
  simp [hi]
theorem or_nI (a b : Nat) : nI a ||| nI b = nI (a ||| b) := by
  apply Int32.toBitVec_inj.1
  show BitVec.ofNat 32 a ||| BitVec.ofNat 32 b = BitVec.ofNat 32 (a ||| b)
  apply BitVec.eq_of_getLsbD_eq
  intro i hi
  simp [hi]
theorem notand_nI (a b : Nat) : ((nI a ^^^ (-1)) &&& nI b = nI b) ↔ (nI a &&& nI b = nI 0) := by
  rw [← Int32.toBitVec_inj, ← Int32.toBitVec_inj]
  show ((BitVec.ofNat 32 a ^^^ (-1 : Int32).toBitVec) &&& BitVec.ofNat 32 b = BitVec.ofNat 32 b) ↔ (BitVec.ofNat 32 a &&& BitVec.ofNat 32 b = BitVec.ofNat 32 0)
  rw [show (-1 : Int32).toBitVec = BitVec.allOnes 32 from by decide, BitVec.xor_allOnes]
  generalize BitVec.ofNat 32 a = x
  generalize BitVec.ofNat 32 b = y
  constructor
  · intro h
    apply BitVec.eq_of_getLsbD_eq
    intro i hi
    have := congrArg (fun z => z.getLsbD i) h
    simp [hi] at this ⊢
    cases h1 : x.getLsbD i <;> cases h2 : y.getLsbD i <;> simp_all
  · intro h
    apply BitVec.eq_of_getLsbD_eq
    intro i hi
    have := congrArg (fun z => z.getLsbD i) h
    simp [hi] at this ⊢
    cases h1 : x.getLsbD i <;> cases h2 : y.getLsbD i <;> simp_all
theorem sh_bt {a b : Nat} (ha : a < 8) (hb : b < 8) : ((1 : Int32) <<< (nI a &&& 31)) ||| ((1 : Int32) <<< (nI b &&& 31)) = nI (bt a b) := by
  have h1 : (1 : Int32) <<< (nI a &&& 31) = nI (2 ^ a) := shl_nI a (by omega)
  have h2 : (1 : Int32) <<< (nI b &&& 31) = nI (2 ^ b) := shl_nI b (by omega)
  rw [h1, h2, or_nI]; rfl
theorem pow8 {n S : Nat} (hn : n ≤ 8) (h : S < 2 ^ n) : S < 256 := by
  have : 2 ^ n ≤ 2 ^ 8 := Nat.pow_le_pow_right (by omega) hn
  omega
theorem pc8_le : ∀ n, n < 9 → ∀ S, S < 256 → S < 2 ^ n → pc8 S ≤ n := by decide +kernel
theorem pc8_lt : ∀ n, n < 9 → ∀ S, S < 256 → S < 2 ^ n → S ≠ 2 ^ n - 1 → pc8 S + 1 ≤ n := by decide +kernel
theorem pc8_pos : ∀ S, S < 256 → S ≠ 0 → 1 ≤ pc8 S := by decide +kernel
theorem bI_or (x y : Bool) : bI x ||| bI y = bI (x || y) := by cases x <;> cases y <;> decide
section CW
variable {nw pl t : Nat} {wt mi : Nat → Nat} {M M' : Nat → Nat} {st st' : St} {Q : Int32 → St → Prop} {Qv : St → Prop}
theorem CB.f18 {b : Nat} (hC : CB b nw wt mi st) (hF : FI P18 st st') (hb : b + 2 < 18) : CB b nw wt mi st' := ⟨fun k hk => (hF.gI (by unfold P18; omega)).trans (hC.1 k hk), fun k hk => (hF.gI (by unfold P18; omega)).trans (hC.2 k hk)⟩
theorem BR.fi {P : Nat → Prop} {b : Nat} (h : BR b nw pl st M) (hF : FI P st st') (hb : ∀ d, b ≤ d → d ≤ b + 5 → ¬ P d) : BR b nw pl st' M := by
  obtain ⟨a1, ⟨S, a2, a3⟩, a5, a6, a7, a8⟩ := h
  exact ⟨fun j hj => (hF.gI (hb _ (by omega) (by omega))).trans (a1 j hj), ⟨S, (hF.gI (hb _ (by omega) (by omega))).trans a2, a3⟩, fun k hk => (hF.gI (hb _ (by omega) (by omega))).trans (a5 k hk), fun k hk => (hF.gI (hb _ (by omega) (by omega))).trans (a6 k hk), fun k hk => by rw [hF.gI (hb _ (by omega) (by omega))]; exact a7 k hk, fun k hk hk2 => (hF.gI (hb _ (by omega) (by omega))).trans (a8 k hk hk2)⟩
theorem CB.fP {P : Nat → Prop} {b : Nat} (hC : CB b nw wt mi st) (hF : FI P st st') (hb : ¬ P (b + 1) ∧ ¬ P (b + 2)) : CB b nw wt mi st' := ⟨fun k hk => (hF.gI hb.1).trans (hC.1 k hk), fun k hk => (hF.gI hb.2).trans (hC.2 k hk)⟩
theorem c_known {S l : Nat} {tt : Nat → Nat} (hS : S < 256) (hl : l ≤ 1) (hT : TC st tt) (hq : Q (nI (tb tt S l)) st) : wX8_known 18 (nI S) (nI (1 - l)) st Q := by
  unfold wX8_known wX8_known_L15
  have key : ∀ i, i < 512 → Q (nI (tt i)) st → (nI i < 0 → Q 1000000 st) ∧ (¬ nI i < 0 → ((512 ≤ nI i → Q 1000000 st) ∧ (¬ 512 ≤ nI i → (vp_in (nI i) 512 ∧ Q (gI st (18 + 1) (nI i).toNatClampNeg) st)))) := by
    intro i hi hqi
    refine ⟨fun q => absurd q (nI_pos (by omega)), fun _ => ⟨fun q => absurd ((nI_leI (a := 512) (by omega) (by omega)).mp q) (by omega), fun _ => ⟨(vin_iff (by omega)).mpr hi, ?_⟩⟩⟩
    rw [nI_clamp (by omega)]
    have := hT i hi
    rw [show gI st (18 + 1) i = nI (tt i) from this]
    exact hqi
  have e2 : nI S * 2 = nI (S * 2) := pk_mul S 2
  unfold tb at hq
  have hl2 : l = 0 ∨ l = 1 := by omega
  rcases hl2 with rfl | rfl
  · refine ⟨fun q => absurd q (by decide), fun _ => ?_⟩
    have e3 : nI S * 2 + 1 = nI (2 * S + 1 - 0) := by rw [e2, nI_1]; congr 1; omega
    rw [e3]
    exact key _ (by omega) hq
  · refine ⟨fun _ => ?_, fun q => absurd rfl q⟩
    have e3 : nI S * 2 = nI (2 * S + 1 - 1) := by rw [e2]; congr 1; omega
    rw [e3]
    exact key _ (by omega) hq
theorem c_minB {b one o : Nat} (hB : BB nw pl wt mi) (hC : CB b nw wt mi st) (h : BR b nw pl st M) (h1 : one < nw) (h2 : o < nw) (hq : Q (nI (tk mi one o)) st) : wX2_minutesFor b (nI one) (nI o) st Q := by
  unfold wX2_minutesFor wX2_minutesFor_L18
  have h8 := hB.1
  refine c_has hB h h1 ?_
  have e1 := hC.2 one h1
  have b1 := (hB.2.2 one).2
  simp (disch := omega) only [e1, li0, li1, nI_eq, nI_clamp, vin_iff, Nat.reduceEqDiff, false_implies, true_implies, and_true, true_and, not_false_eq_true, not_true_eq_false]
  refine ⟨by omega, c_has hB h h2 ?_⟩
  have e2 := hC.2 o h2
  have b2 := (hB.2.2 o).2
  refine ⟨fun q => absurd q (by decide), fun _ => ?_⟩
  unfold tk at hq
  rw [e2, nI_leI (by omega) (by omega)]
  refine ⟨by omega, fun q => ?_, fun q => ⟨by omega, ?_⟩⟩
  · rw [if_neg (by omega)] at hq; exact hq
  · rw [if_pos (by omega)] at hq; exact hq
theorem c_through {S l a b : Nat} {tt : Nat → Nat} (hB : BB nw pl wt mi) (hC : CB 4 nw wt mi st) (h : BR 4 nw pl st M) (hT : TC st tt) (hS : S < 2 ^ nw) (hl : l ≤ 1) (ha : a < nw) (hb : b < nw) (hq : Q (nI (thr mi (tb tt) S l a b)) st) : wX8_through 18 (nI S) (nI (1 - l)) (nI a) (nI b) st Q := by
  have h8 := hB.1
  have hS8 := pow8 h8 hS
  have hb8 := pow8 h8 (bt_lt ha hb)
  have hx8 := pow8 h8 (xb_lt hS ha hb)
  unfold wX8_through
  rintro _ rfl
  rw [sh_bt (by omega) (by omega)]
  unfold thr Edb at hq
  have L60 : ∀ l2, l2 ≤ 1 → ∀ p1 p2 p3 p4 : Int32, Q (nI (tk mi a b + tb tt (S ^^^ bt a b) l2)) st → wX8_through_L60 18 p1 p2 p3 p4 (nI (1 - l2)) (nI S ^^^ nI (bt a b)) (nI (tk mi a b)) st Q := by
    intro l2 hl2 p1 p2 p3 p4 hq2
    unfold wX8_through_L60
    rw [xor_nI]
    refine c_known hx8 hl2 hT ?_
    rw [nI_add]; exact hq2
  have hl2 : l = 0 ∨ l = 1 := by omega
  rcases hl2 with rfl | rfl
  · refine ⟨fun q => absurd q (by decide), fun _ => ?_⟩
    unfold wX8_through_L21
    rw [and_nI, nI_eq (by have := Nat.and_lt_two_pow S (show bt a b < 2 ^ 8 from hb8); omega) (by omega)]
    rw [if_pos rfl] at hq
    refine ⟨fun q => ?_, fun q => ?_⟩
    · rw [if_pos (decide_eq_true q)] at hq
      refine c_minB hB hC h ha hb ⟨fun _ => L60 1 (by omega) _ _ _ _ hq, fun q2 => absurd q2 (by decide)⟩
    · rw [if_neg (by rw [decide_eq_false q]; decide)] at hq
      exact hq
  · refine ⟨fun _ => ?_, fun q => absurd rfl q⟩
    unfold wX8_through_L21
    rw [notand_nI, and_nI, nI_eq (by have := Nat.and_lt_two_pow S (show bt a b < 2 ^ 8 from hb8); omega) (by omega)]
    rw [if_neg (show ¬ (1 : Nat) = 0 by omega)] at hq
    refine ⟨fun q => ?_, fun q => ?_⟩
    · rw [if_pos (decide_eq_true q)] at hq
      refine c_minB hB hC h ha hb ⟨fun q2 => absurd rfl q2, fun _ => L60 0 (by omega) _ _ _ _ hq⟩
    · rw [if_neg (by rw [decide_eq_false q]; decide)] at hq
      exact hq
theorem thr_le {S l a b : Nat} {T : Nat → Nat → Nat} (hB : BB nw pl wt mi) (hT : Sup nw mi T) (hS : S < 2 ^ nw) (hl : l ≤ 1) (ha : a < nw) (hb : b < nw) : thr mi T S l a b ≤ 1000020 := by
  unfold thr
  split
  · next q =>
    have he := Edb_iff.mp q
    have h1 := (hT.2 (S ^^^ bt a b) (1 - l) (xb_lt hS ha hb) (by omega) (he.nz hl)).1
    have h2 := tk_le (a := a) (b := b) (fun k => (hB.2.2 k).2)
    omega
  · omega
/-- what one bettering makes of the table -/
def Imp (nw : Nat) (mi : Nat → Nat) (t t' : Nat → Nat) (S l : Nat) (bb : Bool) : Prop := (bb = false → ∀ i, t' i = t i) ∧ (∀ i, i ≠ 2 * S + 1 - l → t' i = t i) ∧ (∀ i, t' i ≤ t i) ∧ (∀ a b, a < nw → b < nw → Ed S l a b → tb t' S l ≤ tk mi a b + tb t (S ^^^ bt a b) (1 - l)) ∧ Sup nw mi (tb t')
/-- the least so far, of the pairs ahead of k and j -/
def Li (nw : Nat) (mi : Nat → Nat) (T : Nat → Nat → Nat) (S l k j m : Nat) (bb : Bool) : Prop := (bb = false → m = T S l) ∧ m ≤ T S l ∧ (bb = true → m < T S l ∧ ∃ a b, a < nw ∧ b < nw ∧ Ed S l a b ∧ m = tk mi a b + T (S ^^^ bt a b) (1 - l)) ∧ ∀ a b, a < nw → b < nw → a ≤ b → (a < k ∨ (a = k ∧ b < j)) → Ed S l a b → m ≤ tk mi a b + T (S ^^^ bt a b) (1 - l)
theorem c_improve {S l : Nat} {tt : Nat → Nat} (hB : BB nw pl wt mi) (hC : CB 4 nw wt mi st) (h : BR 4 nw pl st M) (hT : TC st tt) (hU : Sup nw mi (tb tt)) (hS : S < 2 ^ nw) (hS0 : S ≠ 0) (hl : l ≤ 1)
    (hq : ∀ st' t' bb, FI P18 st st' → gI st' 18 2 = gI st 18 2 → TC st' t' → Imp nw mi tt t' S l bb → Q (bI bb) st') : wX8_improve 18 (nI S) (nI (1 - l)) st Q := by
  have h8 := hB.1
  have hS8 := pow8 h8 hS
  have e0 := h.w0
  have ht0 := (hU.2 S l hS hl (Or.inl hS0)).1
  unfold wX8_improve
  refine c_known hS8 hl hT ?_
  refine lp_inv (n := nw) (I := fun k s => ∃ m bb, s = (nI S, nI (1 - l), nI m, bI bb, nI k, st) ∧ Li nw mi (tb tt) S l k k m bb) ?_ ?_ ⟨tb tt S l, false, rfl, ⟨fun _ => rfl, Nat.le_refl _, fun q => absurd q (by decide), fun a b _ _ hab hv => absurd hv (by omega)⟩⟩
  · rintro k s hk ⟨m, bb, rfl, hI⟩ R hR2
    show wX8_improve_L13 18 (nI S) (nI (1 - l)) R (nI S) (nI (1 - l)) (nI m) (bI bb) (nI k) st Q
    unfold wX8_improve_L13
    rw [e0]
    refine ⟨fun q => absurd ((nI_leI (by omega) (by omega)).mp q) (by omega), fun _ => ?_⟩
    refine lp_inv (n := nw - k) (I := fun j s => ∃ m bb, s = (nI S, nI (1 - l), nI m, bI bb, nI k, nI (k + j), st) ∧ Li nw mi (tb tt) S l k (k + j) m bb) ?_ ?_ ⟨m, bb, rfl, hI⟩
    · rintro j s hj ⟨m, bb, rfl, hI⟩ R3 hR3
      show wX8_improve_L29 18 (nI S) (nI (1 - l)) R R3 (nI S) (nI (1 - l)) (nI m) (bI bb) (nI k) (nI (k + j)) st Q
      unfold wX8_improve_L29 wX8_improve_L65
      rw [e0]
      refine ⟨fun q => absurd ((nI_leI (by omega) (by omega)).mp q) (by omega), fun _ => ?_⟩
      refine c_through hB hC h hT hS hl hk (show k + j < nw by omega) ?_
      have hle := thr_le hB hU hS hl hk (show k + j < nw by omega)
      have hm := hI.2.1
      rw [nI_leI (by omega) (by omega)]
      refine ⟨fun q => ?_, fun q => ?_⟩
      · rintro _ rfl
        rw [nI_1]
        refine hR3 _ ⟨m, bb, rfl, hI.1, hI.2.1, hI.2.2.1, fun a b ha hb hab hv he => ?_⟩
        by_cases q2 : a < k ∨ (a = k ∧ b < k + j)
        · exact hI.2.2.2 a b ha hb hab q2 he
        · have e1 : a = k := by omega
          have e2 : b = k + j := by omega
          subst e1 e2
          unfold thr at q
          rw [if_pos (Edb_iff.mpr he)] at q
          exact q
      · rintro _ rfl
        rw [nI_1]
        have q' : thr mi (tb tt) S l k (k + j) < m := by omega
        have he : Ed S l k (k + j) := by
          apply Edb_iff.mp
          apply (Bool.not_eq_false _).mp
          intro e
          unfold thr at q'
          rw [if_neg (by rw [e]; decide)] at q'
          omega
        have hth : thr mi (tb tt) S l k (k + j) = tk mi k (k + j) + tb tt (S ^^^ bt k (k + j)) (1 - l) := if_pos (Edb_iff.mpr he)
        refine hR3 _ ⟨_, true, rfl, fun q2 => absurd q2 (by decide), by omega, fun _ => ⟨by omega, k, k + j, hk, by omega, he, hth⟩, fun a b ha hb hab hv he2 => ?_⟩
        by_cases q2 : a < k ∨ (a = k ∧ b < k + j)
        · have := hI.2.2.2 a b ha hb hab q2 he2
          omega
        · have e1 : a = k := by omega
          have e2 : b = k + j := by omega
          subst e1 e2
          omega
    · rintro s ⟨m, bb, rfl, hI⟩ R3
      show wX8_improve_L29 18 (nI S) (nI (1 - l)) R R3 (nI S) (nI (1 - l)) (nI m) (bI bb) (nI k) (nI (k + (nw - k))) st Q
      unfold wX8_improve_L29
      rw [e0, show k + (nw - k) = nw from by omega]
      refine ⟨fun _ => ?_, fun q => absurd (nI_le (Nat.le_refl _) (by omega)) q⟩
      rintro _ rfl
      rw [nI_1]
      refine hR2 _ ⟨m, bb, rfl, hI.1, hI.2.1, hI.2.2.1, fun a b ha hb hab hv he => hI.2.2.2 a b ha hb hab (by omega) he⟩
  · rintro s ⟨m, bb, rfl, hI⟩ R
    show wX8_improve_L13 18 (nI S) (nI (1 - l)) R (nI S) (nI (1 - l)) (nI m) (bI bb) (nI nw) st Q
    unfold wX8_improve_L13
    rw [e0]
    refine ⟨fun _ => ?_, fun q => absurd (nI_le (Nat.le_refl _) (by omega)) q⟩
    have all : ∀ a b, a < nw → b < nw → Ed S l a b → m ≤ tk mi a b + tb tt (S ^^^ bt a b) (1 - l) := by
      intro a b ha hb he
      by_cases q : a ≤ b
      · exact hI.2.2.2 a b ha hb q (Or.inl ha) he
      · have := hI.2.2.2 b a hb ha (by omega) (Or.inl hb) he.sw
        rw [tk_co mi a b, bt_co a b]
        exact this
    have L92 : ∀ x, x = 2 * S + 1 - l → wX8_improve_L92 18 (nI S) (nI (1 - l)) (nI m) (bI bb) (nI x) st Q := by
      rintro x hx
      unfold wX8_improve_L92
      refine ⟨fun q => ⟨bI_bz, ?_⟩, fun q => ?_⟩
      · have qb := bI0.mp q
        have hm := hI.1 qb
        refine hq st tt bb FI.rf rfl hT ⟨fun _ _ => rfl, fun _ _ => rfl, fun _ => Nat.le_refl _, fun a b ha hb he => ?_, hU⟩
        rw [← hm]; exact all a b ha hb he
      · have qb : bb = true := (Bool.not_eq_false _).mp (fun e => q (bI0.mpr e))
        obtain ⟨hlt, a0, b0, ha0, hb0, he0, hm0⟩ := hI.2.2.1 qb
        refine ⟨fun q2 => absurd q2 (nI_pos (by omega)), fun _ => ⟨fun q2 => absurd ((nI_leI (a := 512) (by omega) (by omega)).mp q2) (by omega), fun _ => ⟨(vin_iff (by omega)).mpr (by omega), ?_⟩⟩⟩
        intro s3 e3
        refine ⟨bI_bz, ?_⟩
        have tbx : tb (up tt x m) S l = m := by unfold tb; rw [up_a, if_pos hx.symm]
        have hne : ∀ S' l', l' ≤ 1 → ¬ (S' = S ∧ l' = l) → tb (up tt x m) S' l' = tb tt S' l' := by
          intro S' l' hl' hn
          unfold tb
          rw [up_a, if_neg (by omega)]
        refine hq s3 (up tt x m) bb (by rw [e3]; exact FI.u (Or.inr rfl)) (by rw [e3, gI_uI, if_neg (by omega)]) (fun i hi => ?_) ⟨fun q2 => absurd (q2.symm.trans qb) (by decide), fun i hi => ?_, fun i => ?_, fun a b ha hb he => ?_, ?_⟩
        · rw [e3, gI_uI, nI_clamp (by omega), up_a]
          by_cases qi : i = x
          · rw [if_pos ⟨rfl, qi⟩, if_pos qi]
          · rw [if_neg (fun z => qi z.2), if_neg qi]; exact hT i hi
        · rw [up_a, if_neg (by omega)]
        · rw [up_a]
          split
          · next qi =>
            have : tb tt S l = tt i := by unfold tb; rw [qi, hx]
            omega
          · exact Nat.le_refl _
        · rw [tbx]; exact all a b ha hb he
        · refine hU.set hS hl ha0 hb0 he0 (by omega) (by rw [tbx]; exact hm0) (fun S' l' _ hl' hn => hne S' l' hl' hn)
    have e2 : nI S * 2 = nI (S * 2) := pk_mul S 2
    have hl2 : l = 0 ∨ l = 1 := by omega
    rcases hl2 with rfl | rfl
    · refine ⟨fun q => absurd q (by decide), fun _ => ?_⟩
      have e3 : nI S * 2 + 1 = nI (2 * S + 1 - 0) := by rw [e2, nI_1]; congr 1; omega
      rw [e3]
      exact L92 _ rfl
    · refine ⟨fun _ => ?_, fun q => absurd rfl q⟩
      have e3 : nI S * 2 = nI (2 * S + 1 - 1) := by rw [e2]; congr 1; omega
      rw [e3]
      exact L92 _ rfl
/-- within a round that began with the table t0 -/
def Dn (nw : Nat) (mi : Nat → Nat) (t0 t : Nat → Nat) (S l : Nat) : Prop := ∀ a b, a < nw → b < nw → Ed S l a b → tb t S l ≤ tk mi a b + tb t0 (S ^^^ bt a b) (1 - l)
def Rnd (nw : Nat) (mi : Nat → Nat) (t0 t : Nat → Nat) (bb : Bool) : Prop := Sup nw mi (tb t) ∧ (∀ i, t i ≤ t0 i) ∧ (bb = false → ∀ i, t i = t0 i) ∧ t 1 = t0 1
theorem Imp.rnd {t0 tt t' : Nat → Nat} {S l : Nat} {bb b2 : Bool} (h : Rnd nw mi t0 tt bb) (hi : Imp nw mi tt t' S l b2) (hS0 : S ≠ 0) (hl : l ≤ 1) : Rnd nw mi t0 t' (bb || b2) ∧ Dn nw mi t0 t' S l ∧ ∀ S' l', Dn nw mi t0 tt S' l' → Dn nw mi t0 t' S' l' := by
  refine ⟨⟨hi.2.2.2.2, fun i => Nat.le_trans (hi.2.2.1 i) (h.2.1 i), fun q i => ?_, ?_⟩, fun a b ha hb he => ?_, fun S' l' hd a b ha hb he => Nat.le_trans (hi.2.2.1 _) (hd a b ha hb he)⟩
  · rw [Bool.or_eq_false_iff] at q
    rw [hi.1 q.2, h.2.2.1 q.1]
  · rw [hi.2.1 1 (by omega), h.2.2.2]
  · exact Nat.le_trans (hi.2.2.2.1 a b ha hb he) (Nat.add_le_add_left (h.2.1 _) _)
theorem c_round {t0 : Nat → Nat} (hB : BB nw pl wt mi) (hC : CB 4 nw wt mi st) (h : BR 4 nw pl st M) (hT : TC st t0) (hU : Sup nw mi (tb t0))
    (hq : ∀ st' t' bb, FI P18 st st' → gI st' 18 2 = gI st 18 2 → TC st' t' → Rnd nw mi t0 t' bb → (∀ S l, S < 2 ^ nw → l ≤ 1 → Dn nw mi t0 t' S l) → Q (bI bb) st') : wX8_improveAll 18 st Q := by
  have h8 := hB.1
  have hp8 : 2 ^ nw ≤ 256 := Nat.pow_le_pow_right (by omega) h8
  unfold wX8_improveAll
  have es : (1 : Int32) <<< ((gI st 4 0) &&& 31) = nI (2 ^ nw) := by rw [h.w0]; exact shl_nI nw (by omega)
  rintro _ rfl
  rw [es]
  have stp : ∀ {u : St}, FI P18 st u → CB 4 nw wt mi u ∧ BR 4 nw pl u M := fun hF => ⟨hC.f18 hF (by omega), h.fi hF (fun d h1 h2 => by unfold P18; omega)⟩
  refine lp_inv (n := nw) (I := fun k s => ∃ u tt bb, s = (bI bb, nI (2 ^ nw), nI (k + 1), u) ∧ FI P18 st u ∧ gI u 18 2 = gI st 18 2 ∧ TC u tt ∧ Rnd nw mi t0 tt bb ∧ (∀ S, S ≠ 0 → S < 2 ^ nw → pc8 S ≤ k → Dn nw mi t0 tt S 0) ∧ ∀ S, S ≠ 0 → S < 2 ^ nw → pc8 S + 1 ≤ k → Dn nw mi t0 tt S 1) ?_ ?_ ⟨st, t0, false, rfl, FI.rf, rfl, hT, ⟨hU, fun _ => Nat.le_refl _, fun _ _ => rfl, rfl⟩, fun S h0 hS hp => absurd (pc8_pos S (by omega) h0) (by omega), fun S _ _ hp => absurd hp (by omega)⟩
  · rintro k s hk ⟨u, tt, bb, rfl, hF, hr, hTu, hR, hD0, hD1⟩ R hR2
    show wX8_improveAll_L14 18 R (bI bb) (nI (2 ^ nw)) (nI (k + 1)) u Q
    unfold wX8_improveAll_L14
    rw [(stp hF).2.w0]
    refine ⟨fun q => absurd ((nI_ltI (by omega) (by omega)).mp q) (by omega), fun _ => ?_⟩
    have hp1 : 1 ≤ 2 ^ nw := Nat.one_le_two_pow
    refine lp_inv (n := 2 ^ nw - 1) (I := fun j s => ∃ u tt bb, s = (bI bb, nI (2 ^ nw), nI (k + 1), nI (1 + j), u) ∧ FI P18 st u ∧ gI u 18 2 = gI st 18 2 ∧ TC u tt ∧ Rnd nw mi t0 tt bb ∧ (∀ S, S ≠ 0 → S < 2 ^ nw → (pc8 S ≤ k ∨ (pc8 S = k + 1 ∧ S < 1 + j)) → Dn nw mi t0 tt S 0) ∧ ∀ S, S ≠ 0 → S < 2 ^ nw → pc8 S + 1 ≤ k → Dn nw mi t0 tt S 1) ?_ ?_ ⟨u, tt, bb, rfl, hF, hr, hTu, hR, fun S h0 hS hp => hD0 S h0 hS (by omega), hD1⟩
    · rintro j s hj ⟨u, tt, bb, rfl, hF, hr, hTu, hR, hD0, hD1⟩ R3 hR3
      show wX8_improveAll_L28 18 R R3 (bI bb) (nI (2 ^ nw)) (nI (k + 1)) (nI (1 + j)) u Q
      unfold wX8_improveAll_L28 wX8_improveAll_L53
      refine ⟨fun q => absurd ((nI_leI (by omega) (by omega)).mp q) (by omega), fun _ => ?_⟩
      refine c_bits ?_
      rw [bcf_pc _ (by omega)]
      have hpl := pc8_le nw (by omega) (1 + j) (by omega) (by omega)
      rw [nI_eq (by omega) (by omega)]
      refine ⟨fun q => ?_, fun q => ?_⟩
      · rintro _ rfl
        rw [nI_1]
        refine hR3 _ ⟨u, tt, bb, rfl, hF, hr, hTu, hR, fun S h0 hS hp => ?_, hD1⟩
        by_cases e : S = 1 + j
        · subst e; exact hD0 _ h0 hS (by omega)
        · exact hD0 S h0 hS (by omega)
      · refine c_improve (l := 0) hB (stp hF).1 (stp hF).2 hTu hR.1 (show 1 + j < 2 ^ nw by omega) (by omega) (by omega) (fun st' t' b2 hF2 hr2 hT2 hI => ?_)
        rintro _ rfl _ rfl
        rw [nI_1, bI_or]
        obtain ⟨r1, r2, r3⟩ := hI.rnd hR (by omega) (by omega)
        refine hR3 _ ⟨st', t', bb || b2, rfl, hF.tr hF2, hr2.trans hr, hT2, r1, fun S h0 hS hp => ?_, fun S h0 hS hp => r3 _ _ (hD1 S h0 hS hp)⟩
        by_cases e : S = 1 + j
        · subst e; exact r2
        · exact r3 _ _ (hD0 S h0 hS (by omega))
    · rintro s ⟨u, tt, bb, rfl, hF, hr, hTu, hR, hD0, hD1⟩ R3
      show wX8_improveAll_L28 18 R R3 (bI bb) (nI (2 ^ nw)) (nI (k + 1)) (nI (1 + (2 ^ nw - 1))) u Q
      unfold wX8_improveAll_L28
      rw [show 1 + (2 ^ nw - 1) = 2 ^ nw from by omega] at hD0 ⊢
      refine ⟨fun _ => ?_, fun q => absurd (nI_le (Nat.le_refl _) (by omega)) q⟩
      refine lp_inv (n := 2 ^ nw - 1) (I := fun j s => ∃ u tt bb, s = (bI bb, nI (2 ^ nw), nI (k + 1), nI (1 + j), u) ∧ FI P18 st u ∧ gI u 18 2 = gI st 18 2 ∧ TC u tt ∧ Rnd nw mi t0 tt bb ∧ (∀ S, S ≠ 0 → S < 2 ^ nw → pc8 S ≤ k + 1 → Dn nw mi t0 tt S 0) ∧ ∀ S, S ≠ 0 → S < 2 ^ nw → (pc8 S + 1 ≤ k ∨ (pc8 S = k ∧ S < 1 + j)) → Dn nw mi t0 tt S 1) ?_ ?_ ⟨u, tt, bb, rfl, hF, hr, hTu, hR, fun S h0 hS hp => hD0 S h0 hS (by omega), fun S h0 hS hp => hD1 S h0 hS (by omega)⟩
      · rintro j s hj ⟨u, tt, bb, rfl, hF, hr, hTu, hR, hD0, hD1⟩ R3 hR3
        show wX8_improveAll_L62 18 R R3 (bI bb) (nI (2 ^ nw)) (nI (k + 1)) (nI (1 + j)) u Q
        unfold wX8_improveAll_L62 wX8_improveAll_L89
        refine ⟨fun q => absurd ((nI_leI (by omega) (by omega)).mp q) (by omega), fun _ => ?_⟩
        refine c_bits ?_
        rw [bcf_pc _ (by omega)]
        have hpl := pc8_le nw (by omega) (1 + j) (by omega) (by omega)
        rw [show nI (k + 1) - 1 = nI k from nI_pred k, nI_eq (by omega) (by omega)]
        refine ⟨fun q => ?_, fun q => ?_⟩
        · rintro _ rfl
          rw [nI_1]
          refine hR3 _ ⟨u, tt, bb, rfl, hF, hr, hTu, hR, hD0, fun S h0 hS hp => ?_⟩
          by_cases e : S = 1 + j
          · subst e; exact hD1 _ h0 hS (by omega)
          · exact hD1 S h0 hS (by omega)
        · refine c_improve (l := 1) hB (stp hF).1 (stp hF).2 hTu hR.1 (show 1 + j < 2 ^ nw by omega) (by omega) (by omega) (fun st' t' b2 hF2 hr2 hT2 hI => ?_)
          rintro _ rfl _ rfl
          rw [nI_1, bI_or]
          obtain ⟨r1, r2, r3⟩ := hI.rnd hR (by omega) (by omega)
          refine hR3 _ ⟨st', t', bb || b2, rfl, hF.tr hF2, hr2.trans hr, hT2, r1, fun S h0 hS hp => r3 _ _ (hD0 S h0 hS hp), fun S h0 hS hp => ?_⟩
          by_cases e : S = 1 + j
          · subst e; exact r2
          · exact r3 _ _ (hD1 S h0 hS (by omega))
      · rintro s ⟨u, tt, bb, rfl, hF, hr, hTu, hR, hD0, hD1⟩ R3
        show wX8_improveAll_L62 18 R R3 (bI bb) (nI (2 ^ nw)) (nI (k + 1)) (nI (1 + (2 ^ nw - 1))) u Q
        unfold wX8_improveAll_L62
        rw [show 1 + (2 ^ nw - 1) = 2 ^ nw from by omega] at hD1 ⊢
        refine ⟨fun _ => ?_, fun q => absurd (nI_le (Nat.le_refl _) (by omega)) q⟩
        rintro _ rfl
        rw [nI_1]
        exact hR2 _ ⟨u, tt, bb, rfl, hF, hr, hTu, hR, fun S h0 hS hp => hD0 S h0 hS hp, fun S h0 hS hp => hD1 S h0 hS (by omega)⟩
  · rintro s ⟨u, tt, bb, rfl, hF, hr, hTu, hR, hD0, hD1⟩ R
    show wX8_improveAll_L14 18 R (bI bb) (nI (2 ^ nw)) (nI (nw + 1)) u Q
    unfold wX8_improveAll_L14
    rw [(stp hF).2.w0]
    refine ⟨fun _ => ⟨bI_bz, ?_⟩, fun q => absurd (nI_lt (by omega) (by omega)) q⟩
    refine hq u tt bb hF hr hTu hR (fun S l hS hl => ?_)
    have hS8 := pow8 h8 hS
    have hl2 : l = 0 ∨ l = 1 := by omega
    rcases hl2 with rfl | rfl
    · by_cases h0 : S = 0
      · subst h0; exact fun a b _ _ he => absurd rfl he.sn
      · exact hD0 S h0 hS (pc8_le nw (by omega) S hS8 hS)
    · by_cases h0 : S = 0
      · subst h0
        intro a b _ _ _
        rw [hR.1.1]; exact Nat.zero_le _
      · intro a b ha hb he
        refine hD1 S h0 hS (pc8_lt nw (by omega) S hS8 hS ?_) a b ha hb he
        intro e
        have := (ed_farb (by omega) he).1
        rw [e, Nat.testBit_two_pow_sub_one, decide_eq_true ha] at this
        cases this
theorem c_fill {x : Nat} (hq : ∀ st', FI P18 st st' → gI st' 18 2 = gI st 18 2 → (∀ i, i < 512 → gI st' 19 i = nI x) → Qv st') : wJ7_fill_53178 (18 + 1) (nI x) st Qv := by
  unfold wJ7_fill_53178
  refine lp_inv (n := 512) (I := fun k s => ∃ u, s = (nI x, nI k, nI 512, u) ∧ FI P18 st u ∧ gI u 18 2 = gI st 18 2 ∧ ∀ i, i < k → gI u 19 i = nI x) ?_ ?_ ⟨st, rfl, FI.rf, rfl, fun i hi => absurd hi (by omega)⟩
  · rintro k s hk ⟨u, rfl, hF, hr, hu⟩ R hR2
    show wJ7_fill_53178_L5 (18 + 1) (nI x) R (nI x) (nI k) (nI 512) u Qv
    unfold wJ7_fill_53178_L5
    refine ⟨fun q => absurd ((nI_leI (by omega) (by omega)).mp q) (by omega), fun _ => ⟨(vin_iff (by omega)).mpr hk, ?_⟩⟩
    rintro _ rfl _ rfl
    rw [nI_1, nI_clamp (by omega)]
    refine hR2 _ ⟨_, rfl, hF.tr (FI.u (Or.inr rfl)), by rw [gI_uI, if_neg (by omega)]; exact hr, fun i hi => ?_⟩
    rw [gI_uI]
    by_cases q : i = k
    · rw [if_pos ⟨rfl, q⟩]
    · rw [if_neg (fun z => q z.2)]; exact hu i (by omega)
  · rintro s ⟨u, rfl, hF, hr, hu⟩ R
    show wJ7_fill_53178_L5 (18 + 1) (nI x) R (nI x) (nI 512) (nI 512) u Qv
    unfold wJ7_fill_53178_L5
    exact ⟨fun _ => hq u hF hr hu, fun q => absurd (nI_le (Nat.le_refl _) (by omega)) q⟩
/-- the table is worked out -/
def WR (nw : Nat) (mi : Nat → Nat) (st : St) (T : Nat → Nat → Nat) : Prop := gI st 18 2 = nI 1 ∧ ∃ tt, TC st tt ∧ tt 1 = 0 ∧ T = tb tt ∧ WT nw mi T
def WC (nw : Nat) (mi : Nat → Nat) (st : St) : Prop := gI st 18 2 = nI 0 ∨ ∃ T, WR nw mi st T
theorem Rnd.bf {t0 tt : Nat → Nat} {bb : Bool} {r : Nat} (hR : Rnd nw mi t0 tt bb) (hD : ∀ S l, S < 2 ^ nw → l ≤ 1 → Dn nw mi t0 tt S l) (hb : Bf nw mi r (tb t0)) : Bf nw mi (r + 1) (tb tt) := by
  rintro S l v hS hl (q | ⟨a, b, w, ha, hb2, he, rfl, q⟩)
  · exact Nat.le_trans (hR.2.1 _) (hb S l v hS hl q)
  · have h1 := hD S l hS hl a b ha hb2 he
    have h2 := hb _ _ _ (xb_lt hS ha hb2) (by omega) q
    omega
theorem c_prepare (hB : BB nw pl wt mi) (hm1 : ∀ k, k < nw → 1 ≤ mi k) (hC : CB 4 nw wt mi st) (h : BR 4 nw pl st M) (hW : WC nw mi st) (hq : ∀ st' T, FI P18 st st' → WR nw mi st' T → Qv st') : wX8_prepare 18 st Qv := by
  have h8 := hB.1
  have hp8 : 2 ^ nw ≤ 256 := Nat.pow_le_pow_right (by omega) h8
  unfold wX8_prepare
  refine ⟨fun q => ?_, fun q => ?_⟩
  · refine c_fill (x := 1000000) (fun s1 hF1 hr1 hT1 => ⟨(vin_iff (k := 0) (by omega)).mpr (by omega), ?_⟩)
    intro s2 e2
    refine ⟨(vin_iff (k := 1) (by omega)).mpr (by omega), ?_⟩
    intro s3 e3
    have F3 : FI P18 st s3 := by rw [e3, e2]; exact (hF1.tr (FI.u (Or.inr rfl))).tr (FI.u (Or.inr rfl))
    have r3 : gI s3 18 2 = gI st 18 2 := by rw [e3, gI_uI, if_neg (by omega), e2, gI_uI, if_neg (by omega)]; exact hr1
    have stp : ∀ {u : St}, FI P18 st u → CB 4 nw wt mi u ∧ BR 4 nw pl u M := fun hF => ⟨hC.f18 hF (by omega), h.fi hF (fun d h1 h2 => by unfold P18; omega)⟩
    have T3 : TC s3 (fun i => if i < 2 then 0 else 1000000) := by
      intro i hi
      show gI s3 19 i = nI (if i < 2 then 0 else 1000000)
      rw [e3, gI_uI]
      by_cases q1 : i = 1
      · rw [if_pos ⟨rfl, q1⟩, if_pos (by omega)]; rfl
      rw [if_neg (fun z => q1 z.2), e2, gI_uI]
      by_cases q0 : i = 0
      · rw [if_pos ⟨rfl, q0⟩, if_pos (by omega)]; rfl
      rw [if_neg (fun z => q0 z.2), if_neg (by omega)]; exact hT1 i hi
    have U3 : Sup nw mi (tb (fun i => if i < 2 then 0 else 1000000)) := by
      refine ⟨rfl, fun S l hS hl h0 => ?_⟩
      have e : tb (fun i => if i < 2 then 0 else 1000000) S l = if 2 * S + 1 - l < 2 then 0 else 1000000 := rfl
      rw [e]
      by_cases q2 : 2 * S + 1 - l < 2
      · have e0 : S = 0 := by omega
        have e1 : l = 1 := by omega
        subst e0 e1
        exact ⟨by decide, Or.inr ⟨0, rfl, rfl, rfl⟩⟩
      · rw [if_neg q2]
        exact ⟨Nat.le_refl _, Or.inl rfl⟩
    have fin : ∀ u tt, FI P18 st u → TC u tt → tt 1 = 0 → WT nw mi (tb tt) → Qv (uI u 18 2 1) := by
      intro u tt hF hT h1 hw
      refine hq _ (tb tt) (hF.tr (FI.u (Or.inl rfl))) ⟨by rw [gI_uI, if_pos ⟨rfl, rfl⟩]; rfl, tt, fun i hi => ?_, h1, rfl, hw⟩
      rw [gI_uI, if_neg (by omega)]; exact hT i hi
    refine lp_inv (n := 512) (I := fun r s => ∃ u tt bb, s = (bI bb, nI r, u) ∧ FI P18 st u ∧ TC u tt ∧ tt 1 = 0 ∧ Sup nw mi (tb tt) ∧ Bf nw mi r (tb tt) ∧ (bb = false → Clo nw mi (tb tt))) ?_ ?_ ⟨s3, _, true, rfl, F3, T3, rfl, U3, ?_, fun q2 => absurd q2 (by decide)⟩
    · rintro r s hr ⟨u, tt, bb, rfl, hF, hT, h1, hU, hbf, hcl⟩ R hR2
      show wX8_prepare_L35 18 R (bI bb) (nI r) u Qv
      unfold wX8_prepare_L35
      refine ⟨fun q2 => absurd ((nI_leI (a := 512) (by omega) (by omega)).mp q2) (by omega), fun _ => ⟨fun q2 => ?_, fun _ => ?_⟩⟩
      · rintro _ rfl
        exact fin u tt hF hT h1 ((hcl (bI0.mp q2)).wt hU)
      · refine c_round hB (stp hF).1 (stp hF).2 hT hU (fun st' t' b2 hF2 hr2 hT2 hR hD => ?_)
        rintro _ rfl
        rw [nI_1]
        refine hR2 _ ⟨st', t', b2, rfl, hF.tr hF2, hT2, hR.2.2.2.trans h1, hR.1, hR.bf hD hbf, fun qb S l a b hS hl ha hb he => ?_⟩
        have e : tb t' (S ^^^ bt a b) (1 - l) = tb tt (S ^^^ bt a b) (1 - l) := hR.2.2.1 qb _
        rw [e]
        exact hD S l hS hl a b ha hb he
    · rintro s ⟨u, tt, bb, rfl, hF, hT, h1, hU, hbf, hcl⟩ R
      show wX8_prepare_L35 18 R (bI bb) (nI 512) u Qv
      unfold wX8_prepare_L35
      refine ⟨fun _ => ?_, fun q2 => absurd (nI_le (Nat.le_refl 512) (by omega)) q2⟩
      rintro _ rfl
      exact fin u tt hF hT h1 (hbf.wt h8 hm1 (fun k => (hB.2.2 k).2) hU)
    · rintro S l v _ _ ⟨rfl, rfl, rfl⟩
      exact Nat.le_of_eq rfl
  · rcases hW with e | ⟨T, hT⟩
    · exact absurd e q
    · exact hq st T FI.rf hT
theorem SBt.lt {S : Nat} (h : SBt nw M S) : S < 2 ^ nw := by
  apply Nat.lt_pow_two_of_testBit
  intro i hi
  rw [h.2 i, decide_eq_false (by omega)]; rfl
def fFew (T : Nat → Nat → Nat) (S l : Nat) : Nat := if S = 0 then 0 else T S l
theorem c_few (hB : BB nw pl wt mi) (hM : MB t M) (hm1 : ∀ k, k < nw → 1 ≤ mi k) (hC : CB 4 nw wt mi st) (h : BR 4 nw pl st M) (hW : WC nw mi st) (hq : ∀ st' T S, FI P18 st st' → WR nw mi st' T → SBt nw M S → Q (nI (fFew T S (M 0))) st') : wX8_minutesLeft 18 st Q := by
  unfold wX8_minutesLeft
  refine c_prepare hB hm1 hC h hW (fun s1 T hF hR => ?_)
  have h1 : BR 4 nw pl s1 M := h.fi hF (fun d h1 h2 => by unfold P18; omega)
  obtain ⟨S, eS, hS⟩ := h1.2.1
  obtain ⟨hr, tt, hT, h10, rfl, hw⟩ := hR
  rw [eS, h1.la]
  refine c_known hS.1 hM.la hT ?_
  have := hq s1 (tb tt) S hF ⟨hr, tt, hT, h10, rfl, hw⟩ hS
  unfold fFew at this
  by_cases q : S = 0
  · rw [if_pos q] at this
    have e : tb tt S (M 0) = 0 := by
      have hl := hM.la
      have hl2 : M 0 = 0 ∨ M 0 = 1 := by omega
      rcases hl2 with e | e
      · rw [q, e]; exact h10
      · rw [q, e]; exact hw.1
    rw [e]; exact this
  · rw [if_neg q] at this; exact this
/-- whether an order of the fewest minutes can begin with these -/
def fCB (T : Nat → Nat → Nat) (mi : Nat → Nat) (S l a b : Nat) : Bool := Edb S l a b && decide (T S l = tk mi a b + T (S ^^^ bt a b) (1 - l))
def fFst (T : Nat → Nat → Nat) (mi : Nat → Nat) (nw S l : Nat) : Option Nat := fFind (fun a => (fFind (fun b => fCB T mi S l a b) nw).isSome) nw
def fSnd (T : Nat → Nat → Nat) (mi : Nat → Nat) (nw S l a : Nat) : Option Nat := if fCB T mi S l a a = true then none else fFind (fun b => fCB T mi S l a b) nw
theorem fCB_co {T : Nat → Nat → Nat} {S l a b : Nat} : fCB T mi S l a b = fCB T mi S l b a := by
  unfold fCB Edb
  rw [bt_co a b, tk_co mi a b]
theorem thr_fCB {T : Nat → Nat → Nat} {S l a b : Nat} (hsm : T S l ≤ 340) : (thr mi T S l a b = T S l) ↔ fCB T mi S l a b = true := by
  unfold thr fCB
  rw [Bool.and_eq_true, decide_eq_true_iff]
  constructor
  · intro e
    split at e
    · next q => exact ⟨q, e.symm⟩
    · omega
  · rintro ⟨q, e⟩
    rw [if_pos q, e]
theorem c_eqleast {T : Nat → Nat → Nat} {S l a b : Nat} (hB : BB nw pl wt mi) (hw : WT nw mi T) (hS : S < 2 ^ nw) (hl : l ≤ 1) (ha : a < nw) (hb : b < nw) (hsm : T S l ≤ 340) : (nI (thr mi T S l a b) = nI (T S l)) ↔ fCB T mi S l a b = true := by
  have hU : Sup nw mi T := ⟨hw.1, fun S l a b c => ⟨(hw.2 S l a b c).1, (hw.2 S l a b c).2.1⟩⟩
  have := thr_le hB hU hS hl ha hb
  rw [nI_eq (by omega) (by omega)]
  exact thr_fCB hsm
theorem c_first (hB : BB nw pl wt mi) (hM : MB t M) (hm1 : ∀ k, k < nw → 1 ≤ mi k) (hC : CB 4 nw wt mi st) (h : BR 4 nw pl st M) (hW : WC nw mi st) (hsm : ∀ S T, SBt nw M S → WT nw mi T → T S (M 0) ≤ 340)
    (hq : ∀ st' T S, FI P18 st st' → WR nw mi st' T → SBt nw M S → Q (oI (fFst T mi nw S (M 0))) st') : wX8_findFirst 18 st Q := by
  unfold wX8_findFirst
  have h8 := hB.1
  have hla := hM.la
  refine c_prepare hB hm1 hC h hW (fun s1 T hF hR => ?_)
  have h1 : BR 4 nw pl s1 M := h.fi hF (fun d h1 h2 => by unfold P18; omega)
  have hC1 : CB 4 nw wt mi s1 := hC.f18 hF (by omega)
  obtain ⟨S, eS, hS⟩ := h1.2.1
  have hq := hq s1 T S hF hR hS
  obtain ⟨hr, tt, hT, h10, rfl, hw⟩ := hR
  have hsm := hsm S _ hS hw
  have hSl := hS.lt
  rw [eS, h1.la]
  refine c_known hS.1 hla hT ?_
  have el : ∀ a b, a < nw → b < nw → ((nI (thr mi (tb tt) S (M 0) a b) = nI (tb tt S (M 0))) ↔ fCB (tb tt) mi S (M 0) a b = true) := fun a b ha hb => c_eqleast hB hw hSl hla ha hb hsm
  refine lp_inv (n := nw) (I := fun k s => s = (nI (tb tt S (M 0)), nI k, s1) ∧ ∀ a b, a < k → b < nw → fCB (tb tt) mi S (M 0) a b = false) ?_ ?_ ⟨rfl, fun a b ha => absurd ha (by omega)⟩
  · rintro k s hk ⟨rfl, hno⟩ R hR2
    show wX8_findFirst_L25 18 R (nI (tb tt S (M 0))) (nI k) s1 Q
    unfold wX8_findFirst_L25
    rw [h1.w0]
    refine ⟨fun q => absurd ((nI_leI (by omega) (by omega)).mp q) (by omega), fun _ => ?_⟩
    refine lp_inv (n := nw - k) (I := fun j s => s = (nI (tb tt S (M 0)), nI k, nI (k + j), s1) ∧ ∀ b, b < k + j → fCB (tb tt) mi S (M 0) k b = false) ?_ ?_ ⟨rfl, fun b hb => by rw [fCB_co]; exact hno b k (by omega) hk⟩
    · rintro j s hj ⟨rfl, hno2⟩ R3 hR3
      show wX8_findFirst_L38 18 R R3 (nI (tb tt S (M 0))) (nI k) (nI (k + j)) s1 Q
      unfold wX8_findFirst_L38
      rw [h1.w0, eS, h1.la]
      refine ⟨fun q => absurd ((nI_leI (by omega) (by omega)).mp q) (by omega), fun _ => ?_⟩
      refine c_through hB hC1 h1 hT hSl hla hk (show k + j < nw by omega) ?_
      rw [el k (k + j) hk (by omega)]
      refine ⟨fun q => ?_, fun q => ?_⟩
      · rintro _ rfl
        rw [nI_1]
        refine hR3 _ ⟨rfl, fun b hb => ?_⟩
        by_cases e : b = k + j
        · subst e; exact (Bool.not_eq_true _).mp q
        · exact hno2 b (by omega)
      · have ef : fFst (tb tt) mi nw S (M 0) = some k := by
          refine fFind_at (fun a ha => ?_) ?_ hk
          · show (fFind (fun b => fCB (tb tt) mi S (M 0) a b) nw).isSome = false
            rw [fFind_no (fun b hb => hno a b ha hb)]; rfl
          · show (fFind (fun b => fCB (tb tt) mi S (M 0) k b) nw).isSome = true
            rw [fFind_at (k := k + j) hno2 q (by omega)]; rfl
        rw [ef] at hq
        exact hq
    · rintro s ⟨rfl, hno2⟩ R3
      show wX8_findFirst_L38 18 R R3 (nI (tb tt S (M 0))) (nI k) (nI (k + (nw - k))) s1 Q
      unfold wX8_findFirst_L38
      rw [h1.w0, show k + (nw - k) = nw from by omega]
      refine ⟨fun _ => ?_, fun q => absurd (nI_le (Nat.le_refl _) (by omega)) q⟩
      rintro _ rfl
      rw [nI_1]
      refine hR2 _ ⟨rfl, fun a b ha hb => ?_⟩
      by_cases e : a = k
      · subst e; exact hno2 b (by omega)
      · exact hno a b (by omega) hb
  · rintro s ⟨rfl, hno⟩ R
    show wX8_findFirst_L25 18 R (nI (tb tt S (M 0))) (nI nw) s1 Q
    unfold wX8_findFirst_L25
    rw [h1.w0]
    refine ⟨fun _ => ?_, fun q => absurd (nI_le (Nat.le_refl _) (by omega)) q⟩
    have ef : fFst (tb tt) mi nw S (M 0) = none := fFind_no (fun a ha => by
      show (fFind (fun b => fCB (tb tt) mi S (M 0) a b) nw).isSome = false
      rw [fFind_no (fun b hb => hno a b ha hb)]; rfl)
    rw [ef] at hq
    exact hq
theorem c_second {T : Nat → Nat → Nat} {S a : Nat} (hB : BB nw pl wt mi) (hM : MB t M) (hC : CB 4 nw wt mi st) (h : BR 4 nw pl st M) (hR : WR nw mi st T) (hS : SBt nw M S) (hsm : T S (M 0) ≤ 340) (ha : a < nw)
    (hq : Q (oI (fSnd T mi nw S (M 0) a)) st) : wX8_findSecond 18 (nI a) st Q := by
  unfold wX8_findSecond
  have h8 := hB.1
  have hla := hM.la
  obtain ⟨S', eS, hS'⟩ := h.2.1
  have e : S' = S := Nat.eq_of_testBit_eq (fun i => by rw [hS.2 i, hS'.2 i])
  subst e
  obtain ⟨hr, tt, hT, h10, rfl, hw⟩ := hR
  have hSl := hS.lt
  have el : ∀ a b, a < nw → b < nw → ((nI (thr mi (tb tt) S' (M 0) a b) = nI (tb tt S' (M 0))) ↔ fCB (tb tt) mi S' (M 0) a b = true) := fun a b ha hb => c_eqleast hB hw hSl hla ha hb hsm
  rw [eS, h.la]
  refine c_known hS.1 hla hT ?_
  rw [eS, h.la]
  refine c_through hB hC h hT hSl hla ha ha ?_
  rw [el a a ha ha]
  unfold fSnd at hq
  refine ⟨fun q => ?_, fun q => ?_⟩
  · rw [if_neg q] at hq
    refine lp_inv (n := nw) (I := fun k s => s = (nI a, nI (tb tt S' (M 0)), nI k, st) ∧ ∀ b, b < k → fCB (tb tt) mi S' (M 0) a b = false) ?_ ?_ ⟨rfl, fun b hb => absurd hb (by omega)⟩
    · rintro k s hk ⟨rfl, hno⟩ R hR2
      show wX8_findSecond_L47 18 (nI a) R (nI a) (nI (tb tt S' (M 0))) (nI k) st Q
      unfold wX8_findSecond_L47
      rw [h.w0, eS, h.la]
      refine ⟨fun q => absurd ((nI_leI (by omega) (by omega)).mp q) (by omega), fun _ => ?_⟩
      refine c_through hB hC h hT hSl hla ha hk ?_
      rw [el a k ha hk]
      refine ⟨fun q => ?_, fun q => ?_⟩
      · rintro _ rfl
        rw [nI_1]
        refine hR2 _ ⟨rfl, fun b hb => ?_⟩
        by_cases e : b = k
        · subst e; exact (Bool.not_eq_true _).mp q
        · exact hno b (by omega)
      · rw [fFind_at hno q hk] at hq
        exact hq
    · rintro s ⟨rfl, hno⟩ R
      show wX8_findSecond_L47 18 (nI a) R (nI a) (nI (tb tt S' (M 0))) (nI nw) st Q
      unfold wX8_findSecond_L47
      rw [h.w0]
      rw [fFind_no hno] at hq
      exact ⟨fun _ => hq, fun q => absurd (nI_le (Nat.le_refl _) (by omega)) q⟩
  · rw [if_pos q] at hq
    exact hq
end CW
/-! the reference's reckoning: the same table, by bettering till nothing gets better -/
def trb (d : Nat → Nat) (S l : Nat) : Nat := d (2 * S + l)
def TR (nw : Nat) (st : St) (d : Nat → Nat) : Prop := ∀ i, i < 2 * 2 ^ nw → gI st 59 i = nI (d i)
def P59 (d : Nat) : Prop := d = 59
def RT (nw : Nat) (st : St) (T : Nat → Nat → Nat) : Prop := ∀ S l, S < 2 ^ nw → l ≤ 1 → (S ≠ 0 ∨ l = 1) → gI st 59 (2 * S + l) = nI (T S l)
theorem andnot_nI {a b : Nat} (h : a &&& b = b) : nI a &&& (nI b ^^^ (-1)) = nI (a ^^^ b) := by
  have h2 : nI a &&& nI b = nI b := by rw [and_nI, h]
  rw [← xor_nI]
  rw [← Int32.toBitVec_inj] at h2 ⊢
  have h2 : BitVec.ofNat 32 a &&& BitVec.ofNat 32 b = BitVec.ofNat 32 b := h2
  show BitVec.ofNat 32 a &&& (BitVec.ofNat 32 b ^^^ (-1 : Int32).toBitVec) = BitVec.ofNat 32 a ^^^ BitVec.ofNat 32 b
  rw [show (-1 : Int32).toBitVec = BitVec.allOnes 32 from by decide, BitVec.xor_allOnes]
  revert h2
  generalize BitVec.ofNat 32 a = x
  generalize BitVec.ofNat 32 b = y
  intro h2
  apply BitVec.eq_of_getLsbD_eq
  intro i hi
  have := congrArg (fun z => z.getLsbD i) h2
  simp [hi] at this ⊢
  cases h1 : x.getLsbD i <;> cases h3 : y.getLsbD i <;> simp_all
def sumd (f : Nat → Nat) : Nat → Nat
  | 0 => 0
  | n + 1 => sumd f n + f n
theorem sumd_le {f g : Nat → Nat} : ∀ {n : Nat}, (∀ i, i < n → f i ≤ g i) → sumd f n ≤ sumd g n := by
  intro n
  induction n with
  | zero => exact fun _ => Nat.le_refl _
  | succ n ih =>
    intro h
    have h1 := ih (fun i hi => h i (by omega))
    have h2 := h n (by omega)
    unfold sumd; omega
theorem sumd_lt {f g : Nat → Nat} : ∀ {n : Nat}, (∀ i, i < n → f i ≤ g i) → (∃ i, i < n ∧ f i < g i) → sumd f n < sumd g n := by
  intro n
  induction n with
  | zero => rintro _ ⟨i, hi, _⟩; exact absurd hi (by omega)
  | succ n ih =>
    rintro h ⟨i, hi, hlt⟩
    have h2 := h n (by omega)
    unfold sumd
    by_cases e : i = n
    · subst e
      have h1 := sumd_le (f := f) (g := g) (n := i) (fun j hj => h j (by omega))
      omega
    · have h1 := ih (fun j hj => h j (by omega)) ⟨i, by omega, hlt⟩
      omega
theorem sumd_eq {f g : Nat → Nat} {n : Nat} (h : ∀ i, i < n → f i = g i) : sumd f n = sumd g n := Nat.le_antisymm (sumd_le (fun i hi => Nat.le_of_eq (h i hi))) (sumd_le (fun i hi => Nat.le_of_eq (h i hi).symm))
def Cl2 (mi : Nat → Nat) (d : Nat → Nat) (S a b : Nat) : Prop := trb d S 0 ≤ tk mi a b + trb d (S ^^^ bt a b) 1 ∧ trb d (S ^^^ bt a b) 1 ≤ tk mi a b + trb d S 0
/-- within a round that began with d0 -/
def Rn (nw : Nat) (mi : Nat → Nat) (d0 d : Nat → Nat) (bb : Bool) : Prop := Sup nw mi (trb d) ∧ (∀ i, d i ≤ d0 i) ∧ (bb = false → ∀ i, d i = d0 i) ∧ (bb = true → ∃ i, i < 2 * 2 ^ nw ∧ d i < d0 i)
section RW1
variable {nw pl t : Nat} {wt mi : Nat → Nat} {M M' : Nat → Nat} {st st' : St} {Q : Int32 → St → Prop} {Qv : St → Prop}
theorem KB.f59 (hK : KB nw pl wt mi st) (hF : FI P59 st st') : KB nw pl wt mi st' := hK.fi hF (by unfold P59; omega) (by unfold P59; omega) (by unfold P59; omega)
theorem RM.f59 (hR : RM st M) (hF : FI P59 st st') : RM st' M := fun k hk => (hF.gI (by unfold P59; omega)).trans (hR k hk)
theorem r_tk {a b : Nat} (hB : BB nw pl wt mi) (hK : KB nw pl wt mi st) (ha : a < nw) (hb : b < nw) : (if gI st 62 (nI a : Int32).toNatClampNeg < gI st 62 (nI b : Int32).toNatClampNeg then gI st 62 (nI b : Int32).toNatClampNeg else gI st 62 (nI a : Int32).toNatClampNeg) = nI (tk mi a b) := by
  have h8 := hB.1
  have b1 := (hB.2.2 a).2
  have b2 := (hB.2.2 b).2
  rw [nI_clamp (by omega), nI_clamp (by omega), hK.2.2.2 a ha, hK.2.2.2 b hb]
  unfold tk
  by_cases q : mi a < mi b
  · rw [if_pos ((nI_ltI (by omega) (by omega)).mpr q), if_pos q]
  · rw [if_neg (fun z => q ((nI_ltI (by omega) (by omega)).mp z)), if_neg q]
theorem Rn.put {d0 d : Nat → Nat} {bb : Bool} {S l a b x : Nat} (hR : Rn nw mi d0 d bb) (hS : S < 2 ^ nw) (hl : l ≤ 1) (ha : a < nw) (hb : b < nw) (he : Ed S l a b) (hx : x = 2 * S + l) (hlt : tk mi a b + trb d (S ^^^ bt a b) (1 - l) < trb d S l) : Rn nw mi d0 (up d x (tk mi a b + trb d (S ^^^ bt a b) (1 - l))) true := by
  have hxd : trb d S l = d x := by unfold trb; rw [hx]
  have hle : ∀ i, up d x (tk mi a b + trb d (S ^^^ bt a b) (1 - l)) i ≤ d i := fun i => by
    rw [up_a]
    split
    · next q => rw [q]; omega
    · exact Nat.le_refl _
  refine ⟨hR.1.set hS hl ha hb he hlt ?_ (fun S' l' _ hl' hn => ?_), fun i => Nat.le_trans (hle i) (hR.2.1 i), fun q => absurd q (by decide), fun _ => ⟨x, by omega, ?_⟩⟩
  · unfold trb; rw [up_a, if_pos hx.symm]
  · unfold trb; rw [up_a, if_neg (by omega)]
  · rw [up_a, if_pos rfl]
    have := hR.2.1 x
    omega
theorem r_betters {S a b : Nat} {d0 d : Nat → Nat} {bb : Bool} (hB : BB nw pl wt mi) (hK : KB nw pl wt mi st) (hT : TR nw st d) (hR : Rn nw mi d0 d bb) (hS : S < 2 ^ nw) (ha : a < nw) (hb : b < nw)
    (hq : ∀ st' d' b2, FI P59 st st' → TR nw st' d' → Rn nw mi d0 d' (bb || b2) → (b2 = false → Ed S 0 a b → Cl2 mi d S a b) → Q (bI b2) st') : wX12_betters 54 (nI S) (nI a) (nI b) st Q := by
  have h8 := hB.1
  have hS8 := pow8 h8 hS
  have hb8 := pow8 h8 (bt_lt ha hb)
  have hx8 := pow8 h8 (xb_lt hS ha hb)
  have hxl := xb_lt hS ha hb
  have hp8 : 2 ^ nw ≤ 256 := Nat.pow_le_pow_right (by omega) h8
  have ht := tk_le (a := a) (b := b) (fun k => (hB.2.2 k).2)
  unfold wX12_betters
  rintro _ rfl
  rw [sh_bt (by omega) (by omega), and_nI, nI_eq (by have := Nat.and_lt_two_pow S (show bt a b < 2 ^ 8 from hb8); omega) (by omega)]
  have hbf : bb = (bb || false) := by cases bb <;> rfl
  have hbt : true = (bb || true) := by cases bb <;> rfl
  refine ⟨fun q => ?_, fun q => ?_⟩
  · have he : Ed S 0 a b := q
    have hS0 := he.sn
    have he2 := he.bk (by omega)
    refine ⟨(vin_iff (by omega)).mpr (by omega), (vin_iff (by omega)).mpr (by omega), ?_⟩
    rintro _ rfl _ rfl _ rfl
    rw [r_tk hB hK ha hb, andnot_nI q]
    have e3 : (2 : Int32) * nI S = nI (2 * S) := pk_mul 2 S
    have e4 : (2 : Int32) * nI (S ^^^ bt a b) + 1 = nI (2 * (S ^^^ bt a b) + 1) := by rw [show (2 : Int32) * nI (S ^^^ bt a b) = nI (2 * (S ^^^ bt a b)) from pk_mul 2 _, nI_1]
    rw [e3, e4]
    refine ⟨(vin_iff (by omega)).mpr (by omega), (vin_iff (by omega)).mpr (by omega), ?_⟩
    have u1 := (hR.1.2 S 0 hS (by omega) (Or.inl hS0)).1
    have u2 := (hR.1.2 (S ^^^ bt a b) 1 hxl (by omega) (Or.inr rfl)).1
    have v1 : gI st (54 + 5) (nI (2 * S) : Int32).toNatClampNeg = nI (trb d S 0) := by rw [nI_clamp (by omega)]; exact hT (2 * S) (by omega)
    have v2 : gI st (54 + 5) (nI (2 * (S ^^^ bt a b) + 1) : Int32).toNatClampNeg = nI (trb d (S ^^^ bt a b) 1) := by rw [nI_clamp (by omega)]; exact hT _ (by omega)
    have L103 : ∀ (u : St) (d1 : Nat → Nat) (b1 : Bool), FI P59 st u → TR nw u d1 → Rn nw mi d0 d1 (bb || b1) → (b1 = false → d1 = d ∧ trb d S 0 ≤ tk mi a b + trb d (S ^^^ bt a b) 1) → wX12_betters_L103 54 (nI S) (nI a) (nI b) (nI (tk mi a b)) (nI (2 * S)) (nI (2 * (S ^^^ bt a b) + 1)) (bI b1) u Q := by
      intro u d1 b1 hF hT1 hR1 h1
      unfold wX12_betters_L103
      have u1 := (hR1.1.2 S 0 hS (by omega) (Or.inl hS0)).1
      have u2 := (hR1.1.2 (S ^^^ bt a b) 1 hxl (by omega) (Or.inr rfl)).1
      have v1 : gI u (54 + 5) (nI (2 * S) : Int32).toNatClampNeg = nI (trb d1 S 0) := by rw [nI_clamp (by omega)]; exact hT1 (2 * S) (by omega)
      have v2 : gI u (54 + 5) (nI (2 * (S ^^^ bt a b) + 1) : Int32).toNatClampNeg = nI (trb d1 (S ^^^ bt a b) 1) := by rw [nI_clamp (by omega)]; exact hT1 _ (by omega)
      refine ⟨(vin_iff (by omega)).mpr (by omega), (vin_iff (by omega)).mpr (by omega), ?_⟩
      rw [v1, v2, nI_add, nI_leI (by omega) (by omega)]
      refine ⟨fun q2 => ⟨bI_bz, ?_⟩, fun q2 => ⟨(vin_iff (by omega)).mpr (by omega), (vin_iff (by omega)).mpr (by omega), ?_⟩⟩
      · refine hq u d1 b1 hF hT1 hR1 (fun q3 _ => ?_)
        obtain ⟨rfl, q4⟩ := h1 q3
        exact ⟨q4, by omega⟩
      · rintro _ rfl
        rw [nI_clamp (by omega)]
        have hlt : tk mi a b + trb d1 (S ^^^ bt a b ^^^ bt a b) (1 - 1) < trb d1 (S ^^^ bt a b) 1 := by rw [xb_xb]; show _ + trb d1 S 0 < _; omega
        have hput := hR1.put (x := 2 * (S ^^^ bt a b) + 1) hxl (Nat.le_refl 1) ha hb he2 rfl hlt
        rw [xb_xb] at hput
        refine hq _ _ true (hF.tr (FI.u rfl)) (fun i hi => ?_) (hbt ▸ hput) (fun q3 => absurd q3 (by decide))
        rw [gI_uI, up_a]
        by_cases qi : i = 2 * (S ^^^ bt a b) + 1
        · rw [if_pos ⟨rfl, qi⟩, if_pos qi, Nat.add_comm]
        · rw [if_neg (fun z => qi z.2), if_neg qi]; exact hT1 i hi
    rw [v1, v2, nI_add, nI_leI (by omega) (by omega)]
    refine ⟨fun q2 => ?_, fun q2 => ⟨(vin_iff (by omega)).mpr (by omega), (vin_iff (by omega)).mpr (by omega), ?_⟩⟩
    · exact L103 st d false FI.rf hT (hbf ▸ hR) (fun _ => ⟨rfl, by omega⟩)
    · rintro _ rfl
      rw [nI_clamp (by omega)]
      have hlt : tk mi a b + trb d (S ^^^ bt a b) (1 - 0) < trb d S 0 := by show _ + trb d (S ^^^ bt a b) 1 < _; omega
      have hput := hR.put (x := 2 * S) hS (by omega) ha hb he rfl hlt
      refine L103 _ _ true (FI.u rfl) (fun i hi => ?_) (hbt ▸ hput) (fun q3 => absurd q3 (by decide))
      rw [gI_uI, up_a]
      by_cases qi : i = 2 * S
      · rw [if_pos ⟨rfl, qi⟩, if_pos qi, Nat.add_comm]
      · rw [if_neg (fun z => qi z.2), if_neg qi]; exact hT i hi
  · exact hq st d false FI.rf hT (hbf ▸ hR) (fun _ he => absurd he q)
/-- the pairs that are visited -/
def Vs (nw : Nat) (mi : Nat → Nat) (d0 : Nat → Nat) (bb : Bool) (S a j : Nat) : Prop := bb = false → ∀ S' a' b', S' < 2 ^ nw → a' < nw → b' < nw → a' ≤ b' → (S' < S ∨ (S' = S ∧ (a' < a ∨ (a' = a ∧ b' < j)))) → Ed S' 0 a' b' → Cl2 mi d0 S' a' b'
theorem Vs.clo {d0 : Nat → Nat} (h : Vs nw mi d0 false (2 ^ nw) 0 0) : Clo nw mi (trb d0) := by
  have all : ∀ S a b, S < 2 ^ nw → a < nw → b < nw → Ed S 0 a b → Cl2 mi d0 S a b := by
    intro S a b hS ha hb he
    by_cases q : a ≤ b
    · exact h rfl S a b hS ha hb q (Or.inl hS) he
    · have := h rfl S b a hS hb ha (by omega) (Or.inl hS) he.sw
      unfold Cl2 at this ⊢
      rw [tk_co mi a b, bt_co a b]
      exact this
  intro S l a b hS hl ha hb he
  have hl2 : l = 0 ∨ l = 1 := by omega
  rcases hl2 with rfl | rfl
  · exact (all S a b hS ha hb he).1
  · have := (all _ a b (xb_lt hS ha hb) ha hb (he.bk (by omega))).2
    rw [xb_xb] at this
    exact this
theorem r_round {d0 : Nat → Nat} {R : Int32 × Int32 × St → Prop} (hB : BB nw pl wt mi) (hK : KB nw pl wt mi st) (hT : TR nw st d0) (hU : Sup nw mi (trb d0))
    (hq : ∀ st' d' bb, FI P59 st st' → TR nw st' d' → Rn nw mi d0 d' bb → (bb = false → Clo nw mi (trb d')) → R (nI (2 ^ nw), bI bb, st')) : ∃ n, lp (fun R2 s => wX12_reckon_L50 54 R R2 s.1 s.2.1 s.2.2.1 s.2.2.2 Qv) n (nI (2 ^ nw), 0, 0, st) := by
  have h8 := hB.1
  have hp8 : 2 ^ nw ≤ 256 := Nat.pow_le_pow_right (by omega) h8
  refine lp_inv (n := 2 ^ nw) (I := fun S s => ∃ u d bb, s = (nI (2 ^ nw), bI bb, nI S, u) ∧ FI P59 st u ∧ TR nw u d ∧ Rn nw mi d0 d bb ∧ Vs nw mi d0 bb S 0 0) ?_ ?_ ⟨st, d0, false, rfl, FI.rf, hT, ⟨hU, fun _ => Nat.le_refl _, fun _ _ => rfl, fun q => absurd q (by decide)⟩, fun _ S' a' b' _ _ _ _ hv => absurd hv (by omega)⟩
  · rintro S s hS ⟨u, d, bb, rfl, hF, hTu, hR, hV⟩ R2 hR2
    show wX12_reckon_L50 54 R R2 (nI (2 ^ nw)) (bI bb) (nI S) u Qv
    unfold wX12_reckon_L50
    refine ⟨fun q => absurd ((nI_leI (by omega) (by omega)).mp q) (by omega), fun _ => ?_⟩
    refine lp_inv (n := nw) (I := fun a s => ∃ u d bb, s = (nI (2 ^ nw), bI bb, nI S, nI a, u) ∧ FI P59 st u ∧ TR nw u d ∧ Rn nw mi d0 d bb ∧ Vs nw mi d0 bb S a a) ?_ ?_ ⟨u, d, bb, rfl, hF, hTu, hR, hV⟩
    · rintro a s ha ⟨u, d, bb, rfl, hF, hTu, hR, hV⟩ R3 hR3
      show wX12_reckon_L58 54 R R2 R3 (nI (2 ^ nw)) (bI bb) (nI S) (nI a) u Qv
      unfold wX12_reckon_L58
      rw [(hK.f59 hF).1]
      refine ⟨fun q => absurd ((nI_leI (by omega) (by omega)).mp q) (by omega), fun _ => ?_⟩
      refine lp_inv (n := nw - a) (I := fun j s => ∃ u d bb, s = (nI (2 ^ nw), bI bb, nI S, nI a, nI (a + j), u) ∧ FI P59 st u ∧ TR nw u d ∧ Rn nw mi d0 d bb ∧ Vs nw mi d0 bb S a (a + j)) ?_ ?_ ⟨u, d, bb, rfl, hF, hTu, hR, hV⟩
      · rintro j s hj ⟨u, d, bb, rfl, hF, hTu, hR, hV⟩ R4 hR4
        show wX12_reckon_L74 54 R R2 R3 R4 (nI (2 ^ nw)) (bI bb) (nI S) (nI a) (nI (a + j)) u Qv
        unfold wX12_reckon_L74
        rw [(hK.f59 hF).1]
        refine ⟨fun q => absurd ((nI_leI (by omega) (by omega)).mp q) (by omega), fun _ => ?_⟩
        refine r_betters hB (hK.f59 hF) hTu hR hS ha (show a + j < nw by omega) (fun st' d' b2 hF2 hT2 hR2' hc => ?_)
        rintro _ rfl _ rfl
        rw [nI_1, bI_or]
        refine hR4 _ ⟨st', d', bb || b2, rfl, hF.tr hF2, hT2, hR2', fun qb S' a' b' h1 h2 h3 h4 hv he => ?_⟩
        rw [Bool.or_eq_false_iff] at qb
        by_cases e : S' = S ∧ a' = a ∧ b' = a + j
        · obtain ⟨rfl, rfl, rfl⟩ := e
          have := hc qb.2 he
          unfold Cl2 trb at this ⊢
          rw [hR.2.2.1 qb.1, hR.2.2.1 qb.1] at this
          exact this
        · exact hV qb.1 S' a' b' h1 h2 h3 h4 (by omega) he
      · rintro s ⟨u, d, bb, rfl, hF, hTu, hR, hV⟩ R4
        show wX12_reckon_L74 54 R R2 R3 R4 (nI (2 ^ nw)) (bI bb) (nI S) (nI a) (nI (a + (nw - a))) u Qv
        unfold wX12_reckon_L74
        rw [(hK.f59 hF).1, show a + (nw - a) = nw from by omega] at *
        refine ⟨fun _ => ?_, fun q => absurd (nI_le (Nat.le_refl _) (by omega)) q⟩
        rintro _ rfl
        rw [nI_1]
        refine hR3 _ ⟨u, d, bb, rfl, hF, hTu, hR, fun qb S' a' b' h1 h2 h3 h4 hv he => hV qb S' a' b' h1 h2 h3 h4 (by omega) he⟩
    · rintro s ⟨u, d, bb, rfl, hF, hTu, hR, hV⟩ R3
      show wX12_reckon_L58 54 R R2 R3 (nI (2 ^ nw)) (bI bb) (nI S) (nI nw) u Qv
      unfold wX12_reckon_L58
      rw [(hK.f59 hF).1]
      refine ⟨fun _ => ?_, fun q => absurd (nI_le (Nat.le_refl _) (by omega)) q⟩
      rintro _ rfl
      rw [nI_1]
      exact hR2 _ ⟨u, d, bb, rfl, hF, hTu, hR, fun qb S' a' b' h1 h2 h3 h4 hv he => hV qb S' a' b' h1 h2 h3 h4 (by omega) he⟩
  · rintro s ⟨u, d, bb, rfl, hF, hTu, hR, hV⟩ R2
    show wX12_reckon_L50 54 R R2 (nI (2 ^ nw)) (bI bb) (nI (2 ^ nw)) u Qv
    unfold wX12_reckon_L50
    refine ⟨fun _ => ?_, fun q => absurd (nI_le (Nat.le_refl _) (by omega)) q⟩
    refine hq u d bb hF hTu hR (fun qb => ?_)
    subst qb
    have hd : d = d0 := funext (hR.2.2.1 rfl)
    rw [hd]
    exact hV.clo
theorem r_reckon {T : Nat → Nat → Nat} (hB : BB nw pl wt mi) (hK : KB nw pl wt mi st) (hw : WT nw mi T) (hq : ∀ st', FI P59 st st' → RT nw st' T → Qv st') : wX12_reckon 54 st Qv := by
  have h8 := hB.1
  have hp8 : 2 ^ nw ≤ 256 := Nat.pow_le_pow_right (by omega) h8
  have hp1 : 1 ≤ 2 ^ nw := Nat.one_le_two_pow
  unfold wX12_reckon
  have es : (1 : Int32) <<< ((gI st 60 0) &&& 31) = nI (2 ^ nw) := by rw [hK.1]; exact shl_nI nw (by omega)
  rintro _ rfl
  rw [es]
  have e22 : (2 : Int32) * nI (2 ^ nw) = nI (2 * 2 ^ nw) := pk_mul 2 _
  refine lp_inv (n := 2 * 2 ^ nw) (I := fun k s => ∃ u, s = (nI (2 ^ nw), nI k, u) ∧ FI P59 st u ∧ ∀ i, i < k → gI u 59 i = nI 1000000) ?_ ?_ ⟨st, rfl, FI.rf, fun i hi => absurd hi (by omega)⟩
  · rintro k s hk ⟨u, rfl, hF, hu⟩ R hR2
    show wX12_reckon_L12 54 R (nI (2 ^ nw)) (nI k) u Qv
    unfold wX12_reckon_L12
    rw [e22]
    refine ⟨fun q => absurd ((nI_leI (by omega) (by omega)).mp q) (by omega), fun _ => ⟨(vin_iff (by omega)).mpr (by omega), ?_⟩⟩
    rintro _ rfl _ rfl
    rw [nI_1, nI_clamp (by omega)]
    refine hR2 _ ⟨_, rfl, hF.tr (FI.u rfl), fun i hi => ?_⟩
    rw [gI_uI]
    by_cases q : i = k
    · rw [if_pos ⟨rfl, q⟩]; rfl
    · rw [if_neg (fun z => q z.2)]; exact hu i (by omega)
  · rintro s ⟨u, rfl, hF, hu⟩ R
    show wX12_reckon_L12 54 R (nI (2 ^ nw)) (nI (2 * 2 ^ nw)) u Qv
    unfold wX12_reckon_L12
    rw [e22]
    refine ⟨fun _ => ⟨(vin_iff (k := 1) (by omega)).mpr (by omega), ?_⟩, fun q => absurd (nI_le (Nat.le_refl _) (by omega)) q⟩
    intro s2 e2
    have F2 : FI P59 st s2 := by rw [e2]; exact hF.tr (FI.u rfl)
    have T2 : TR nw s2 (fun i => if i = 1 then 0 else 1000000) := by
      intro i hi
      show gI s2 59 i = nI (if i = 1 then 0 else 1000000)
      rw [e2, gI_uI]
      by_cases q1 : i = 1
      · rw [if_pos ⟨rfl, q1⟩, if_pos q1]; rfl
      · rw [if_neg (fun z => q1 z.2), if_neg q1]; exact hu i hi
    have U2 : Sup nw mi (trb (fun i => if i = 1 then 0 else 1000000)) := by
      refine ⟨rfl, fun S l hS hl h0 => ?_⟩
      have e : trb (fun i => if i = 1 then 0 else 1000000) S l = if 2 * S + l = 1 then 0 else 1000000 := rfl
      rw [e]
      by_cases q2 : 2 * S + l = 1
      · have e0 : S = 0 := by omega
        have e1 : l = 1 := by omega
        subst e0 e1
        exact ⟨by decide, Or.inr ⟨0, rfl, rfl, rfl⟩⟩
      · rw [if_neg q2]
        exact ⟨Nat.le_refl _, Or.inl rfl⟩
    refine lp_go (I := fun s => ∃ u d bb, s = (nI (2 ^ nw), bI bb, u) ∧ FI P59 st u ∧ TR nw u d ∧ Sup nw mi (trb d) ∧ (∀ i, d i ≤ 1000000) ∧ (bb = false → Clo nw mi (trb d))) (m := fun s => sumd (fun i => (gI s.2.2 59 i).toNatClampNeg) (2 * 2 ^ nw) + s.2.1.toNatClampNeg) ?_ ⟨s2, _, true, rfl, F2, T2, U2, fun i => by show (if i = 1 then 0 else 1000000) ≤ 1000000; split <;> omega, fun q => absurd q (by decide)⟩
    rintro s ⟨u, d, bb, rfl, hF, hT, hU, hbd, hcl⟩ R hR2
    show wX12_reckon_L42 54 R (nI (2 ^ nw)) (bI bb) u Qv
    unfold wX12_reckon_L42
    refine ⟨fun q => ?_, fun q => ?_⟩
    · have hw2 := (hcl (bI0.mp q)).wt hU
      refine hq u hF (fun S l hS hl h0 => ?_)
      rw [← hw2.un hw hS hl h0]
      exact hT _ (by omega)
    · have qb : bb = true := (Bool.not_eq_false _).mp (fun e => q (bI0.mpr e))
      refine r_round hB (hK.f59 hF) hT hU (fun st' d' b2 hF2 hT2 hR hc => hR2 _ ⟨st', d', b2, rfl, hF.tr hF2, hT2, hR.1, fun i => Nat.le_trans (hR.2.1 i) (hbd i), hc⟩ ?_)
      show sumd (fun i => (gI st' 59 i).toNatClampNeg) (2 * 2 ^ nw) + (bI b2).toNatClampNeg < sumd (fun i => (gI u 59 i).toNatClampNeg) (2 * 2 ^ nw) + (bI bb).toNatClampNeg
      have s1 : sumd (fun i => (gI st' 59 i).toNatClampNeg) (2 * 2 ^ nw) = sumd d' (2 * 2 ^ nw) := sumd_eq (fun i hi => by
        show (gI st' 59 i).toNatClampNeg = d' i
        have := hR.2.1 i
        have := hbd i
        rw [hT2 i hi, nI_clamp (by omega)])
      have s2 : sumd (fun i => (gI u 59 i).toNatClampNeg) (2 * 2 ^ nw) = sumd d (2 * 2 ^ nw) := sumd_eq (fun i hi => by
        show (gI u 59 i).toNatClampNeg = d i
        have := hbd i
        rw [hT i hi, nI_clamp (by omega)])
      rw [s1, s2, qb]
      have c1 : (bI true).toNatClampNeg = 1 := rfl
      have c0 : (bI false).toNatClampNeg = 0 := rfl
      cases b2 with
      | false =>
        have := sumd_le (f := d') (g := d) (n := 2 * 2 ^ nw) (fun i _ => hR.2.1 i)
        omega
      | true =>
        have := sumd_lt (f := d') (g := d) (n := 2 * 2 ^ nw) (fun i _ => hR.2.1 i) (hR.2.2.2 rfl)
        omega
/-- the bits of those who are near -/
def fSet (M : Nat → Nat) : Nat → Nat
  | 0 => 0
  | k + 1 => fSet M k ||| (1 - M (8 + k)) * 2 ^ k
theorem fSet_tb (hM : MB t M) : ∀ {n : Nat}, n ≤ 8 → ∀ i, (fSet M n).testBit i = (decide (i < n) && decide (M (8 + i) = 0)) := by
  intro n
  induction n with
  | zero => intro _ i; show (0 : Nat).testBit i = _; rw [Nat.zero_testBit, decide_eq_false (by omega)]; rfl
  | succ n ih =>
    intro hn i
    show (fSet M n ||| (1 - M (8 + n)) * 2 ^ n).testBit i = _
    rw [Nat.testBit_or, ih (by omega)]
    have b := hM.si (k := n) (by omega)
    have hc : M (8 + n) = 0 ∨ M (8 + n) = 1 := by omega
    rcases hc with e | e
    · rw [e, show (1 - 0) * 2 ^ n = 2 ^ n from Nat.one_mul _, Nat.testBit_two_pow]
      by_cases q : n = i
      · subst q; rw [decide_eq_true (p := n = n) rfl, decide_eq_true e, decide_eq_true (p := n < n + 1) (by omega)]; simp
      · rw [decide_eq_false q]
        by_cases q2 : i < n
        · rw [decide_eq_true q2, decide_eq_true (p := i < n + 1) (by omega)]; simp
        · rw [decide_eq_false q2, decide_eq_false (p := i < n + 1) (by omega)]; simp
    · rw [e, show (1 - 1) * 2 ^ n = 0 from Nat.zero_mul _, Nat.zero_testBit, Bool.or_false]
      by_cases q : n = i
      · subst q; rw [decide_eq_false (p := M (8 + n) = 0) (by omega)]; simp
      · by_cases q2 : i < n
        · rw [decide_eq_true q2, decide_eq_true (p := i < n + 1) (by omega)]
        · rw [decide_eq_false q2, decide_eq_false (p := i < n + 1) (by omega)]
theorem SBt.set {S : Nat} (h : SBt nw M S) (hM : MB t M) (h8 : nw ≤ 8) : S = fSet M nw := Nat.eq_of_testBit_eq (fun i => by rw [h.2 i, fSet_tb hM h8])
theorem fSet_lt (hM : MB t M) {n : Nat} (hn : n ≤ 8) : fSet M n < 2 ^ n := by
  apply Nat.lt_pow_two_of_testBit
  intro i hi
  rw [fSet_tb hM hn, decide_eq_false (by omega)]; rfl
theorem SBt.near {S : Nat} (h : SBt nw M S) : S = 0 ↔ fNear M nw = 0 := by
  have key : ∀ n, fNear M n = 0 ↔ ∀ k, k < n → M (8 + k) ≠ 0 := by
    intro n
    induction n with
    | zero => exact ⟨fun _ k hk => absurd hk (by omega), fun _ => rfl⟩
    | succ n ih =>
      show fNear M n + (1 - M (8 + n)) = 0 ↔ _
      constructor
      · intro e k hk
        by_cases q : k = n
        · subst q; omega
        · exact ih.mp (by omega) k (by omega)
      · intro e
        have h1 := ih.mpr (fun k hk => e k (by omega))
        have h2 := e n (by omega)
        omega
  rw [key nw]
  constructor
  · rintro rfl k hk e
    have := h.2 k
    rw [Nat.zero_testBit, decide_eq_true hk, decide_eq_true e] at this
    cases this
  · intro hk
    apply Nat.eq_of_testBit_eq
    intro i
    rw [h.2 i, Nat.zero_testBit]
    by_cases q : i < nw
    · rw [decide_eq_false (hk i q), Bool.and_false]
    · rw [decide_eq_false q]; rfl
theorem r_state {S : Nat} (hB : BB nw pl wt mi) (hM : MB t M) (hK : KB nw pl wt mi st) (hR : RM st M) (hS : SBt nw M S) (hq : Q (nI (2 * S + M 0)) st) : wX12_state 54 st Q := by
  unfold wX12_state
  have h8 := hB.1
  refine lp_inv (n := nw) (I := fun k s => s = (nI (fSet M k), nI k, st)) ?_ ?_ rfl
  · rintro k s hk rfl R hR2
    show wX12_state_L4 54 R (nI (fSet M k)) (nI k) st Q
    unfold wX12_state_L4
    rw [hK.1]
    have b := hM.si (k := k) (by omega)
    refine ⟨fun q => absurd ((nI_leI (by omega) (by omega)).mp q) (by omega), fun _ => ?_⟩
    have ea : (8 : Int32) + nI k = nI (8 + k) := nI_add 8 k
    rw [ea, nI_clamp (by omega)]
    refine ⟨(vin_iff (by omega)).mpr (by omega), ?_⟩
    rintro _ rfl _ rfl
    rw [show gI st (54 + 2) (8 + k) = nI (M (8 + k)) from hR (8 + k) (by omega)]
    have es : ((1 : Int32) - nI (M (8 + k))) <<< (nI k &&& 31) = nI ((1 - M (8 + k)) * 2 ^ k) := by
      rw [show (1 : Int32) - nI (M (8 + k)) = nI (1 - M (8 + k)) from pk_sub (a := 1) b]
      have hc : M (8 + k) = 0 ∨ M (8 + k) = 1 := by omega
      rcases hc with e | e
      · rw [e, Nat.one_mul]; exact shl_nI k (by omega)
      · rw [e, Nat.zero_mul]
        have : ∀ k, k < 9 → nI 0 <<< (nI k &&& nI 31) = nI 0 := by decide +kernel
        exact this k (by omega)
    rw [es, or_nI, nI_1]
    exact hR2 _ rfl
  · rintro s rfl R
    show wX12_state_L4 54 R (nI (fSet M nw)) (nI nw) st Q
    unfold wX12_state_L4
    rw [hK.1]
    refine ⟨fun _ => ⟨(vin_iff (k := 0) (by omega)).mpr (by omega), ?_⟩, fun q => absurd (nI_le (Nat.le_refl _) (by omega)) q⟩
    have e0 : gI st (54 + 2) (0 : Int32).toNatClampNeg = nI (M 0) := hR 0 (by omega)
    rw [e0, show (2 : Int32) * nI (fSet M nw) = nI (2 * fSet M nw) from pk_mul 2 _, nI_add, ← hS.set hM h8]
    exact hq
theorem ed_side {S a b : Nat} (hM : MB t M) (h8 : nw ≤ 8) (hS : SBt nw M S) (ha : a < nw) (hb : b < nw) : Ed S (M 0) a b ↔ (M (8 + a) = M 0 ∧ M (8 + b) = M 0) := by
  have h0 := hM.la
  have ba := hM.si (k := a) (by omega)
  have bb := hM.si (k := b) (by omega)
  have ta := hS.2 a
  have tb := hS.2 b
  rw [decide_eq_true ha, Bool.true_and] at ta
  rw [decide_eq_true hb, Bool.true_and] at tb
  have hl2 : M 0 = 0 ∨ M 0 = 1 := by omega
  rcases hl2 with e | e
  · rw [e]
    constructor
    · intro h
      obtain ⟨h1, h2⟩ := ed_nearb h
      rw [ta] at h1; rw [tb] at h2
      exact ⟨of_decide_eq_true h1, of_decide_eq_true h2⟩
    · rintro ⟨h1, h2⟩
      exact ed_near (by rw [ta, decide_eq_true h1]) (by rw [tb, decide_eq_true h2])
  · rw [e]
    constructor
    · intro h
      obtain ⟨h1, h2⟩ := ed_farb (by omega) h
      rw [ta] at h1; rw [tb] at h2
      have := of_decide_eq_false h1
      have := of_decide_eq_false h2
      omega
    · rintro ⟨h1, h2⟩
      exact ed_far (by omega) (by rw [ta, decide_eq_false (by omega)]) (by rw [tb, decide_eq_false (by omega)])
theorem xor_idx (S B l : Nat) (hl : l ≤ 1) : (2 * S + l) ^^^ (2 * B) ^^^ 1 = 2 * (S ^^^ B) + (1 - l) := by
  apply Nat.eq_of_testBit_eq
  intro i
  rw [Nat.testBit_xor, Nat.testBit_xor]
  cases i with
  | zero =>
    rw [Nat.testBit_zero, Nat.testBit_zero, Nat.testBit_zero, Nat.testBit_zero]
    have hl2 : l = 0 ∨ l = 1 := by omega
    rcases hl2 with rfl | rfl
    · rw [decide_eq_false (by omega), decide_eq_false (by omega), decide_eq_true (by omega), decide_eq_true (by omega)]; rfl
    · rw [decide_eq_true (by omega), decide_eq_false (by omega), decide_eq_true (by omega), decide_eq_false (by omega)]; rfl
  | succ i =>
    rw [Nat.testBit_succ, Nat.testBit_succ, Nat.testBit_succ, Nat.testBit_succ, show (2 * S + l) / 2 = S from by omega, show 2 * B / 2 = B from by omega, show 1 / 2 = 0 from rfl, show (2 * (S ^^^ B) + (1 - l)) / 2 = S ^^^ B from by omega, Nat.zero_testBit, Nat.testBit_xor, Bool.xor_false]
theorem r_canBegin {S a b : Nat} {T : Nat → Nat → Nat} (hB : BB nw pl wt mi) (hM : MB t M) (hK : KB nw pl wt mi st) (hR : RM st M) (hS : SBt nw M S) (hw : WT nw mi T) (hT : RT nw st T) (ha : a < nw) (hb : b < nw) (hq : Q (bI (fCB T mi S (M 0) a b)) st) : wX12_canBegin 54 (nI a) (nI b) st Q := by
  unfold wX12_canBegin
  have h8 := hB.1
  have h0 := hM.la
  have hSl := hS.lt
  have hS8 := pow8 h8 hSl
  have hp8 : 2 ^ nw ≤ 256 := Nat.pow_le_pow_right (by omega) h8
  have ba := hM.si (k := a) (by omega)
  have bb := hM.si (k := b) (by omega)
  have hsd := ed_side hM h8 hS ha hb
  have ea : (8 : Int32) + nI a = nI (8 + a) := nI_add 8 a
  have eb : (8 : Int32) + nI b = nI (8 + b) := nI_add 8 b
  have e0 : gI st (54 + 2) (0 : Int32).toNatClampNeg = nI (M 0) := hR 0 (by omega)
  rw [ea, eb, nI_clamp (n := 8 + a) (by omega), nI_clamp (n := 8 + b) (by omega), e0, show gI st (54 + 2) (8 + a) = nI (M (8 + a)) from hR _ (by omega), show gI st (54 + 2) (8 + b) = nI (M (8 + b)) from hR _ (by omega), nI_eq (by omega) (by omega), nI_eq (by omega) (by omega)]
  unfold fCB at hq
  have no : ¬ Ed S (M 0) a b → Q 0 st := fun hn => by
    rw [(Bool.not_eq_true _).mp (fun e => hn (Edb_iff.mp e))] at hq
    exact hq
  refine ⟨(vin_iff (by omega)).mpr (by omega), (vin_iff (k := 0) (by omega)).mpr (by omega), fun q => no (fun e => q (hsd.mp e).1), fun q => ⟨(vin_iff (by omega)).mpr (by omega), (vin_iff (k := 0) (by omega)).mpr (by omega), fun q2 => ?_, fun q2 => no (fun e => q2 (hsd.mp e).2)⟩⟩
  have he : Ed S (M 0) a b := hsd.mpr ⟨q, q2⟩
  rw [Edb_iff.mpr he, Bool.true_and] at hq
  refine r_state hB hM hK hR hS ?_
  rintro _ rfl
  have hx8 := pow8 h8 (xb_lt hSl ha hb)
  have hxl := xb_lt hSl ha hb
  have hto : (nI (2 * S + M 0) ^^^ ((2 : Int32) * (((1 : Int32) <<< (nI a &&& 31)) ||| ((1 : Int32) <<< (nI b &&& 31))))) ^^^ 1 = nI (2 * (S ^^^ bt a b) + (1 - M 0)) := by
    rw [sh_bt (by omega) (by omega), show (2 : Int32) * nI (bt a b) = nI (2 * bt a b) from pk_mul 2 _, xor_nI]
    show nI _ ^^^ nI 1 = _
    rw [xor_nI, xor_idx _ _ _ h0]
  rw [hto, r_tk hB hK ha hb, nI_clamp (by omega), nI_clamp (by omega)]
  have hv1 : S ≠ 0 ∨ M 0 = 1 := by
    by_cases q3 : M 0 = 1
    · exact Or.inr q3
    · left
      have e : M 0 = 0 := by omega
      rw [e] at he
      exact he.sn
  have u1 := (hw.2 S (M 0) hSl h0 hv1).1
  have u2 := (hw.2 _ (1 - M 0) hxl (by omega) (he.nz h0)).1
  have ht := tk_le (a := a) (b := b) (fun k => (hB.2.2 k).2)
  rw [show gI st (54 + 5) (2 * S + M 0) = nI (T S (M 0)) from hT S (M 0) hSl h0 hv1, show gI st (54 + 5) (2 * (S ^^^ bt a b) + (1 - M 0)) = nI (T (S ^^^ bt a b) (1 - M 0)) from hT _ _ hxl (by omega) (he.nz h0), nI_add, nI_eq (by omega) (by omega)]
  refine ⟨(vin_iff (by omega)).mpr (by omega), (vin_iff (by omega)).mpr (by omega), (vin_iff (by omega)).mpr (by omega), (vin_iff (by omega)).mpr (by omega), fun q3 => ?_, fun q3 => ?_⟩
  · rw [decide_eq_false (by omega)] at hq; exact hq
  · rw [decide_eq_true (by omega)] at hq; exact hq
theorem r_first {S : Nat} {T : Nat → Nat → Nat} (hB : BB nw pl wt mi) (hM : MB t M) (hK : KB nw pl wt mi st) (hR : RM st M) (hS : SBt nw M S) (hw : WT nw mi T) (hq : ∀ st', FI P59 st st' → RT nw st' T → Q (oI (fFst T mi nw S (M 0))) st') : wX12_first 54 st Q := by
  unfold wX12_first
  have h8 := hB.1
  refine r_reckon hB hK hw (fun s1 hF hT => ?_)
  have hq := hq s1 hF hT
  have hK1 := hK.f59 hF
  have hR1 := hR.f59 hF
  refine lp_inv (n := nw) (I := fun k s => s = (nI k, s1) ∧ ∀ a b, a < k → b < nw → fCB T mi S (M 0) a b = false) ?_ ?_ ⟨rfl, fun a b ha => absurd ha (by omega)⟩
  · rintro k s hk ⟨rfl, hno⟩ R hR2
    show wX12_first_L6 54 R (nI k) s1 Q
    unfold wX12_first_L6
    rw [hK1.1]
    refine ⟨fun q => absurd ((nI_leI (by omega) (by omega)).mp q) (by omega), fun _ => ?_⟩
    refine lp_inv (n := nw) (I := fun j s => s = (nI k, nI j, s1) ∧ ∀ b, b < j → fCB T mi S (M 0) k b = false) ?_ ?_ ⟨rfl, fun b hb => absurd hb (by omega)⟩
    · rintro j s hj ⟨rfl, hno2⟩ R3 hR3
      show wX12_first_L19 54 R R3 (nI k) (nI j) s1 Q
      unfold wX12_first_L19
      rw [hK1.1]
      refine ⟨fun q => absurd ((nI_leI (by omega) (by omega)).mp q) (by omega), fun _ => ?_⟩
      refine r_canBegin hB hM hK1 hR1 hS hw hT hk hj ?_
      refine ⟨fun q => ?_, fun q => ?_⟩
      · rintro _ rfl
        rw [nI_1]
        refine hR3 _ ⟨rfl, fun b hb => ?_⟩
        by_cases e : b = j
        · subst e; exact bI0.mp q
        · exact hno2 b (by omega)
      · have qb := (Bool.not_eq_false _).mp (fun e => q (bI0.mpr e))
        have ef : fFst T mi nw S (M 0) = some k := by
          refine fFind_at (fun a ha => ?_) ?_ hk
          · show (fFind (fun b => fCB T mi S (M 0) a b) nw).isSome = false
            rw [fFind_no (fun b hb => hno a b ha hb)]; rfl
          · show (fFind (fun b => fCB T mi S (M 0) k b) nw).isSome = true
            rw [fFind_at (k := j) hno2 qb hj]; rfl
        rw [ef] at hq
        exact hq
    · rintro s ⟨rfl, hno2⟩ R3
      show wX12_first_L19 54 R R3 (nI k) (nI nw) s1 Q
      unfold wX12_first_L19
      rw [hK1.1]
      refine ⟨fun _ => ?_, fun q => absurd (nI_le (Nat.le_refl _) (by omega)) q⟩
      rintro _ rfl
      rw [nI_1]
      refine hR2 _ ⟨rfl, fun a b ha hb => ?_⟩
      by_cases e : a = k
      · subst e; exact hno2 b hb
      · exact hno a b (by omega) hb
  · rintro s ⟨rfl, hno⟩ R
    show wX12_first_L6 54 R (nI nw) s1 Q
    unfold wX12_first_L6
    rw [hK1.1]
    refine ⟨fun _ => ?_, fun q => absurd (nI_le (Nat.le_refl _) (by omega)) q⟩
    have ef : fFst T mi nw S (M 0) = none := fFind_no (fun a ha => by
      show (fFind (fun b => fCB T mi S (M 0) a b) nw).isSome = false
      rw [fFind_no (fun b hb => hno a b ha hb)]; rfl)
    rw [ef] at hq
    exact hq
theorem r_fewest {S : Nat} {T : Nat → Nat → Nat} (hB : BB nw pl wt mi) (hM : MB t M) (hK : KB nw pl wt mi st) (hR : RM st M) (hS : SBt nw M S) (hw : WT nw mi T) (hq : ∀ st', FI P59 st st' → Q (nI (fFew T S (M 0))) st') : wX12_fewest 54 st Q := by
  unfold wX12_fewest
  have h8 := hB.1
  have h0 := hM.la
  have hSl := hS.lt
  have hS8 := pow8 h8 hSl
  have hp8 : 2 ^ nw ≤ 256 := Nat.pow_le_pow_right (by omega) h8
  have hn := fNear_le (M := M) (k := nw)
  refine r_near hB hM hK hR ?_
  have e : (nI (fNear M nw) = 0) ↔ S = 0 := by
    rw [hS.near]
    exact nI_eq (b := 0) (by omega) (by omega)
  rw [e]
  unfold fFew at hq
  refine ⟨fun q => ?_, fun q => ?_⟩
  · rw [if_neg q] at hq
    refine r_reckon hB hK hw (fun s1 hF hT => ?_)
    refine r_state hB hM (hK.f59 hF) (hR.f59 hF) hS ?_
    rw [nI_clamp (by omega), show gI s1 (54 + 5) (2 * S + M 0) = nI (T S (M 0)) from hT S (M 0) hSl h0 (Or.inl q)]
    exact ⟨(vin_iff (by omega)).mpr (by omega), hq s1 hF⟩
  · rw [if_pos q] at hq
    exact hq st FI.rf
end RW1

/-! who is meant: the class's choice, the reference's; a crossing sent; a bridge begun, copied, kept and brought back -/
theorem neg_leI {a b : Nat} (ha : a < 2 ^ 30) (hb : b < 2 ^ 30) : (-nI a ≤ -nI b) ↔ b ≤ a := by
  have h1 : (-nI a).toInt = -(a : Int) := by rw [Int32.toInt_neg, nI_toInt (by omega)]; exact Int.bmod_eq_of_le (by omega) (by omega)
  have h2 : (-nI b).toInt = -(b : Int) := by rw [Int32.toInt_neg, nI_toInt (by omega)]; exact Int.bmod_eq_of_le (by omega) (by omega)
  rw [Int32.le_iff_toInt_le, h1, h2]; omega
theorem oI_iff {k : Nat} {o : Option Nat} (hk : k < 2 ^ 31) (ho : ∀ j, o = some j → j < 2 ^ 31) : (nI k = oI o) ↔ some k = o := by
  cases o with
  | none => rw [oI_none, ne_m1 hk]; exact ⟨False.elim, fun q => by cases q⟩
  | some j => rw [oI_some, nI_eq hk (ho j rfl)]; exact ⟨fun q => by rw [q], fun q => by cases q; rfl⟩
theorem oI_m1 {o : Option Nat} (ho : ∀ j, o = some j → j < 2 ^ 31) : (oI o = -nI 1) ↔ o = none := by
  cases o with
  | none => exact ⟨fun _ => rfl, fun _ => rfl⟩
  | some j => rw [oI_some, ne_m1 (ho j rfl)]; exact ⟨False.elim, fun q => by cases q⟩
def rk (wt mi : Nat → Nat) (how j : Nat) : Int32 := if how = 0 then -nI (mi j) else if how = 1 then nI (mi j) else if how = 2 then -nI (wt j) else nI (wt j)
section WH
variable {b nw pl t : Nat} {wt mi : Nat → Nat} {M M' : Nat → Nat} {st st' : St} {Q : Int32 → St → Prop} {Qv : St → Prop}
theorem rk_le {how i j : Nat} (hB : BB nw pl wt mi) (hh : how < 4) : (rk wt mi how i ≤ rk wt mi how j) ↔ ¬ fRather wt mi how i j = true := by
  have b1 := hB.2.2 i
  have b2 := hB.2.2 j
  have hc : how = 0 ∨ how = 1 ∨ how = 2 ∨ how = 3 := by omega
  rcases hc with rfl | rfl | rfl | rfl
  · show -nI (mi i) ≤ -nI (mi j) ↔ ¬ decide (mi i < mi j) = true
    rw [neg_leI (by omega) (by omega), decide_eq_true_iff]; omega
  · show nI (mi i) ≤ nI (mi j) ↔ ¬ decide (mi j < mi i) = true
    rw [nI_leI (by omega) (by omega), decide_eq_true_iff]; omega
  · show -nI (wt i) ≤ -nI (wt j) ↔ ¬ decide (wt i < wt j) = true
    rw [neg_leI (by omega) (by omega), decide_eq_true_iff]; omega
  · show nI (wt i) ≤ nI (wt j) ↔ ¬ decide (wt j < wt i) = true
    rw [nI_leI (by omega) (by omega), decide_eq_true_iff]; omega
theorem fCh_lt {how : Nat} {but : Option Nat} : ∀ {k j : Nat}, fCh wt mi M how but k = some j → j < k := by
  intro k
  induction k with
  | zero => intro j h; cases h
  | succ k ih =>
    intro j h
    unfold fCh at h
    split at h
    · have := ih h; omega
    · split at h
      · cases h; omega
      · next i hi =>
        have := ih hi
        split at h <;> cases h <;> omega
theorem fWho_lt {c j : Nat} {but : Option Nat} (hc : c < 8 → c < nw) (h : fWho nw wt mi M c but = some j) : j < nw := by
  unfold fWho at h
  split at h
  · next q => cases h; exact hc q
  · exact fCh_lt h
theorem fCh_skip {how k : Nat} {but : Option Nat} (q : some k = but ∨ M (8 + k) ≠ M 0) : fCh wt mi M how but (k + 1) = fCh wt mi M how but k := by
  show (if some k = but ∨ M (8 + k) ≠ M 0 then fCh wt mi M how but k else _) = _
  rw [if_pos q]
theorem fCh_none {how k : Nat} {but : Option Nat} (q : ¬ (some k = but ∨ M (8 + k) ≠ M 0)) (h : fCh wt mi M how but k = none) : fCh wt mi M how but (k + 1) = some k := by
  show (if some k = but ∨ M (8 + k) ≠ M 0 then fCh wt mi M how but k else _) = _
  rw [if_neg q, h]
theorem fCh_some {how k j : Nat} {but : Option Nat} (q : ¬ (some k = but ∨ M (8 + k) ≠ M 0)) (h : fCh wt mi M how but k = some j) : fCh wt mi M how but (k + 1) = if fRather wt mi how k j = true then some k else some j := by
  show (if some k = but ∨ M (8 + k) ≠ M 0 then fCh wt mi M how but k else _) = _
  rw [if_neg q, h]
theorem c_rank {how k : Nat} (hB : BB nw pl wt mi) (hC : CB b nw wt mi st) (h : BR b nw pl st M) (hh : how < 4) (hk : k < nw) (hq : Q (rk wt mi how k) st) : wX2_rankOf b (some (26 + how)) (nI k) st Q := by
  unfold wX2_rankOf
  have h8 := hB.1
  have e1 := hC.1 k hk
  have e2 := hC.2 k hk
  refine c_has hB h hk ⟨fun _ => ⟨26 + how, rfl, by omega, (vin_iff (by omega)).mpr (by omega), ?_⟩, fun q => absurd q (by decide)⟩
  have hin : vp_in (nI k) 8 := (vin_iff (by omega)).mpr (by omega)
  rw [nI_clamp (n := k) (by omega), e1, e2]
  have hc : how = 0 ∨ how = 1 ∨ how = 2 ∨ how = 3 := by omega
  rcases hc with rfl | rfl | rfl | rfl
  · exact ⟨fun q => absurd q (by decide +kernel), fun _ => ⟨hin, hq⟩, fun q => absurd q (by decide +kernel), fun q => absurd q (by decide +kernel)⟩
  · exact ⟨fun q => absurd q (by decide +kernel), fun q => absurd q (by decide +kernel), fun _ => ⟨hin, hq⟩, fun q => absurd q (by decide +kernel)⟩
  · exact ⟨fun q => absurd q (by decide +kernel), fun q => absurd q (by decide +kernel), fun q => absurd q (by decide +kernel), fun _ => ⟨hin, hq⟩⟩
  · exact ⟨fun _ => ⟨hin, hq⟩, fun q => absurd q (by decide +kernel), fun q => absurd q (by decide +kernel), fun q => absurd q (by decide +kernel)⟩
theorem c_choose {how : Nat} {but : Option Nat} (hB : BB nw pl wt mi) (hM : MB t M) (hC : CB b nw wt mi st) (h : BR b nw pl st M) (hh : how < 4) (hb : ∀ o, but = some o → o < nw) (hq : Q (oI (fCh wt mi M how but nw)) st) : wX2_choose b (some (26 + how)) (oI but) st Q := by
  unfold wX2_choose
  have h8 := hB.1
  have e0 := h.w0
  have e7 := h.la
  have ob : ∀ j, but = some j → j < 2 ^ 31 := fun j e => Nat.lt_trans (hb j e) (by omega)
  refine lp_inv (n := nw) (I := fun k s => ∃ best, s = (some (26 + how), oI but, oI (fCh wt mi M how but k), best, nI k, st) ∧ ∀ j, fCh wt mi M how but k = some j → best = rk wt mi how j) ?_ ?_ ⟨0, rfl, fun j e => by cases e⟩
  · rintro k s hk ⟨best, rfl, hbest⟩ R hR2
    show wX2_choose_L8 b (some (26 + how)) (oI but) R (some (26 + how)) (oI but) (oI (fCh wt mi M how but k)) best (nI k) st Q
    unfold wX2_choose_L8 wX2_choose_L57 wX2_choose_L64
    have hskip : (some k = but ∨ M (8 + k) ≠ M 0) → ∀ x : Int32, x = nI k + 1 → R (some (26 + how), oI but, oI (fCh wt mi M how but k), best, x, st) := by
      rintro q _ rfl
      rw [nI_1]
      exact hR2 _ ⟨best, by rw [fCh_skip q], fun j e => hbest j (by rw [← fCh_skip q]; exact e)⟩
    have hnew : fCh wt mi M how but (k + 1) = some k → ∀ x : Int32, x = nI k + 1 → R (some (26 + how), oI but, nI k, rk wt mi how k, x, st) := by
      rintro q _ rfl
      rw [nI_1]
      exact hR2 _ ⟨rk wt mi how k, by rw [q]; rfl, fun j e => by rw [q] at e; cases e; rfl⟩
    rw [e0]
    refine ⟨fun q => absurd ((nI_leI (by omega) (by omega)).mp q) (by omega), fun _ => ⟨fun q => hskip (Or.inl ((oI_iff (by omega) ob).mp q)), fun q => ?_⟩⟩
    have q1 : ¬ some k = but := fun e => q ((oI_iff (by omega) ob).mpr e)
    refine c_near hB h hk ?_
    rw [e7, there_la hM (by omega)]
    unfold fThere
    rw [decide_eq_true_iff]
    refine ⟨fun q2 => hskip (Or.inr q2), fun q2 => ?_⟩
    have q3 : ¬ (some k = but ∨ M (8 + k) ≠ M 0) := by rintro (a | a); exact q1 a; exact a q2
    refine c_rank hB hC h hh hk ?_
    cases hw : fCh wt mi M how but k with
    | none => exact ⟨fun _ => hnew (fCh_none q3 hw), fun q4 => absurd rfl q4⟩
    | some j =>
      have hj := fCh_lt hw
      refine ⟨fun q4 => ((ne_m1 (by omega)).mp q4).elim, fun _ => ?_⟩
      have hs := fCh_some q3 hw
      rw [hbest j hw, rk_le hB hh]
      refine ⟨fun q4 => ?_, fun q4 => ?_⟩
      · rintro _ rfl
        rw [nI_1]
        rw [if_neg q4] at hs
        exact hR2 _ ⟨rk wt mi how j, by rw [hs], fun i e => by rw [hs] at e; cases e; rfl⟩
      · rw [if_pos (Decidable.not_not.mp q4)] at hs
        exact hnew hs
  · rintro s ⟨best, rfl, -⟩ R
    show wX2_choose_L8 b (some (26 + how)) (oI but) R (some (26 + how)) (oI but) (oI (fCh wt mi M how but nw)) best (nI nw) st Q
    unfold wX2_choose_L8
    rw [e0]
    exact ⟨fun _ => hq, fun q => absurd (nI_le (Nat.le_refl _) (by omega)) q⟩
theorem r_rather {how one than : Nat} (hB : BB nw pl wt mi) (hK : KB nw pl wt mi st) (hh : how < 4) (h1 : one < nw) (h2 : than < nw) (hq : Q (bI (fRather wt mi how one than)) st) : wX12_isRather 54 (wI (8 + how)) (nI one) (nI than) st Q := by
  unfold wX12_isRather
  have h8 := hB.1
  have a1 := hK.2.2.1 one h1
  have a2 := hK.2.2.1 than h2
  have a3 := hK.2.2.2 one h1
  have a4 := hK.2.2.2 than h2
  have b1 := hB.2.2 one
  have b2 := hB.2.2 than
  have i1 : vp_in (nI one) 9 := (vin_iff (by omega)).mpr (by omega)
  have i2 : vp_in (nI than) 9 := (vin_iff (by omega)).mpr (by omega)
  rw [nI_clamp (n := one) (by omega), nI_clamp (n := than) (by omega), a1, a2, a3, a4]
  have key : ∀ (x y : Nat) (c : Bool), x ≤ 20 → y ≤ 20 → (c = decide (x < y)) → Q (bI c) st → (nI y ≤ nI x → Q 0 st) ∧ (¬ nI y ≤ nI x → Q 1 st) := by
    rintro x y c hx hy rfl hc
    rw [nI_leI (by omega) (by omega)]
    refine ⟨fun q => ?_, fun q => ?_⟩
    · rw [decide_eq_false (by omega)] at hc; exact hc
    · rw [decide_eq_true (by omega)] at hc; exact hc
  have hc : how = 0 ∨ how = 1 ∨ how = 2 ∨ how = 3 := by omega
  rcases hc with rfl | rfl | rfl | rfl
  · exact ⟨fun q => absurd (show wI (8 + 0) = -2 from by decide) q, fun _ => ⟨i1, i2, key _ _ _ (by omega) (by omega) rfl hq⟩⟩
  · exact ⟨fun _ => ⟨fun q => absurd (show wI (8 + 1) = -3 from by decide) q, fun _ => ⟨i1, i2, key _ _ _ (by omega) (by omega) rfl hq⟩⟩, fun q => absurd q (by decide)⟩
  · exact ⟨fun _ => ⟨fun _ => ⟨fun q => absurd (show wI (8 + 2) = -4 from by decide) q, fun _ => ⟨i1, i2, key _ _ _ (by omega) (by omega) rfl hq⟩⟩, fun q => absurd q (by decide)⟩, fun q => absurd q (by decide)⟩
  · exact ⟨fun _ => ⟨fun _ => ⟨fun _ => ⟨i1, i2, key _ _ _ (by omega) (by omega) rfl hq⟩, fun q => absurd q (by decide)⟩, fun q => absurd q (by decide)⟩, fun q => absurd q (by decide)⟩
theorem wI_neg : ∀ how, how < 4 → wI (8 + how) < 0 := by decide
theorem r_meant {c : Nat} {but : Option Nat} (hB : BB nw pl wt mi) (hM : MB t M) (hK : KB nw pl wt mi st) (hR : RM st M) (hc : c < 12) (hb : ∀ o, but = some o → o < nw) (hq : Q (oI (fWho nw wt mi M c but)) st) : wX12_meant 54 (wI c) (oI but) st Q := by
  unfold wX12_meant
  have h8 := hB.1
  have ob : ∀ j, but = some j → j < 2 ^ 31 := fun j e => Nat.lt_trans (hb j e) (by omega)
  unfold fWho at hq
  by_cases q8 : c < 8
  · rw [if_pos q8] at hq
    have : wI c = nI c := if_pos q8
    rw [this]
    exact ⟨fun q => absurd q (nI_pos (by omega)), fun _ => hq⟩
  rw [if_neg q8] at hq
  obtain ⟨how, rfl⟩ : ∃ how, c = 8 + how := ⟨c - 8, by omega⟩
  rw [show 8 + how - 8 = how from by omega] at hq
  have hh : how < 4 := by omega
  refine ⟨fun _ => ?_, fun q => absurd (wI_neg how hh) q⟩
  refine lp_inv (n := nw) (I := fun k s => s = (wI (8 + how), oI but, oI (fCh wt mi M how but k), nI k, st)) ?_ ?_ rfl
  · rintro k s hk rfl R hR2
    show wX12_meant_L11 54 (wI (8 + how)) (oI but) R (wI (8 + how)) (oI but) (oI (fCh wt mi M how but k)) (nI k) st Q
    unfold wX12_meant_L11 wX12_meant_L57 wX12_meant_L60
    have hskip : (some k = but ∨ M (8 + k) ≠ M 0) → ∀ x : Int32, x = nI k + 1 → R (wI (8 + how), oI but, oI (fCh wt mi M how but k), x, st) := by
      rintro q _ rfl
      rw [nI_1]
      exact hR2 _ (by rw [fCh_skip q])
    have hnew : fCh wt mi M how but (k + 1) = some k → ∀ x : Int32, x = nI k + 1 → R (wI (8 + how), oI but, nI k, x, st) := by
      rintro q _ rfl
      rw [nI_1]
      exact hR2 _ (by rw [q]; rfl)
    rw [hK.1]
    refine ⟨fun q => absurd ((nI_leI (by omega) (by omega)).mp q) (by omega), fun _ => ⟨fun q => hskip (Or.inl ((oI_iff (by omega) ob).mp q)), fun q => ?_⟩⟩
    have q1 : ¬ some k = but := fun e => q ((oI_iff (by omega) ob).mpr e)
    refine r_isThere (x := some k) hM hR (fun o e => by cases e; omega) ?_
    refine ⟨fun q2 => ?_, fun q2 => hskip (Or.inr (of_decide_eq_false (bI0.mp q2)))⟩
    have q2 : M (8 + k) = M 0 := of_decide_eq_true ((Bool.not_eq_false _).mp (fun e => q2 (bI0.mpr e)))
    have q3 : ¬ (some k = but ∨ M (8 + k) ≠ M 0) := by rintro (a | a); exact q1 a; exact a q2
    cases hw : fCh wt mi M how but k with
    | none => exact ⟨fun _ => hnew (fCh_none q3 hw), fun q4 => absurd rfl q4⟩
    | some j =>
      have hj := fCh_lt hw
      refine ⟨fun q4 => ((ne_m1 (by omega)).mp q4).elim, fun _ => ?_⟩
      have hs := fCh_some q3 hw
      refine r_rather hB hK hh hk (by omega) ?_
      refine ⟨fun q4 => ?_, fun q4 => ?_⟩
      · rintro _ rfl
        rw [nI_1]
        rw [if_neg (by rw [bI0.mp q4]; decide)] at hs
        exact hR2 _ (by rw [hs])
      · rw [if_pos ((Bool.not_eq_false _).mp (fun e => q4 (bI0.mpr e)))] at hs
        exact hnew hs
  · rintro s rfl R
    show wX12_meant_L11 54 (wI (8 + how)) (oI but) R (wI (8 + how)) (oI but) (oI (fCh wt mi M how but nw)) (nI nw) st Q
    unfold wX12_meant_L11
    rw [hK.1]
    exact ⟨fun _ => hq, fun q => absurd (nI_le (Nat.le_refl _) (by omega)) q⟩
/-- a crossing that is sent: whether it is done -/
def fSnd1 (pl : Nat) (wt mi : Nat → Nat) (one : Nat) (other : Option Nat) (M : Nat → Nat) : Bool × (Nat → Nat) := if fCan pl mi one other M = true then (true, (fCross pl wt mi one other M).2) else (false, M)
def fSend (nw pl : Nat) (wt mi : Nat → Nat) (c1 : Nat) (c2 : Option Nat) (M : Nat → Nat) : Bool × (Nat → Nat) := match fWho nw wt mi M c1 none with
  | none => (false, M)
  | some one => match c2 with
    | none => fSnd1 pl wt mi one none M
    | some c => match fWho nw wt mi M c (some one) with
      | none => (false, M)
      | some o => if o = one then (false, M) else fSnd1 pl wt mi one (some o) M
def wO : Option Nat → Int32
  | none => -nI 1
  | some c => wI c
theorem wI_ne : ∀ c, c < 12 → wI c ≠ -1 := by decide
theorem r_snd1 {one : Nat} {other : Option Nat} {p1 p2 : Int32} (hB : BB nw pl wt mi) (hM : MB 120 M) (hK : KB nw pl wt mi st) (hR : RM st M) (hO : OK2 nw one other) (hq : ∀ st', FI P56 st st' → RM st' (fSnd1 pl wt mi one other M).2 → Q (bI (fSnd1 pl wt mi one other M).1) st') : wX12_send_L48 54 p1 p2 (nI one) (oI other) st Q := by
  unfold wX12_send_L48
  unfold fSnd1 at hq
  refine r_canCross hB hM hK hR hO ?_
  refine ⟨fun q => ?_, fun q => ?_⟩
  · have q := (Bool.not_eq_false _).mp (fun e => q (bI0.mpr e))
    rw [if_pos q] at hq
    exact r_cross hB hM hK hR hO (fCan_all q).2.2 hq
  · rw [if_neg (by rw [bI0.mp q]; decide)] at hq
    exact hq st FI.rf hR
theorem r_send {c1 : Nat} {c2 : Option Nat} (hB : BB nw pl wt mi) (hM : MB 120 M) (hK : KB nw pl wt mi st) (hR : RM st M) (h1 : c1 < 12) (h1n : c1 < 8 → c1 < nw) (h2 : ∀ c, c2 = some c → c < 12 ∧ (c < 8 → c < nw)) (hq : ∀ st', FI P56 st st' → RM st' (fSend nw pl wt mi c1 c2 M).2 → Q (bI (fSend nw pl wt mi c1 c2 M).1) st') : wX12_send 54 (wI c1) (wO c2) st Q := by
  unfold wX12_send
  have h8 := hB.1
  unfold fSend at hq
  refine r_meant (but := none) hB hM hK hR h1 (fun o e => by cases e) ?_
  cases hw : fWho nw wt mi M c1 none with
  | none =>
    simp only [hw] at hq
    exact ⟨fun q => absurd rfl q, fun _ => hq st FI.rf hR⟩
  | some one =>
    have ho := fWho_lt h1n hw
    simp only [hw] at hq
    refine ⟨fun _ => ?_, fun q => ((ne_m1 (by omega)).mp q).elim⟩
    cases c2 with
    | none =>
      refine ⟨fun q => absurd rfl q, fun _ => ?_⟩
      unfold wX12_send_L29
      exact ⟨fun _ => r_snd1 (other := none) hB hM hK hR ⟨ho, fun o e => by cases e⟩ hq, fun q => absurd rfl q⟩
    | some c =>
      obtain ⟨hc, hcn⟩ := h2 c rfl
      refine ⟨fun _ => ?_, fun q => absurd q (wI_ne c hc)⟩
      refine r_meant (but := some one) hB hM hK hR hc (fun o e => by cases e; exact ho) ?_
      unfold wX12_send_L29
      refine ⟨fun q => absurd q (wI_ne c hc), fun _ => ?_⟩
      cases hw2 : fWho nw wt mi M c (some one) with
      | none =>
        simp only [hw2] at hq
        exact ⟨fun _ => hq st FI.rf hR, fun q => absurd rfl q⟩
      | some o =>
        have ho2 := fWho_lt hcn hw2
        simp only [hw2] at hq
        refine ⟨fun q => ((ne_m1 (by omega)).mp q).elim, fun _ => ?_⟩
        rw [oI_some, nI_eq (by omega) (by omega)]
        refine ⟨fun q => ?_, fun q => ?_⟩
        · rw [if_pos q] at hq
          exact hq st FI.rf hR
        · rw [if_neg q] at hq
          exact r_snd1 (other := some o) hB hM hK hR ⟨ho, fun o' e => by cases e; exact ⟨ho2, q⟩⟩ hq
end WH

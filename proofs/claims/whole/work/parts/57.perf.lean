/-! what a run keeps to: bounds, where it stands; the class's run of a plan -/
def MC (K : Nat) (M : Nat → Nat) : Prop := M 2 ≤ K ∧ M 4 ≤ K ∧ M 5 ≤ K ∧ M 6 ≤ K
theorem MC.mo {K K2 : Nat} {M : Nat → Nat} (h : MC K M) (hk : K ≤ K2) : MC K2 M := ⟨Nat.le_trans h.1 hk, Nat.le_trans h.2.1 hk, Nat.le_trans h.2.2.1 hk, Nat.le_trans h.2.2.2 hk⟩
section PF1
variable {B br t K : Nat} {A : Bk} {M M' : Nat → Nat} {st st' : St} {Q : Int32 → St → Prop} {Qv : St → Prop}
theorem fNight2 {pl : Nat} (hp : pl ≤ 12) : fNight pl M 2 = M 2 + 1 := by
  unfold fNight
  rw [fMark_ne hp (by omega), fRot_ne (by omega) hp, up_a, if_neg (by omega), up_a, if_pos rfl]
theorem fBy2 {pl : Nat} (hp : pl ≤ 12) : ∀ {f : Nat} {M : Nat → Nat}, (fBy pl f M).2 2 ≤ M 2 + f := by
  intro f
  induction f with
  | zero => intro M; exact Nat.le_refl _
  | succ f ih =>
    intro M
    unfold fBy
    split
    · show M 2 ≤ _; omega
    · have := ih (M := fNight pl (up M 3 (M 3 - 120)))
      rw [fNight2 hp, up_a, if_neg (by omega)] at this
      show (fBy pl f (fNight pl (up M 3 (M 3 - 120)))).2 2 ≤ _
      omega
theorem MC.go {pl min : Nat} (hp : pl ≤ 12) (h : MC K M) : MC (K + 7) (fGo pl min M).2 := by
  have h2 := fBy2 hp (f := 7) (M := up M 3 (M 3 + min))
  rw [up_a, if_neg (by omega)] at h2
  obtain ⟨a, b, c, d⟩ := h
  refine ⟨?_, ?_, ?_, ?_⟩
  · show (fBy pl 7 _).2 2 ≤ _; omega
  · rw [fGo_ne hp (by omega) (by omega) (by omega) (by omega)]; omega
  · rw [fGo_ne hp (by omega) (by omega) (by omega) (by omega)]; omega
  · rw [fGo_ne hp (by omega) (by omega) (by omega) (by omega)]; omega
theorem MC.cross {nw pl one : Nat} {wt mi : Nat → Nat} {other : Option Nat} (hB : BB nw pl wt mi) (hO : OK2 nw one other) (h : MC K M) : MC (K + 8) (fCross pl wt mi one other M).2 := by
  have hp := hB.2.1
  have h1 := (hO.lt hB).1
  have h2 := (hO.lt hB).2
  have hs : ∀ j, j < 16 → (fSteps (fLoad wt one other) pl pl false M).2 j = M j := fun j hj => fSteps_ne hp (by omega) (Nat.le_refl _)
  unfold fCross fAft
  generalize fSteps (fLoad wt one other) pl pl false M = z at hs ⊢
  obtain ⟨ok, M1⟩ := z
  have hs : ∀ j, j < 16 → M1 j = M j := hs
  show MC (K + 8) (fGo pl (fTakes mi one other) (up (fMid one other ok M1) 1 (M1 1 - fTakes mi one other))).2
  refine MC.mo (K := (K + 1) + 7) (MC.go hp ?_) (by omega)
  obtain ⟨a, b, c, d⟩ := h
  have m2 := hs 2 (by omega)
  have m4 := hs 4 (by omega)
  have m5 := hs 5 (by omega)
  have m6 := hs 6 (by omega)
  unfold MC
  rw [up_a, if_neg (by omega), up_a, if_neg (by omega), up_a, if_neg (by omega), up_a, if_neg (by omega)]
  unfold fMid
  cases ok with
  | true =>
    rw [if_pos rfl, fOver_ne (by omega) h1 h2, fOver_ne (j := 5) (by omega) h1 h2, fOver_ne (j := 6) (by omega) h1 h2]
    have : fOver one other M1 4 = M1 4 + 1 := by
      unfold fOver
      rw [if_neg (by omega), if_neg (by omega), if_neg (fun ⟨o, _, e⟩ => by omega), if_pos rfl]
    rw [this]
    omega
  | false =>
    rw [if_neg (by decide), up_a, if_neg (by omega), up_a, if_neg (by omega), up_a, if_pos rfl, up_a, if_neg (by omega)]
    omega
theorem MB.write {v : Nat} (hM : MB t M) : MB t (fWrite v M) := by
  have hf : ∀ j, j < 40 → j ≠ 6 → fWrite v M j = M j := fun j h1 h2 => by unfold fWrite; rw [if_neg (by omega), if_neg (by omega), if_neg h2]
  refine ⟨fun j => ?_, fun k hk => ?_⟩
  · by_cases q : j < 40 ∧ j ≠ 6
    · rw [hf j q.1 q.2]; exact hM.1 j
    · exact bd_free (by omega)
  · rw [hf _ (by omega) (by omega), hf _ (by omega) (by omega)]
    exact hM.2 k hk
theorem fMend_lt {pl v k : Nat} (h : fF0 M pl = some k) : k < pl := fF0_lt h
theorem MB.mend {pl v : Nat} (hp : pl ≤ 12) (hM : MB t M) : MB t (fMend pl v M).2 := by
  unfold fMend
  split
  · next hv =>
    cases h : fF0 M pl with
    | none => exact hM
    | some k =>
      have := fF0_lt h
      exact hM.sr (by omega) (by omega) (by omega) (by omega)
  · exact hM
theorem MC.mend {pl v : Nat} (hp : pl ≤ 12) (h : MC K M) : MC K (fMend pl v M).2 := by
  unfold fMend
  split
  · next hv =>
    cases h0 : fF0 M pl with
    | none => exact h
    | some k =>
      have := fF0_lt h0
      show MC K (sru M k v 0)
      unfold MC
      rw [sru_ne (by omega) (by omega), sru_ne (by omega) (by omega), sru_ne (by omega) (by omega), sru_ne (by omega) (by omega)]
      exact h
  · exact h
theorem MC.write {v : Nat} (h : MC K M) : MC (K + 1) (fWrite v M) := by
  obtain ⟨a, b, c, d⟩ := h
  have hf : ∀ j, j < 40 → j ≠ 6 → fWrite v M j = M j := fun j h1 h2 => by unfold fWrite; rw [if_neg (by omega), if_neg (by omega), if_neg h2]
  have f6 : fWrite v M 6 = M 6 + 1 := by unfold fWrite; rw [if_neg (by omega), if_neg (by omega), if_pos rfl]
  unfold MC
  rw [hf 2 (by omega) (by omega), hf 4 (by omega) (by omega), hf 5 (by omega) (by omega), f6]
  omega
theorem fSnd1_ok {nw pl one : Nat} {wt mi : Nat → Nat} {other : Option Nat} (hB : BB nw pl wt mi) (hO : OK2 nw one other) (hM : MB 120 M) (h : MC K M) : MB 120 (fSnd1 pl wt mi one other M).2 ∧ MC (K + 8) (fSnd1 pl wt mi one other M).2 := by
  unfold fSnd1
  split
  · exact ⟨MB.cross hB hM hO, MC.cross hB hO h⟩
  · exact ⟨hM, h.mo (by omega)⟩
theorem fSend_ok {nw pl c1 : Nat} {wt mi : Nat → Nat} {c2 : Option Nat} (hB : BB nw pl wt mi) (h1 : c1 < 8 → c1 < nw) (h2 : ∀ c, c2 = some c → c < 8 → c < nw) (hM : MB 120 M) (h : MC K M) : MB 120 (fSend nw pl wt mi c1 c2 M).2 ∧ MC (K + 8) (fSend nw pl wt mi c1 c2 M).2 := by
  unfold fSend
  cases hw : fWho nw wt mi M c1 none with
  | none => exact ⟨hM, h.mo (by omega)⟩
  | some one =>
    have ho := fWho_lt h1 hw
    cases c2 with
    | none => exact fSnd1_ok hB ⟨ho, fun o e => by cases e⟩ hM h
    | some c =>
      show MB 120 (match fWho nw wt mi M c (some one) with | none => (false, M) | some o => if o = one then (false, M) else fSnd1 pl wt mi one (some o) M).2 ∧ MC (K + 8) (match fWho nw wt mi M c (some one) with | none => (false, M) | some o => if o = one then (false, M) else fSnd1 pl wt mi one (some o) M).2
      cases hv : fWho nw wt mi M c (some one) with
      | none => exact ⟨hM, h.mo (by omega)⟩
      | some o =>
        have ho2 := fWho_lt (h2 c rfl) hv
        show MB 120 (if o = one then (false, M) else fSnd1 pl wt mi one (some o) M).2 ∧ MC (K + 8) (if o = one then (false, M) else fSnd1 pl wt mi one (some o) M).2
        split
        · exact ⟨hM, h.mo (by omega)⟩
        · next q => exact fSnd1_ok hB ⟨ho, fun o' e => by cases e; exact ⟨ho2, q⟩⟩ hM h
theorem fEff_ok {a : Nat} (hB : BB (A 0 0) (A 0 1) (A 1) (A 2)) (hk : kOK A a) (hM : MB 120 M) (h : MC K M) : MB 120 (fEff A a M).2 ∧ MC (K + 8) (fEff A a M).2 := by
  have hp := hB.2.1
  have h8 := hB.1
  unfold fEff
  split
  · next q =>
    have hh : hOK A (A 5 a + 1) ∧ (A 10 (A 5 a + 2) = 17 → hOK A (A 5 a + 3)) := by
      rcases hk with ⟨_, h1, h2⟩ | ⟨h1 | h1 | h1, _⟩ | ⟨h1, _⟩ | ⟨h1 | h1, _⟩
      · exact ⟨h1, h2⟩
      all_goals omega
    refine fSend_ok hB (fWc_lt h8 hh.1).2 (fun c e => ?_) hM h
    unfold fWith at e
    split at e
    · next q2 => cases e; exact (fWc_lt h8 (hh.2 q2)).2
    · cases e
  split
  · exact ⟨MB.go hp hM (by split <;> omega), (MC.go hp h).mo (by omega)⟩
  split
  · exact ⟨hM.write, h.write.mo (by omega)⟩
  split
  · exact ⟨hM.mend hp, (h.mend hp).mo (by omega)⟩
  · exact ⟨hM, h.mo (by omega)⟩
/-- where a run can stand -/
def LI (A : Bk) (x dp : Nat) (op : Nat → Nat) : Prop := (x = 0 ∨ (x - 1 < A 0 3 ∧ A 13 (x - 1) + dp ≤ 5)) ∧ ∀ d, d < dp → op d < A 0 3 ∧ A 13 (op d) + d ≤ 5
theorem LI.sp {a x dp : Nat} {op : Nat → Nat} (ha : A 13 a + dp ≤ 5) (h : sP A a x) (ho : ∀ d, d < dp → op d < A 0 3 ∧ A 13 (op d) + d ≤ 5) : LI A x dp op := by
  refine ⟨?_, ho⟩
  rcases h with e | ⟨e1, e2⟩
  · exact Or.inl e
  · exact Or.inr ⟨e1, by omega⟩
theorem LI.next {x dp : Nat} {op : Nat → Nat} (hO : bOK A) (h : LI A x dp op) (hx : x ≠ 0) : LI A (fNext A (x - 1) M) (fDp A (x - 1) dp) (fOp A (x - 1) dp op) := by
  obtain ⟨h1, ho⟩ := h
  obtain ⟨ha, hp⟩ : x - 1 < A 0 3 ∧ A 13 (x - 1) + dp ≤ 5 := by rcases h1 with e | e; exact absurd e hx; exact e
  have hA := hO.2.2.2.2.2.2 _ ha
  obtain ⟨ht3, h13, h12, s6, s7, s8, s9, -, hk⟩ := hA
  have hbeh := fBeh_sP hO 4 ha
  have self : sP A (x - 1) (x - 1 + 1) := Or.inr ⟨by omega, rfl⟩
  unfold fNext fDp fOp
  split
  · next q =>
    have hd : 1 ≤ A 11 (A 5 (x - 1) + 1) ∧ A 11 (A 5 (x - 1) + 1) ≤ A 13 (x - 1) := by
      rcases hk with ⟨h1, _⟩ | ⟨h1 | h1 | h1, _⟩ | ⟨_, h1⟩ | ⟨h1 | h1, _⟩
      case inr.inr.inl => exact h1
      all_goals omega
    have hpl := hO.2.2.2.2.2.1 (A 11 (A 5 (x - 1) + 1) - 1) (by omega)
    refine ⟨?_, fun d hd2 => ?_⟩
    · rcases hpl with e | ⟨e1, e2⟩
      · exact Or.inl e
      · exact Or.inr ⟨e1, by omega⟩
    · rw [up_a]
      by_cases e : d = dp
      · rw [if_pos e, e]; exact ⟨ha, hp⟩
      · rw [if_neg e]; exact ho d (by omega)
  split
  · refine LI.sp hp ?_ ho
    split
    · split
      · exact self
      · exact s8
    · exact hbeh
  split
  · refine LI.sp hp ?_ ho
    generalize fHold A M 101 (A 5 (x - 1) + 1) = hb
    cases hb
    · show sP A (x - 1) (if A 9 (x - 1) = 0 then fBeh A 4 (x - 1) else A 9 (x - 1))
      split
      · exact hbeh
      · exact s9
    · show sP A (x - 1) (if A 8 (x - 1) = 0 then fBeh A 4 (x - 1) else A 8 (x - 1))
      split
      · exact hbeh
      · exact s8
  · exact LI.sp hp hbeh ho
theorem LI.pop {dp : Nat} {op : Nat → Nat} {x : Nat} (hO : bOK A) (h : LI A x dp op) (hd : dp ≠ 0) : LI A (fBeh A 4 (op (dp - 1))) (dp - 1) op := by
  obtain ⟨h1, h2⟩ := h.2 (dp - 1) (by omega)
  exact LI.sp h2 (fBeh_sP hO 4 h1) (fun d hd2 => h.2 d (by omega))
theorem LI.first {p : Nat} (hO : bOK A) (hp : p < A 0 2) : LI A (A 4 p) 0 (fun _ => 0) := by
  have := hO.2.2.1
  refine ⟨?_, fun d hd => absurd hd (by omega)⟩
  rcases hO.2.2.2.2.2.1 p hp with e | ⟨e1, e2⟩
  · exact Or.inl e
  · exact Or.inr ⟨e1, by omega⟩
theorem fPerf_ok (hO : bOK A) (hB : BB (A 0 0) (A 0 1) (A 1) (A 2)) : ∀ (f x dp : Nat) (op : Nat → Nat) (done : Nat) (M : Nat → Nat), LI A x dp op → done ≤ 100 → MB 120 M → MC (K + 8 * done) M → MB 120 (fPerf A f x dp op done M).2 ∧ MC (K + 800) (fPerf A f x dp op done M).2 ∧ (fPerf A f x dp op done M).1 ≤ 100 := by
  intro f
  induction f with
  | zero => intro x dp op done M _ hd hM hC; exact ⟨hM, hC.mo (by omega), hd⟩
  | succ f ih =>
    intro x dp op done M hL hd hM hC
    unfold fPerf
    split
    · exact ⟨hM, hC.mo (by omega), hd⟩
    split
    · split
      · exact ⟨hM, hC.mo (by omega), hd⟩
      · next q => exact ih _ _ _ _ _ (hL.pop hO q) hd hM hC
    · next q100 qx =>
      have hk : kOK A (x - 1) := by
        rcases hL.1 with e | e
        · exact absurd e qx
        · exact (hO.2.2.2.2.2.2 _ e.1).2.2.2.2.2.2.2.2
      have hE := fEff_ok hB hk hM hC
      have hN := hL.next (M := M) hO qx
      split
      · unfold fDp fOp at hN
        split
        · next q => rw [if_pos q, if_pos q] at hN; exact ih _ _ _ _ _ hN (by omega) hE.1 (hE.2.mo (by omega))
        · next q => rw [if_neg q, if_neg q] at hN; exact ih _ _ _ _ _ hN (by omega) hE.1 (hE.2.mo (by omega))
      · exact ⟨hM, hC.mo (by omega), hd⟩
theorem fRunP_ok {p : Nat} (hO : bOK A) (hB : BB (A 0 0) (A 0 1) (A 1) (A 2)) (hp : p < A 0 2) (hM : MB 120 M) (hC : MC K M) : MB 120 (fRunP A p M).2 ∧ MC (K + 800) (fRunP A p M).2 ∧ (fRunP A p M).1 ≤ 100 := fPerf_ok hO hB 1000 _ _ _ _ _ (LI.first hO hp) (by omega) hM hC
theorem c_perf (kB : kd B = 1) (kb : kd br = 2) (hb5 : br + 5 < 16) (hB20 : 20 ≤ B) (hO : bOK A) (hB : BB (A 0 0) (A 0 1) (A 1) (A 2)) (hK : K + 800 < 2 ^ 29) {p1 p2 : Nat} {p3 : Int32} {s0 : St} (h0 : CK B A s0) (hC0 : CB br (A 0 0) (A 1) (A 2) s0) : ∀ (f step x dp : Nat) (op : Nat → Nat) (done : Nat) (M : Nat → Nat) (u : St), f + step = 1000 → LI A x dp op → done ≤ 100 → MB 120 M → MC (K + 8 * done) M → FI (PR br) s0 u → BR br (A 0 0) (A 0 1) u M → RU B br u dp op → gI u 16 4 = oN x → (∀ st', FI (PR br) s0 st' → BR br (A 0 0) (A 0 1) st' (fPerf A f x dp op done M).2 → Q (nI (fPerf A f x dp op done M).1) st') →
    lp (fun R s => wX5_perform_L33 16 p1 p2 p3 R s.1 s.2.1 s.2.2 Q) (f + 1) (nI done, nI step, u) := by
  have noPR : ∀ d, B ≤ d → d ≤ B + 15 → ¬ PR br d := fun d h1 h2 => by unfold PR PM; omega
  have P16 : PR br 16 := Or.inl rfl
  have h60 := hO.2.2.2.1
  intro f
  induction f with
  | zero =>
    intro step x dp op done M u hs hL hd hM hC hF hbu hr hat hq
    have e : step = 1000 := by omega
    subst e
    show wX5_perform_L33 16 p1 p2 p3 _ (nI done) (nI 1000) u Q
    unfold wX5_perform_L33
    exact ⟨fun _ => hq u hF hbu, fun q => absurd (nI_le (Nat.le_refl 1000) (by omega)) q⟩
  | succ f ih =>
    intro step x dp op done M u hs hL hd hM hC hF hbu hr hat hq
    have ih := ih (step + 1)
    show wX5_perform_L33 16 p1 p2 p3 (lp (fun R s => wX5_perform_L33 16 p1 p2 p3 R s.1 s.2.1 s.2.2 Q) (f + 1)) (nI done) (nI step) u Q
    generalize lp (fun R s => wX5_perform_L33 16 p1 p2 p3 R s.1 s.2.1 s.2.2 Q) (f + 1) = RR at ih ⊢
    unfold wX5_perform_L33 wX5_perform_L125
    have hu : CK B A u := h0.f (hF.g (P2 := PR br) (fun _ z => z)) noPR
    have hCu : CB br (A 0 0) (A 1) (A 2) u := hC0.fP hF (by unfold PR PM; omega)
    obtain ⟨r0, r1, r3, r17⟩ := hr
    have hx : x ≤ A 0 3 := by rcases hL.1 with e | e <;> omega
    unfold fPerf at hq
    refine ⟨fun q => absurd ((nI_leI (a := 1000) (by omega) (by omega)).mp q) (by omega), fun _ => ⟨fun q => ?_, fun q => ⟨by rw [r0]; exact kB, ?_⟩⟩⟩
    · rw [if_pos ((nI_leI (a := 100) (by omega) (by omega)).mp q)] at hq
      exact hq u hF hbu
    · rw [if_neg (fun z => q (nI_le z (by omega)))] at hq
      have hd100 : done < 100 := Nat.lt_of_not_le (fun z => q (nI_le z (by omega)))
      rintro _ rfl
      rw [r0, hat]
      refine c_hasAct h60 hu hx ⟨fun q2 => ?_, fun q2 => ?_⟩
      · have ex : x = 0 := Decidable.not_not.mp (of_decide_eq_false (bI0.mp q2))
        rw [if_pos ex] at hq
        have hdp : dp ≤ 6 := by
          by_cases q3 : dp = 0
          · omega
          · have := (hL.2 (dp - 1) (by omega)).2; omega
        rw [r3]
        refine ⟨fun q3 => ?_, fun q3 => ?_⟩
        · have := (nI_leI (b := 0) (by omega) (by omega)).mp q3
          rw [if_pos (by omega)] at hq
          exact hq u hF hbu
        · have hd0 : dp ≠ 0 := fun e => q3 (by rw [e]; decide)
          rw [if_neg hd0] at hq
          obtain ⟨ho, hop⟩ := hL.2 (dp - 1) (by omega)
          intro s1 e1
          have f13 : gI s1 16 3 = nI (dp - 1) := by rw [e1, gI_uI, if_pos ⟨rfl, rfl⟩]; exact pk_sub (b := 1) (by omega)
          have F1 : FI (PR br) u s1 := by rw [e1]; exact FI.u P16
          refine ⟨by rw [F1.gR, r0]; exact kB, ?_⟩
          intro c12 e12
          rw [e12, F1.gR, r0, f13, nI_clamp (by omega), show gI s1 (16 + 1) (dp - 1) = nI (op (dp - 1)) from by rw [e1, gI_uI, if_neg (by omega)]; exact r17 _ (by omega)]
          refine ⟨(vin_iff (by omega)).mpr (by omega), ?_⟩
          refine c_behind hO (hu.f (F1.g (P2 := PR br) (fun _ z => z)) noPR) ho ?_
          intro s2 e2
          rintro _ rfl
          rw [nI_1]
          have F2 : FI (PR br) u s2 := by rw [e2]; exact F1.tr (FI.u P16)
          refine ih (fBeh A 4 (op (dp - 1))) (dp - 1) op done M s2 (by omega) (hL.pop hO hd0) hd hM hC (hF.tr F2) ?_ ?_ (by rw [e2, gI_uI, if_pos ⟨rfl, rfl⟩]) hq
          · rw [e2, e1]
            exact (hbu.fi (P := fun d => d = 16) (FI.u rfl) (fun d h1 h2 => by show ¬ d = 16; omega)).fi (P := fun d => d = 16) (FI.u rfl) (fun d h1 h2 => by show ¬ d = 16; omega)
          · refine ⟨F2.gR.trans r0, F2.gR.trans r1, by rw [e2, gI_uI, if_neg (by omega)]; exact f13, fun d hd2 => ?_⟩
            rw [e2, gI_uI, if_neg (by omega), e1, gI_uI, if_neg (by omega)]; exact r17 d (by omega)
      · have hx0 : x ≠ 0 := fun e => q2 (by rw [decide_eq_false (fun z => z e)]; rfl)
        rw [if_neg hx0] at hq
        rw [hat, oN_pos hx0]
        obtain ⟨ha, hp5⟩ : x - 1 < A 0 3 ∧ A 13 (x - 1) + dp ≤ 5 := by rcases hL.1 with e | e; exact absurd e hx0; exact e
        have hk : kOK A (x - 1) := (hO.2.2.2.2.2.2 _ ha).2.2.2.2.2.2.2.2
        have hE := fEff_ok hB hk hM hC
        refine c_act kB kb hb5 hB20 hO hB hM (by have := hC.1; omega) (by have := hC.2.2.2; omega) hu hCu hbu ⟨r0, r1, r3, r17⟩ ha (fun _ => by omega) (fun s1 F1 hb1 hr1 hat1 => ⟨fun q3 => ?_, fun q3 => ?_⟩)
        · have q4 := (Bool.not_eq_false _).mp (fun e => q3 (bI0.mpr e))
          rw [if_pos q4] at hq
          rintro _ rfl _ rfl
          rw [nI_1, nI_1]
          have hN := hL.next (M := M) hO hx0
          refine ih _ _ _ (done + 1) _ s1 (by omega) hN (by omega) hE.1 (hE.2.mo (by omega)) (hF.tr F1) hb1 hr1 hat1 (fun st' hF' hb' => ?_)
          unfold fDp fOp at hb' ⊢
          split at hb'
          · next q5 =>
            rw [if_pos q5] at hq
            rw [if_pos q5, if_pos q5]
            exact hq st' hF' hb'
          · next q5 =>
            rw [if_neg q5] at hq
            rw [if_neg q5, if_neg q5]
            exact hq st' hF' hb'
        · have q4 := bI0.mp q3
          rw [if_neg (by rw [q4]; decide)] at hq
          have hsame : (fEff A (x - 1) M).2 = M := by
            revert q4
            unfold fEff
            split
            · intro q4
              revert q4
              unfold fSend
              cases hw : fWho (A 0 0) (A 1) (A 2) M (fWc A (A 5 (x - 1) + 1)) none with
              | none => exact fun _ => rfl
              | some one =>
                have s1 : ∀ other, (fSnd1 (A 0 1) (A 1) (A 2) one other M).1 = false → (fSnd1 (A 0 1) (A 1) (A 2) one other M).2 = M := by
                  intro other
                  unfold fSnd1
                  split
                  · intro z; cases z
                  · exact fun _ => rfl
                cases hv : fWith A (A 5 (x - 1) + 2) with
                | none => exact s1 none
                | some c =>
                  cases hv2 : fWho (A 0 0) (A 1) (A 2) M c (some one) with
                  | none => exact fun _ => by simp only [hv2]
                  | some o =>
                    intro z
                    simp only [hv2] at z ⊢
                    by_cases qo : o = one
                    · rw [if_pos qo]
                    · rw [if_neg qo] at z ⊢
                      exact s1 (some o) z
            split
            · intro z; cases z
            split
            · intro z; cases z
            split
            · unfold fMend
              split
              · cases fF0 M (A 0 1) with
                | none => exact fun _ => rfl
                | some k => intro z; cases z
              · exact fun _ => rfl
            · intro z; cases z
          rw [hsame] at hb1
          exact hq s1 (hF.tr F1) hb1
theorem gR_uR7 (st : St) (c j v : Nat) (d k : Nat) : gR (uR st c j v) d k = if d = c ∧ k = j then v else gR st d k := by
  simp only [gR, uR, sR, sw]
  by_cases h : d = c <;> by_cases h2 : k = j <;> simp [h, h2, va_up]
theorem c_perform {p : Nat} (kB : kd B = 1) (kb : kd br = 2) (hb5 : br + 5 < 16) (hB20 : 20 ≤ B) (hO : bOK A) (hB : BB (A 0 0) (A 0 1) (A 1) (A 2)) (hM : MB 120 M) (hMC : MC K M) (hK : K + 800 < 2 ^ 29) (h : CK B A st) (hC : CB br (A 0 0) (A 1) (A 2) st) (hb : BR br (A 0 0) (A 0 1) st M) (hp : p < A 0 2)
    (hq : ∀ st', FG (PR br) st st' → BR br (A 0 0) (A 0 1) st' (fRunP A p M).2 → (∀ c j, gR st' c j = if c = 16 ∧ j = 1 then br else if c = 16 ∧ j = 0 then B else gR st c j) → Q (nI (fRunP A p M).1) st') : wX5_perform 16 B br (nI p) st Q := by
  have noPR : ∀ d, B ≤ d → d ≤ B + 15 → ¬ PR br d := fun d h1 h2 => by unfold PR PM; omega
  have P16 : PR br 16 := Or.inl rfl
  have h6 := hO.2.2.1
  unfold wX5_perform
  intro s1 e1 s2 e2 s3 e3
  have G3 : FG (PR br) st s3 := by rw [e3, e2, e1]; exact (FG.uR.tr FG.uR).tr ((FI.u (P := PR br) P16).g (fun _ z => z))
  have R0 : gR s3 16 0 = B := by rw [e3]; show gR s2 16 0 = B; rw [e2, gR_uRn (by omega), e1, gR_uRs]
  have R1 : gR s3 16 1 = br := by rw [e3]; show gR s2 16 1 = br; rw [e2, gR_uRs]
  have hs3 : CK B A s3 := h.f G3 noPR
  refine ⟨by rw [R0]; exact kB, ?_⟩
  intro c4 e4
  rw [e4, R0]
  unfold wX1_firstActOf
  rw [hs3.1]
  refine ⟨fun q => absurd q (nI_pos (by omega)), fun _ => ⟨fun q => absurd ((nI_leI (by omega) (by omega)).mp q) (by omega), fun _ => ⟨(vin_iff (by omega)).mpr (by omega), ?_⟩⟩⟩
  rw [nI_clamp (by omega), hs3.2.2.1 _ hp]
  intro s7 e7
  have F7 : FI (PR br) s3 s7 := by rw [e7]; exact FI.u P16
  have hbs : BR br (A 0 0) (A 0 1) s7 M := by
    have h0 : BR br (A 0 0) (A 0 1) s2 M := by rw [e2, e1]; exact hb
    have h3 : BR br (A 0 0) (A 0 1) s3 M := by rw [e3]; exact h0.fi (P := fun d => d = 16) (FI.u rfl) (fun d h1 h2 => by show ¬ d = 16; omega)
    rw [e7]
    exact h3.fi (P := fun d => d = 16) (FI.u rfl) (fun d h1 h2 => by show ¬ d = 16; omega)
  have hCs : CB br (A 0 0) (A 1) (A 2) s7 := ⟨fun k hk => (F7.gI (by unfold PR PM; omega)).trans ((G3.gI (by unfold PR PM; omega)).trans (hC.1 k hk)), fun k hk => (F7.gI (by unfold PR PM; omega)).trans ((G3.gI (by unfold PR PM; omega)).trans (hC.2 k hk))⟩
  refine ⟨1001, c_perf (K := K) (s0 := s7) kB kb hb5 hB20 hO hB hK (hs3.f (F7.g (P2 := PR br) (fun _ z => z)) noPR) hCs 1000 0 (A 4 p) 0 (fun _ => 0) 0 M s7 (by omega) (LI.first hO hp) (by omega) hM (hMC.mo (by omega)) FI.rf hbs ⟨F7.gR.trans R0, F7.gR.trans R1, ?_, fun d hd => absurd hd (by omega)⟩ (by rw [e7, gI_uI, if_pos ⟨rfl, rfl⟩]) (fun st' hF' hb' => hq st' (G3.tr ((F7.tr hF').g (fun _ z => z))) hb' (fun c j => ?_))⟩
  rotate_left
  · have a : gR st' c j = gR s2 c j := (hF'.gR.trans F7.gR).trans (by rw [e3]; rfl)
    rw [a, e2, gR_uR7, e1, gR_uR7]
  rw [e7, gI_uI, if_neg (by omega), e3, gI_uI, if_pos ⟨rfl, rfl⟩]; rfl
end PF1

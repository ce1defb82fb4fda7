/-! the class's run of a plan -/
section CR2
variable {B br t : Nat} {A : Bk} {M M' : Nat → Nat} {st st' : St} {Q : Int32 → St → Prop} {Qv : St → Prop} {Qk : Option Nat → St → Prop}
theorem fV_lt {u : Nat} (hB : BB (A 0 0) (A 0 1) (A 1) (A 2)) (hM : MB 120 M) (hn : M 2 < 2 ^ 30) (hv : vOK A u) : fV A M u < 2 ^ 30 := by
  unfold fV fVc
  have h8 := hB.1
  have hp := hB.2.1
  rcases hv with ⟨h1, h2, h3⟩ | ⟨h1, h2⟩
  · rw [if_pos h1, fVal_num (by omega)]; omega
  · rw [if_neg (by omega)]
    have f1 := fNear_le (M := M) (k := A 0 0)
    have f2 := fMiss_le (M := M) (k := A 0 1)
    have f3 := hM.oi
    have f4 := hM.mi
    unfold fVal
    rw [if_neg (by omega)]
    (repeat' split) <;> first | omega | skip
    next w hw =>
      have := fWst_lt _ hw
      have := hM.st (k := w) (by omega)
      omega
/-- where the run's own cell stands -/
def RU (B br : Nat) (st : St) (dp : Nat) (op : Nat → Nat) : Prop := gR st 16 0 = B ∧ gR st 16 1 = br ∧ gI st 16 3 = nI dp ∧ ∀ d, d < dp → gI st 17 d = nI (op d)
theorem c_value {u : Nat} (kB : kd B = 1) (kb : kd br = 2) (hO : A 0 4 ≤ 401) (hB : BB (A 0 0) (A 0 1) (A 1) (A 2)) (hM : MB t M) (h : CK B A st) (hb : BR br (A 0 0) (A 0 1) st M) (r0 : gR st 16 0 = B) (r1 : gR st 16 1 = br) (hu : u < A 0 4) (hv : vOK A u) (hq : Q (nI (fV A M u)) st) : wX5_valueAt 16 (nI u) st Q := by
  unfold wX5_valueAt
  refine ⟨by rw [r0]; exact kB, ?_⟩
  rintro _ rfl
  rw [r0]
  unfold fV fVc at hq
  refine c_kind hO h hu ⟨fun q => ⟨by rw [r1]; exact kb, ?_⟩, fun q => ⟨by rw [r0]; exact kB, ?_⟩⟩
  · rintro _ rfl
    rw [r1]
    rcases hv with ⟨h1, h2, h3⟩ | ⟨h1, h2⟩
    · exact absurd (by rw [h1]) q
    · rw [if_neg (by omega)] at hq
      exact c_measure hB hM hb h1 h2 hq
  · rintro _ rfl
    rw [r0]
    have q2 : A 10 u = 3 := Option.some.inj q
    rw [if_pos q2] at hq
    refine c_num hO h hu ?_
    rcases hv with ⟨h1, h2, h3⟩ | ⟨h1, h2⟩
    · have h0 := hB.1
      rw [fVal_num (by omega)] at hq
      rw [oN_pos (by omega)]
      exact hq
    · omega
theorem fWc_lt {u : Nat} (h8 : A 0 0 ≤ 8) (hh : hOK A u) : fWc A u < 12 ∧ (fWc A u < 8 → fWc A u < A 0 0) := by
  unfold fWc
  rcases hh with ⟨h1, h2, h3⟩ | ⟨h1, h2⟩
  · rw [if_pos h1]; omega
  · rw [if_neg (by omega)]; omega
theorem c_who {u : Nat} {but : Option Nat} (kB : kd B = 1) (kb : kd br = 2) (hO : A 0 4 ≤ 401) (hB : BB (A 0 0) (A 0 1) (A 1) (A 2)) (hM : MB t M) (h : CK B A st) (hC : CB br (A 0 0) (A 1) (A 2) st) (hb : BR br (A 0 0) (A 0 1) st M) (r0 : gR st 16 0 = B) (r1 : gR st 16 1 = br) (hu : u < A 0 4) (hh : hOK A u) (hbt : ∀ o, but = some o → o < A 0 0) (hq : Q (oI (fWho (A 0 0) (A 1) (A 2) M (fWc A u) but)) st) : wX5_whoAt 16 (nI u) (oI but) st Q := by
  unfold wX5_whoAt
  refine ⟨by rw [r0]; exact kB, ?_⟩
  rintro _ rfl
  rw [r0]
  have h8 := hB.1
  unfold fWc at hq
  refine c_kind hO h hu ⟨fun q => ⟨by rw [r1]; exact kb, ?_⟩, fun q => ⟨by rw [r0]; exact kB, ?_⟩⟩
  · rintro _ rfl
    rw [r1]
    rcases hh with ⟨h1, h2, h3⟩ | ⟨h1, h2⟩
    · exact absurd (by rw [h1]) q
    · rw [if_neg (by omega)] at hq
      unfold fWho at hq
      rw [if_neg (by omega)] at hq
      have e : A 10 u = 26 + (A 10 u - 18 - 8) := by omega
      rw [e]
      exact c_choose hB hM hC hb (by omega) hbt hq
  · rintro _ rfl
    rw [r0]
    have q2 : A 10 u = 2 := Option.some.inj q
    rw [if_pos q2] at hq
    refine c_num hO h hu ?_
    rcases hh with ⟨h1, h2, h3⟩ | ⟨h1, h2⟩
    · unfold fWho at hq
      rw [if_pos (by omega)] at hq
      rw [oN_pos (by omega)]
      exact hq
    · omega
theorem nI_addn (a b : Nat) : nI a + nI b = nI (a + b) := nI_add a b
theorem c_snd1 {one : Nat} {other : Option Nat} {p : Int32} (kb : kd br = 2) (hB : BB (A 0 0) (A 0 1) (A 1) (A 2)) (hM : MB 120 M) (hC : CB br (A 0 0) (A 1) (A 2) st) (hb : BR br (A 0 0) (A 0 1) st M) (r1 : gR st 16 1 = br) (hO : OK2 (A 0 0) one other) (hq : ∀ st', FI (PM br) st st' → BR br (A 0 0) (A 0 1) st' (fSnd1 (A 0 1) (A 1) (A 2) one other M).2 → Q (bI (fSnd1 (A 0 1) (A 1) (A 2) one other M).1) st') : wX5_send_L51 16 p (nI one) (oI other) st Q := by
  unfold wX5_send_L51
  have h8 := hB.1
  have h1 := hO.1
  refine ⟨fun q => ((ne_m1 (by omega)).mp q).elim, fun _ => ⟨by rw [r1]; exact kb, ?_⟩⟩
  rintro _ rfl
  rw [r1]
  unfold fSnd1 at hq
  refine c_canGo hB hM hC hb hO ⟨fun q => ⟨by rw [r1]; exact kb, ?_⟩, fun q => ?_⟩
  · rintro _ rfl
    rw [r1]
    have q := (Bool.not_eq_false _).mp (fun e => q (bI0.mpr e))
    rw [if_pos q] at hq
    exact c_go hB hM hC hb hO q hq
  · rw [if_neg (by rw [bI0.mp q]; decide)] at hq
    exact hq st FI.rf hb
theorem c_send {u : Nat} (kB : kd B = 1) (kb : kd br = 2) (hO : A 0 4 ≤ 401) (hB : BB (A 0 0) (A 0 1) (A 1) (A 2)) (hM : MB 120 M) (h : CK B A st) (hC : CB br (A 0 0) (A 1) (A 2) st) (hb : BR br (A 0 0) (A 0 1) st M) (r0 : gR st 16 0 = B) (r1 : gR st 16 1 = br) (hu : u + 3 < A 0 4) (hh : hOK A (u + 1)) (hh2 : A 10 (u + 2) = 17 → hOK A (u + 3))
    (hq : ∀ st', FI (PM br) st st' → BR br (A 0 0) (A 0 1) st' (fSend (A 0 0) (A 0 1) (A 1) (A 2) (fWc A (u + 1)) (fWith A (u + 2)) M).2 → Q (bI (fSend (A 0 0) (A 0 1) (A 1) (A 2) (fWc A (u + 1)) (fWith A (u + 2)) M).1) st') : wX5_send 16 (nI u) st Q := by
  unfold wX5_send
  have h8 := hB.1
  have hw1 := fWc_lt h8 hh
  rw [show nI u + 1 = nI (u + 1) from nI_add u 1, show nI u + 2 = nI (u + 2) from nI_add u 2, show nI u + 3 = nI (u + 3) from nI_add u 3]
  refine c_who (but := none) kB kb hO hB hM h hC hb r0 r1 (by omega) hh (fun o e => by cases e) ?_
  refine ⟨by rw [r0]; exact kB, ?_⟩
  rintro _ rfl
  rw [r0]
  unfold fSend fWith at hq
  have hno : fWho (A 0 0) (A 1) (A 2) M (fWc A (u + 1)) none = none → Q 0 st := fun e => by
    simp only [e] at hq
    exact hq st FI.rf hb
  refine c_kind hO h (by omega) ⟨fun q => ?_, fun q => ?_⟩
  · have q2 : ¬ A 10 (u + 2) = 17 := fun e => q (by rw [e])
    rw [if_neg q2] at hq
    cases hw : fWho (A 0 0) (A 1) (A 2) M (fWc A (u + 1)) none with
    | none =>
      unfold wX5_send_L51
      exact ⟨fun _ => hno hw, fun q3 => absurd rfl q3⟩
    | some one =>
      simp only [hw] at hq
      exact c_snd1 (other := none) kb hB hM hC hb r1 ⟨fWho_lt hw1.2 hw, fun o e => by cases e⟩ hq
  · have q2 : A 10 (u + 2) = 17 := Option.some.inj q
    rw [if_pos q2] at hq
    have hw2 := fWc_lt h8 (hh2 q2)
    refine c_who kB kb hO hB hM h hC hb r0 r1 (by omega) (hh2 q2) (fun o e => fWho_lt hw1.2 e) ?_
    cases hw : fWho (A 0 0) (A 1) (A 2) M (fWc A (u + 1)) none with
    | none =>
      refine ⟨fun _ => hno hw, fun _ => ⟨fun _ => ?_, fun _ => hno hw⟩⟩
      unfold wX5_send_L51
      exact ⟨fun _ => hno hw, fun q3 => absurd rfl q3⟩
    | some one =>
      have ho1 := fWho_lt hw1.2 hw
      simp only [hw] at hq
      cases hv : fWho (A 0 0) (A 1) (A 2) M (fWc A (u + 3)) (some one) with
      | none =>
        simp only [hv] at hq
        exact ⟨fun _ => hq st FI.rf hb, fun q3 => absurd rfl q3⟩
      | some o =>
        have ho2 := fWho_lt hw2.2 hv
        simp only [hv] at hq
        refine ⟨fun q3 => ((ne_m1 (by omega)).mp q3).elim, fun _ => ?_⟩
        rw [oI_some, oI_some, nI_eq (by omega) (by omega)]
        refine ⟨fun q3 => ?_, fun q3 => ?_⟩
        · rw [if_neg q3] at hq
          exact c_snd1 (other := some o) kb hB hM hC hb r1 ⟨ho1, fun o' e => by cases e; exact ⟨ho2, q3⟩⟩ hq
        · rw [if_pos q3] at hq
          exact hq st FI.rf hb
theorem c_holds (kB : kd B = 1) (kb : kd br = 2) (hO : A 0 4 ≤ 401) (hB : BB (A 0 0) (A 0 1) (A 1) (A 2)) (hM : MB 120 M) (hn : M 2 < 2 ^ 30) (h : CK B A st) (hb : BR br (A 0 0) (A 0 1) st M) (r0 : gR st 16 0 = B) (r1 : gR st 16 1 = br) {p : Int32} : ∀ (nc f u : Nat), cOK A nc u → nc < f → Q (bI (fHold A M f u)) st → lp (fun R s => wX5_holds_L2 16 p R s.1 s.2 Q) (nc + 1) (nI u, st) := by
  intro nc
  induction nc with
  | zero =>
    intro f u hc hf hq
    obtain ⟨v1, k1, k2, v2, hu, k3⟩ := hc
    show wX5_holds_L2 16 p (lp (fun R s => wX5_holds_L2 16 p R s.1 s.2 Q) 0) (nI u) st Q
    generalize lp (fun R s => wX5_holds_L2 16 p R s.1 s.2 Q) 0 = RR
    have b1 := fV_lt hB hM hn v1
    have b2 := fV_lt hB hM hn v2
    obtain ⟨f, rfl⟩ : ∃ g, f = g + 1 := ⟨f - 1, by omega⟩
    unfold fHold at hq
    rw [if_neg k3] at hq
    have tail : ∀ bb : Bool, bb = fCmp (A 10 (u + 1)) (fV A M u) (fV A M (u + 2)) → wX5_holds_L94 16 p RR (nI u) (bI bb) st Q := by
      intro bb hbb
      rw [← hbb] at hq
      unfold wX5_holds_L94
      refine ⟨fun q => ⟨by rw [r0]; exact kB, ?_⟩, fun q => ?_⟩
      · rintro _ rfl
        rw [r0, show nI u + 3 = nI (u + 3) from nI_add u 3]
        rw [(Bool.not_eq_false _).mp (fun e => q (bI0.mpr e))] at hq
        exact c_kind hO h hu ⟨fun q2 => absurd (Option.some.inj q2) k3, fun _ => hq⟩
      · rw [bI0.mp q] at hq
        exact hq
    unfold wX5_holds_L2
    refine ⟨fun q => absurd ((nI_leI (a := 400) (by omega) (by omega)).mp q) (by omega), fun _ => ?_⟩
    refine c_value kB kb hO hB hM h hb r0 r1 (by omega) v1 ?_
    rw [show nI u + 2 = nI (u + 2) from nI_add u 2]
    refine c_value kB kb hO hB hM h hb r0 r1 (by omega) v2 ⟨by rw [r0]; exact kB, ?_⟩
    rintro _ rfl
    rw [r0, show nI u + 1 = nI (u + 1) from nI_add u 1]
    refine c_kind hO h (by omega) ?_
    rw [nI_eq (by omega) (by omega), nI_leI (by omega) (by omega), nI_leI (by omega) (by omega)]
    unfold fCmp at tail
    refine ⟨fun q => ⟨fun q2 => ⟨fun q3 => tail false ?_, fun q3 => tail true ?_⟩, fun q2 => ⟨fun q3 => tail false ?_, fun q3 => tail true ?_⟩⟩, fun q => ⟨fun q3 => tail false ?_, fun q3 => tail true ?_⟩⟩
    · rw [if_neg (fun e => q (by rw [e])), if_neg (fun e => q2 (by rw [e])), decide_eq_false q3]
    · rw [if_neg (fun e => q (by rw [e])), if_neg (fun e => q2 (by rw [e])), decide_eq_true q3]
    · rw [if_neg (fun e => q (by rw [e])), if_pos (Option.some.inj q2), decide_eq_false (by omega)]
    · rw [if_neg (fun e => q (by rw [e])), if_pos (Option.some.inj q2), decide_eq_true (by omega)]
    · rw [if_pos (Option.some.inj q), decide_eq_false (by omega)]
    · rw [if_pos (Option.some.inj q), decide_eq_true (by omega)]
  | succ nc ih =>
    intro f u hc hf hq
    obtain ⟨v1, k1, k2, v2, hu, k3, hc2⟩ := hc
    obtain ⟨f, rfl⟩ : ∃ g, f = g + 1 := ⟨f - 1, by omega⟩
    have ih := ih f (u + 4) hc2 (by omega)
    show wX5_holds_L2 16 p (lp (fun R s => wX5_holds_L2 16 p R s.1 s.2 Q) (nc + 1)) (nI u) st Q
    generalize lp (fun R s => wX5_holds_L2 16 p R s.1 s.2 Q) (nc + 1) = RR at ih ⊢
    have b1 := fV_lt hB hM hn v1
    have b2 := fV_lt hB hM hn v2
    unfold fHold at hq
    rw [if_pos k3] at hq
    have tail : ∀ bb : Bool, bb = fCmp (A 10 (u + 1)) (fV A M u) (fV A M (u + 2)) → wX5_holds_L94 16 p RR (nI u) (bI bb) st Q := by
      intro bb hbb
      rw [← hbb] at hq
      unfold wX5_holds_L94
      refine ⟨fun q => ⟨by rw [r0]; exact kB, ?_⟩, fun q => ?_⟩
      · rintro _ rfl
        rw [r0, show nI u + 3 = nI (u + 3) from nI_add u 3]
        rw [(Bool.not_eq_false _).mp (fun e => q (bI0.mpr e)), Bool.true_and] at hq
        refine c_kind hO h hu ⟨fun q2 => ?_, fun q2 => absurd (by rw [k3]) q2⟩
        rintro _ rfl
        rw [show nI u + 4 = nI (u + 4) from nI_add u 4]
        exact ih hq
      · rw [bI0.mp q, Bool.false_and] at hq
        exact hq
    unfold wX5_holds_L2
    refine ⟨fun q => absurd ((nI_leI (a := 400) (by omega) (by omega)).mp q) (by omega), fun _ => ?_⟩
    refine c_value kB kb hO hB hM h hb r0 r1 (by omega) v1 ?_
    rw [show nI u + 2 = nI (u + 2) from nI_add u 2]
    refine c_value kB kb hO hB hM h hb r0 r1 (by omega) v2 ⟨by rw [r0]; exact kB, ?_⟩
    rintro _ rfl
    rw [r0, show nI u + 1 = nI (u + 1) from nI_add u 1]
    refine c_kind hO h (by omega) ?_
    rw [nI_eq (by omega) (by omega), nI_leI (by omega) (by omega), nI_leI (by omega) (by omega)]
    unfold fCmp at tail
    refine ⟨fun q => ⟨fun q2 => ⟨fun q3 => tail false ?_, fun q3 => tail true ?_⟩, fun q2 => ⟨fun q3 => tail false ?_, fun q3 => tail true ?_⟩⟩, fun q => ⟨fun q3 => tail false ?_, fun q3 => tail true ?_⟩⟩
    · rw [if_neg (fun e => q (by rw [e])), if_neg (fun e => q2 (by rw [e])), decide_eq_false q3]
    · rw [if_neg (fun e => q (by rw [e])), if_neg (fun e => q2 (by rw [e])), decide_eq_true q3]
    · rw [if_neg (fun e => q (by rw [e])), if_pos (Option.some.inj q2), decide_eq_false (by omega)]
    · rw [if_neg (fun e => q (by rw [e])), if_pos (Option.some.inj q2), decide_eq_true (by omega)]
    · rw [if_pos (Option.some.inj q), decide_eq_false (by omega)]
    · rw [if_pos (Option.some.inj q), decide_eq_true (by omega)]
theorem cOK_len : ∀ {nc u : Nat}, cOK A nc u → u + 4 * nc + 3 < A 0 4 := by
  intro nc
  induction nc with
  | zero => intro u h; exact h.2.2.2.2.1
  | succ nc ih => intro u h; have := ih h.2.2.2.2.2.2; omega
theorem fGo0 {pl : Nat} (hM : MB 120 M) : (fGo pl 0 M).2 = M := by
  have h3 := hM.mi
  unfold fGo fBy
  rw [if_pos (by rw [up_a, if_pos rfl]; exact h3)]
  funext j
  show up M 3 (M 3 + 0) j = M j
  rw [up_a]
  split
  · next e => rw [e]; rfl
  · rfl
theorem c_rest {v : Nat} (kb : kd br = 2) (hB : BB (A 0 0) (A 0 1) (A 1) (A 2)) (hM : MB 120 M) (hb : BR br (A 0 0) (A 0 1) st M) (r1 : gR st 16 1 = br) (hv : v < 2 ^ 30) (hq : ∀ st', FI (PM br) st st' → BR br (A 0 0) (A 0 1) st' (fGo (A 0 1) (if v < 120 then v else 120) M).2 → Qv st') : wX5_restFor 16 (nI v) st Qv := by
  unfold wX5_restFor wX5_restFor_L20
  refine ⟨fun q => ?_, fun q => ⟨by rw [r1]; exact kb, ?_⟩⟩
  · have e : v = 0 := by
      have := (nI_leI (b := 0) (by omega) (by omega)).mp q
      omega
    subst e
    rw [if_pos (by omega), fGo0 hM] at hq
    exact hq st FI.rf hb
  · rintro _ rfl
    rw [r1]
    refine ⟨fun q2 => ?_, fun q2 => ?_⟩
    · have := (nI_leI (a := 120) (by omega) (by omega)).mp q2
      rw [if_neg (by omega)] at hq
      exact c_letGo (min := 120) hB hM (by omega) hb hq
    · have : v < 120 := Nat.lt_of_not_le (fun e => q2 (nI_le e (by omega)))
      rw [if_pos this] at hq
      exact c_letGo hB hM (by omega) hb hq
theorem RU.f {dp : Nat} {op : Nat → Nat} (h : RU B br st dp op) (kb : br + 5 < 16) (hF : FI (PM br) st st') : RU B br st' dp op := by
  have n16 : ¬ PM br 16 := by unfold PM; omega
  have n17 : ¬ PM br 17 := by unfold PM; omega
  exact ⟨hF.gR.trans h.1, hF.gR.trans h.2.1, (hF.gI n16).trans h.2.2.1, fun d hd => (hF.gI n17).trans (h.2.2.2 d hd)⟩
theorem sw_act : ∀ k, k < 37 → (k = 16 → kSw k = 1) ∧ (k = 18 → kSw k = 2) ∧ (k = 19 → kSw k = 3) ∧ (k = 20 → kSw k = 4) ∧ (k = 21 → kSw k = 5) ∧ (k = 22 → kSw k = 6) ∧ (k = 23 → kSw k = 7) := by decide +kernel
/-- what an act makes of the open plans -/
def fDp (A : Bk) (a dp : Nat) : Nat := if A 10 (A 5 a) = 21 then dp + 1 else dp
def fOp (A : Bk) (a dp : Nat) (op : Nat → Nat) : Nat → Nat := if A 10 (A 5 a) = 21 then up op dp a else op
theorem c_act {a dp : Nat} {op : Nat → Nat} (kB : kd B = 1) (kb : kd br = 2) (hb5 : br + 5 < 16) (hB20 : 20 ≤ B) (hO : bOK A) (hB : BB (A 0 0) (A 0 1) (A 1) (A 2)) (hM : MB 120 M) (hn : M 2 < 2 ^ 29) (hn6 : M 6 < 2 ^ 29) (h : CK B A st) (hC : CB br (A 0 0) (A 1) (A 2) st) (hb : BR br (A 0 0) (A 0 1) st M) (hr : RU B br st dp op) (ha : a < A 0 3) (hdp : A 10 (A 5 a) = 21 → dp < 6)
    (hq : ∀ st', FI (PR br) st st' → BR br (A 0 0) (A 0 1) st' (fEff A a M).2 → RU B br st' (fDp A a dp) (fOp A a dp op) → gI st' 16 4 = oN (fNext A a M) → Q (bI (fEff A a M).1) st') : wX5_act 16 (nI a) st Q := by
  have h60 := hO.2.2.2.1
  have h401 := hO.2.2.2.2.1
  have hA := hO.2.2.2.2.2.2 a ha
  obtain ⟨ht3, h13, h12, s6, s7, s8, s9, -, hk⟩ := hA
  obtain ⟨g5, g6, g7, g8, g9⟩ := h.2.2.2.1 a ha
  obtain ⟨r0, r1, r3, r17⟩ := hr
  have P16 : PR br 16 := Or.inl rfl
  have P17 : PR br 17 := Or.inr (Or.inl rfl)
  have pmr : ∀ d, PM br d → PR br d := fun d hd => Or.inr (Or.inr hd)
  have noPR : ∀ d, B ≤ d → d ≤ B + 15 → ¬ PR br d := fun d h1 h2 => by unfold PR PM; omega
  unfold wX5_act
  refine ⟨by rw [r0]; exact kB, ?_⟩
  rintro _ rfl
  rw [r0, nI_clamp (by omega), g5]
  have hin : vp_in (nI a) 60 := (vin_iff (by omega)).mpr (by omega)
  refine ⟨hin, ?_⟩
  rintro _ rfl
  refine ⟨kB, ?_⟩
  intro c3 e3
  rw [e3]
  refine c_behind hO h ha ?_
  intro s6' e6'
  have F6 : FI (PR br) st s6' := by rw [e6']; exact FI.u P16
  have hC6 : CB br (A 0 0) (A 1) (A 2) s6' := hC.fP F6 (by unfold PR PM; omega)
  have n16b : ∀ d, br ≤ d → d ≤ br + 5 → d ≠ 16 := fun d _ _ => by omega
  have hb6 : BR br (A 0 0) (A 0 1) s6' M := by
    rw [e6']
    exact hb.fi (P := fun d => d = 16) (FI.u rfl) (fun d h1 h2 => by show ¬ d = 16; omega)
  have h6 : CK B A s6' := h.f (F6.g (P2 := PR br) (fun _ z => z)) noPR
  have at6 : gI s6' 16 4 = oN (fBeh A 4 a) := by rw [e6', gI_uI, if_pos ⟨rfl, rfl⟩]
  have u0 : gR s6' 16 0 = B := F6.gR.trans r0
  have u1 : gR s6' 16 1 = br := F6.gR.trans r1
  have hr6 : RU B br s6' dp op := ⟨u0, u1, by rw [e6', gI_uI, if_neg (by omega)]; exact r3, fun d hd => by rw [e6', gI_uI, if_neg (by omega)]; exact r17 d hd⟩
  refine ⟨by rw [u0]; exact kB, ?_⟩
  rintro _ rfl
  rw [u0]
  refine c_kind h401 h6 (by omega) ?_
  have hk37 := (h.2.2.2.2.2 (A 5 a) (by omega)).2.1
  refine ⟨A 10 (A 5 a), rfl, hk37, (vin_iff (by omega)).mpr hk37, ?_⟩
  rw [show (Int32.ofNat (A 10 (A 5 a)) : Int32).toNatClampNeg = A 10 (A 5 a) from nI_clamp (by omega)]
  have hsw := sw_act _ hk37
  have e1 : nI (A 5 a) + 1 = nI (A 5 a + 1) := nI_add _ 1
  rw [e1]
  -- the kinds one by one
  have fin : ∀ (u : St) (M1 : Nat → Nat) (ok : Bool), FI (PM br) s6' u → BR br (A 0 0) (A 0 1) u M1 → fEff A a M = (ok, M1) → fNext A a M = fBeh A 4 a → A 10 (A 5 a) ≠ 21 → Q (bI ok) u := by
    intro u M1 ok hF hbu he hnx hne
    have := hq u (F6.tr (hF.mo pmr)) (by rw [he]; exact hbu) (by unfold fDp fOp; rw [if_neg hne, if_neg hne]; exact hr6.f hb5 hF) (by rw [hnx, hF.gI (by unfold PM; omega)]; exact at6)
    rw [he] at this
    exact this
  rcases hk with ⟨hk, hh, hh2⟩ | ⟨hk | hk | hk, hv⟩ | ⟨hk, hd1, hd2⟩ | ⟨hk | hk, hcc⟩
  · -- send
    rw [hsw.1 hk]
    refine ⟨fun q => absurd q (by decide), fun _ => ?_, fun q => absurd q (by decide), fun q => absurd q (by decide), fun q => absurd q (by decide), fun q => absurd q (by decide), fun q => absurd q (by decide)⟩
    refine c_send kB kb h401 hB hM h6 hC6 hb6 u0 u1 ht3 hh hh2 (fun st' hF hbu => ?_)
    refine fin st' _ _ hF hbu ?_ ?_ (by omega)
    · unfold fEff; rw [if_pos hk]
    · unfold fNext; rw [if_neg (by omega), if_neg (by omega), if_neg (by omega)]
  · -- rest
    rw [hsw.2.1 hk]
    refine ⟨fun q => absurd q (by decide), fun q => absurd q (by decide), fun _ => ?_, fun q => absurd q (by decide), fun q => absurd q (by decide), fun q => absurd q (by decide), fun q => absurd q (by decide)⟩
    refine c_value kB kb h401 hB hM h6 hb6 u0 u1 (by omega) hv ?_
    refine c_rest kb hB hM hb6 u1 (fV_lt hB hM (by omega) hv) (fun st' hF hbu => ?_)
    refine fin st' _ true hF hbu ?_ ?_ (by omega)
    · unfold fEff; rw [if_neg (by omega), if_pos hk]
    · unfold fNext; rw [if_neg (by omega), if_neg (by omega), if_neg (by omega)]
  · -- note
    rw [hsw.2.2.1 hk]
    refine ⟨fun q => absurd q (by decide), fun q => absurd q (by decide), fun q => absurd q (by decide), fun _ => ⟨by rw [u1]; exact kb, ?_⟩, fun q => absurd q (by decide), fun q => absurd q (by decide), fun q => absurd q (by decide)⟩
    rintro _ rfl
    rw [u1]
    refine c_value kB kb h401 hB hM h6 hb6 u0 u1 (by omega) hv ?_
    refine c_write hB hb6 (by omega) (fun st' hF hbu => ?_)
    refine fin st' _ true hF hbu ?_ ?_ (by omega)
    · unfold fEff; rw [if_neg (by omega), if_neg (by omega), if_pos hk]
    · unfold fNext; rw [if_neg (by omega), if_neg (by omega), if_neg (by omega)]
  · -- mend
    rw [hsw.2.2.2.1 hk]
    refine ⟨fun q => absurd q (by decide), fun q => absurd q (by decide), fun q => absurd q (by decide), fun q => absurd q (by decide), fun _ => ⟨by rw [u1]; exact kb, ?_⟩, fun q => absurd q (by decide), fun q => absurd q (by decide)⟩
    rintro _ rfl
    rw [u1]
    refine c_value kB kb h401 hB hM h6 hb6 u0 u1 (by omega) hv ?_
    refine c_mend hB hM hb6 (by have := fV_lt hB hM (by omega) hv; omega) (fun st' hF hbu => ?_)
    refine fin st' _ _ hF hbu ?_ ?_ (by omega)
    · unfold fEff; rw [if_neg (by omega), if_neg (by omega), if_neg (by omega), if_pos hk]
    · unfold fNext; rw [if_neg (by omega), if_neg (by omega), if_neg (by omega)]
  · -- do
    rw [hsw.2.2.2.2.1 hk]
    refine ⟨fun q => absurd q (by decide), fun q => absurd q (by decide), fun q => absurd q (by decide), fun q => absurd q (by decide), fun q => absurd q (by decide), fun _ => ⟨by rw [u0]; exact kB, ?_⟩, fun q => absurd q (by decide)⟩
    rintro _ rfl
    rw [u0]
    refine c_num h401 h6 (by omega) ?_
    have hd6 := hdp hk
    unfold wX5_enterPlan
    rw [hr6.2.2.1]
    refine ⟨fun q => absurd ((nI_leI (a := 6) (by omega) (by omega)).mp q) (by omega), fun _ => ⟨(vin_iff (by omega)).mpr hd6, ?_⟩⟩
    rw [nI_clamp (by omega)]
    intro s7 e7 s8 e8
    have F7 : FI (PR br) s6' s7 := by rw [e7]; exact FI.u P17
    have e83 : gI s7 16 3 = nI dp := by rw [e7, gI_uI, if_neg (by omega)]; exact hr6.2.2.1
    have F8 : FI (PR br) s6' s8 := by rw [e8]; exact F7.tr (FI.u P16)
    have w0 : gR s8 16 0 = B := F8.gR.trans u0
    refine ⟨by rw [w0]; exact kB, ?_⟩
    rintro _ rfl
    rw [w0]
    have h8 : CK B A s8 := h6.f (F8.g (P2 := PR br) (fun _ z => z)) noPR
    have h6p := hO.2.2.1
    unfold wX1_firstActOf
    rw [oN_pos (by omega), h8.1]
    refine ⟨fun q => absurd q (nI_pos (by omega)), fun _ => ⟨fun q => absurd ((nI_leI (by omega) (by omega)).mp q) (by omega), fun _ => ⟨(vin_iff (by omega)).mpr (by omega), ?_⟩⟩⟩
    rw [nI_clamp (by omega), h8.2.2.1 _ (by omega)]
    intro s9 e9
    have F9 : FI (PR br) st s9 := by rw [e9]; exact F6.tr (F8.tr (FI.u P16))
    have he : fEff A a M = (true, M) := by unfold fEff; rw [if_neg (by omega), if_neg (by omega), if_neg (by omega), if_neg (by omega)]
    have hnx : fNext A a M = A 4 (A 11 (A 5 a + 1) - 1) := by unfold fNext; rw [if_pos hk]
    have hbs : BR br (A 0 0) (A 0 1) s9 M := by
      rw [e9, e8, e7]
      exact ((hb6.fi (P := fun d => d = 17) (FI.u rfl) (fun d h1 h2 => by show ¬ d = 17; omega)).fi (P := fun d => d = 16) (FI.u rfl) (fun d h1 h2 => by show ¬ d = 16; omega)).fi (P := fun d => d = 16) (FI.u rfl) (fun d h1 h2 => by show ¬ d = 16; omega)
    have := hq s9 F9 (by rw [he]; exact hbs) ?_ ?_
    · rw [he] at this; exact this
    · unfold fDp fOp
      rw [if_pos hk, if_pos hk]
      refine ⟨F9.gR.trans r0, F9.gR.trans r1, ?_, fun d hd => ?_⟩
      · rw [e9, gI_uI, if_neg (by omega), e8, gI_uI, if_pos ⟨rfl, rfl⟩, e83]; exact nI_1 dp
      · rw [e9, gI_uI, if_neg (by omega), e8, gI_uI, if_neg (by omega), e7, gI_uI, up_a]
        by_cases qd : d = dp
        · rw [if_pos ⟨rfl, qd⟩, if_pos qd]
        · rw [if_neg (fun z => qd z.2), if_neg qd]; exact hr6.2.2.2 d (by omega)
    · rw [hnx, e9, gI_uI, if_pos ⟨rfl, rfl⟩]
  · -- while
    have hlen := cOK_len hcc
    have hh := fun Q' hq' => c_holds (Q := Q') (p := nI (A 5 a + 1)) kB kb h401 hB hM (by omega) h6 hb6 u0 u1 (A 21 a) 101 (A 5 a + 1) hcc (by omega) hq'
    rw [hsw.2.2.2.2.2.1 hk]
    refine ⟨fun q => absurd q (by decide), fun q => absurd q (by decide), fun q => absurd q (by decide), fun q => absurd q (by decide), fun q => absurd q (by decide), fun q => absurd q (by decide), fun _ => ?_⟩
    refine ⟨_, hh _ ?_⟩
    have he : fEff A a M = (true, M) := by unfold fEff; rw [if_neg (by omega), if_neg (by omega), if_neg (by omega), if_neg (by omega)]
    have hnx : fNext A a M = (if fHold A M 101 (A 5 a + 1) = true then (if A 8 a = 0 then a + 1 else A 8 a) else fBeh A 4 a) := by unfold fNext; rw [if_neg (by omega), if_pos hk]
    have go : ∀ (u : St) (x : Nat), u = uI s6' 16 4 (oN x) → fNext A a M = x → Q 1 u := by
      rintro u x rfl hx
      have := hq (uI s6' 16 4 (oN x)) (F6.tr (FI.u P16)) (by rw [he]; exact hb6.fi (P := fun d => d = 16) (FI.u rfl) (fun d h1 h2 => by show ¬ d = 16; omega)) (by
        unfold fDp fOp; rw [if_neg (by omega), if_neg (by omega)]
        exact ⟨u0, u1, by rw [gI_uI, if_neg (by omega)]; exact hr6.2.2.1, fun d hd => by rw [gI_uI, if_neg (by omega)]; exact hr6.2.2.2 d hd⟩) (by rw [hx, gI_uI, if_pos ⟨rfl, rfl⟩])
      rw [he] at this
      exact this
    obtain ⟨g5', g6', g7', g8', g9'⟩ := h6.2.2.2.1 a ha
    refine ⟨fun q => ?_, fun q => ⟨by rw [u0]; exact kB, ?_⟩⟩
    · rw [bI0.mp q, if_neg (by decide)] at hnx
      have := hq s6' F6 (by rw [he]; exact hb6) (by unfold fDp fOp; rw [if_neg (by omega), if_neg (by omega)]; exact hr6) (by rw [hnx]; exact at6)
      rw [he] at this
      exact this
    · rw [if_pos ((Bool.not_eq_false _).mp (fun e => q (bI0.mpr e)))] at hnx
      rintro _ rfl
      rw [u0, g8', oN_m1 (by have := s8.le; omega)]
      refine ⟨hin, fun q8 => ⟨kB, ?_⟩, fun q8 => ?_⟩
      · intro c3 e3
        rw [e3, g8']
        refine ⟨hin, ?_⟩
        unfold wX5_act_L196
        intro s9 e9
        rw [if_neg q8] at hnx
        exact ⟨Or.inr rfl, go s9 _ e9 hnx⟩
      · unfold wX5_act_L196
        intro s9 e9
        rw [if_pos q8] at hnx
        exact ⟨Or.inr rfl, go s9 (a + 1) e9 hnx⟩
  · -- if
    have hlen := cOK_len hcc
    have hh := fun Q' hq' => c_holds (Q := Q') (p := nI (A 5 a + 1)) kB kb h401 hB hM (by omega) h6 hb6 u0 u1 (A 21 a) 101 (A 5 a + 1) hcc (by omega) hq'
    rw [hsw.2.2.2.2.2.2 hk]
    refine ⟨fun _ => ?_, fun q => absurd q (by decide), fun q => absurd q (by decide), fun q => absurd q (by decide), fun q => absurd q (by decide), fun q => absurd q (by decide), fun q => absurd q (by decide)⟩
    refine ⟨_, hh _ ?_⟩
    have he : fEff A a M = (true, M) := by unfold fEff; rw [if_neg (by omega), if_neg (by omega), if_neg (by omega), if_neg (by omega)]
    have hnx : fNext A a M = (if (if fHold A M 101 (A 5 a + 1) = true then A 8 a else A 9 a) = 0 then fBeh A 4 a else (if fHold A M 101 (A 5 a + 1) = true then A 8 a else A 9 a)) := by unfold fNext; rw [if_neg (by omega), if_neg (by omega), if_pos hk]
    have go : ∀ (u : St) (x : Nat), u = uI s6' 16 4 (oN x) → fNext A a M = x → Q 1 u := by
      rintro u x rfl hx
      have := hq (uI s6' 16 4 (oN x)) (F6.tr (FI.u P16)) (by rw [he]; exact hb6.fi (P := fun d => d = 16) (FI.u rfl) (fun d h1 h2 => by show ¬ d = 16; omega)) (by
        unfold fDp fOp; rw [if_neg (by omega), if_neg (by omega)]
        exact ⟨u0, u1, by rw [gI_uI, if_neg (by omega)]; exact hr6.2.2.1, fun d hd => by rw [gI_uI, if_neg (by omega)]; exact hr6.2.2.2 d hd⟩) (by rw [hx, gI_uI, if_pos ⟨rfl, rfl⟩])
      rw [he] at this
      exact this
    have L233 : ∀ x, x ≤ A 0 3 → fNext A a M = (if x = 0 then fBeh A 4 a else x) → wX5_act_L233 16 (nI a) 1 (oN x) s6' Q := by
      intro x hx hxn
      unfold wX5_act_L233
      rw [oN_m1 (by omega)]
      refine ⟨fun q => ?_, fun q => ?_⟩
      · intro s9 e9
        rw [if_neg q] at hxn
        exact ⟨Or.inr rfl, go s9 _ e9 hxn⟩
      · intro s9 e9
        rw [if_pos q] at hxn
        rw [at6] at e9
        exact ⟨Or.inr rfl, go s9 _ e9 hxn⟩
    obtain ⟨g5', g6', g7', g8', g9'⟩ := h6.2.2.2.1 a ha
    refine ⟨fun q => ⟨by rw [u0]; exact kB, ?_⟩, fun q => ⟨by rw [u0]; exact kB, ?_⟩⟩
    · rintro _ rfl
      rw [bI0.mp q] at hnx
      rw [u0, g9']
      exact ⟨hin, L233 _ s9.le hnx⟩
    · rintro _ rfl
      rw [(Bool.not_eq_false _).mp (fun e => q (bI0.mpr e))] at hnx
      rw [u0, g8']
      exact ⟨hin, L233 _ s8.le hnx⟩
end CR2

/-! the law's cases: the weakest, a crossing, a rest, a plank laid, notes -/
def Re2 (j : Nat) (A : Bk) (M M' : Nat → Nat) (n : Nat) (tp : Nat → Nat) (B B2 : Nat) (e : Int32) (st : St) : Prop := SP j A M ∧ SP (j + 1) A M' ∧ S20 B B2 ∧ SC A M' n tp B B2 e st ∧ SR A M n tp e st ∧ rOK st
section FA2
variable {j n B B2 : Nat} {tp M M' : Nat → Nat} {A : Bk} {e : Int32} {st st' s1 : St} {P : Nat → Prop} {Q : Int32 → St → Prop} {Qv R : St → Prop} {X : String → St → Prop}
/-- the class's bridge changes -/
theorem Rel.step (h : Rel j A M n tp B B2 e st) (hF : FP P st st') (hP : ∀ d, P d → d = 4 ∨ d = 7 ∨ d = 8 ∨ d = 9 ∨ (10 ≤ d ∧ d < 18)) (hb : BR 4 (A 0 0) (A 0 1) st' M') (hs : SP (j + 1) A M') (ho : rOK st') : Re2 j A M M' n tp B B2 e st' :=
  ⟨h.1, hs, h.2.1, h.2.2.1.ch h.2.1 hF (fun d q => by have := hP d q; omega) hb, h.2.2.2.1.fp hF (fun d q => by have := hP d q; omega), ho⟩
theorem Re2.z {v : Int32} (h : Re2 j A M M' n tp B B2 e st) (e1 : s1 = uI st 54 0 v) : Re2 j A M M' n tp B B2 e s1 :=
  ⟨h.1, h.2.1, h.2.2.1, h.2.2.2.1.fp h.2.2.1 (P := fun d => d = 54) (by rw [e1]; exact FP.uI (P := fun d => d = 54) rfl) (fun d q => by have q : d = 54 := q; omega), h.2.2.2.2.1.z e1, by rw [e1]; exact h.2.2.2.2.2.uI⟩
theorem Re2.uj {v : Int64} (h : Re2 j A M M' n tp B B2 e st) (e1 : s1 = uJ st 67 0 v) : Re2 j A M M' n tp B B2 e s1 := by
  have hF : FP (fun d => d = 67) st s1 := by rw [e1]; exact FP.uJ (P := fun d => d = 67) rfl
  exact ⟨h.1, h.2.1, h.2.2.1, h.2.2.2.1.fp h.2.2.1 hF (fun d q => by have q : d = 67 := q; omega), h.2.2.2.2.1.fp hF (fun d q => by have q : d = 67 := q; omega), by rw [e1]; exact h.2.2.2.2.2.uJ⟩
/-- the reference's bridge follows -/
theorem Re2.fin (h : Re2 j A M M' n tp B B2 e st) (hF : FI P st st') (hP : ∀ d, P d → 56 ≤ d ∧ d < 60) (hr : RM st' M') : Inv (j + 1) st' :=
  ⟨A, M', n, tp, B, B2, e, h.2.1, h.2.2.1, h.2.2.2.1.fp h.2.2.1 hF.fp (fun d q => by have := hP d q; omega), h.2.2.2.2.1.fi hF hP hr, h.2.2.2.2.2.fi hF⟩
theorem Re2.bb (h : Re2 j A M M' n tp B B2 e st) : BB (A 0 0) (A 0 1) (A 1) (A 2) := h.1.2.1
theorem Re2.mb (h : Re2 j A M M' n tp B B2 e st) : MB 120 M := h.1.2.2.2.2.1
theorem Re2.rm (h : Re2 j A M M' n tp B B2 e st) : RM st M := h.2.2.2.2.1.1
theorem Re2.kb (h : Re2 j A M M' n tp B B2 e st) : KB (A 0 0) (A 0 1) (A 1) (A 2) st := h.2.2.2.2.1.2.1
theorem LkI.in {r4 : Int32} (h : Inv (j + 1) st) (h6 : gI st 54 0 = 0) (hj : gJ st 67 0 = r4.toInt64) : LkI j 0 r4 st := by
  unfold LkI wX12_thrown
  rw [h6]
  exact FinI.ok hj h
theorem LkB.in {r4 : Int32} (h : Inv (j + 1) st) (h6 : gI st 54 0 = 0) (hj : gJ st 67 0 = if r4 = 0 then 0 else 1) : LkB j 0 r4 st := by
  unfold LkB wX12_thrown
  rw [h6]
  exact FinB.ok hj h
theorem p_ok2 {v : Int32} (h : Re2 j A M M' n tp B B2 e st) (hq : ∀ s4, Re2 j A M M' n tp B B2 e s4 → gJ s4 67 0 = v.toInt64 → Q 0 s4) : vp_in 0 1 ∧ ∀ st4, st4 = uJ st 67 (0 : Int32).toNatClampNeg ((v : Int32).toInt64) → Q 0 st4 := by
  refine ⟨v01, ?_⟩
  intro s4 e4
  exact hq s4 (h.uj e4) (by rw [e4, gJ_uJ, if_pos ⟨rfl, rfl⟩])
theorem p_ok2B {b : Bool} {L : Int64 → Int32 → St → (Int32 → St → Prop) → Prop} (hL : ∀ v s, (vp_in 0 1 ∧ ∀ st4, st4 = uJ s 67 (0 : Int32).toNatClampNeg v → Q 0 st4) → L v 0 s Q) (h : Re2 j A M M' n tp B B2 e st) (hq : ∀ s4, Re2 j A M M' n tp B B2 e s4 → gJ s4 67 0 = (if bI b = 0 then 0 else 1) → Q 0 s4) : (bI b = 0 → L 0 0 st Q) ∧ (¬ bI b = 0 → L 1 0 st Q) := by
  refine ⟨fun q => hL 0 st ⟨v01, ?_⟩, fun q => hL 1 st ⟨v01, ?_⟩⟩
  · intro s4 e4
    exact hq s4 (h.uj e4) (by rw [e4, gJ_uJ, if_pos ⟨rfl, rfl⟩, if_pos q])
  · intro s4 e4
    exact hq s4 (h.uj e4) (by rw [e4, gJ_uJ, if_pos ⟨rfl, rfl⟩, if_neg q])
theorem nI_m1 {k : Nat} (hk : k < 2 ^ 31) : ¬ nI k = (-1 : Int32) := fun q => by
  have := (oI_m1 (o := some k) (fun j e => by cases e; exact hk)).mp q
  cases this
theorem lc_15 {a1 a2 a3 a4 a5 : Int32} (h : Rel j A M n tp B B2 e st) : wLc_15 a1 a2 a3 a4 a5 st (Inv (j + 1)) := by
  show wL_weakestPlank 0 67 st (KI j (wX12_weakestPlank 54))
  unfold wL_weakestPlank wX9_weakestPlank wX9_requireSomePlank
  have n8 := h.n8
  refine c_weakest (b := 4) (snd := false) h.bb h.mb h.br ?_
  cases hw : fWst M false (A 0 1) with
  | none =>
    refine ⟨fun q => absurd rfl q, fun _ => ⟨rfl, ?_⟩⟩
    show wX12_weakestPlank 54 st (LkI j 1)
    unfold wX12_weakestPlank
    intro s1 e1
    have h1 := h.z e1
    refine r_weakest (snd := false) h1.bb h1.mb h1.kb h1.rm ?_
    rw [hw]
    refine ⟨fun q => absurd rfl q, fun _ => ?_⟩
    unfold wX12_fail
    intro s2 e2
    exact LkI.bad h1 (by decide) e2
  | some k =>
    have lt := fWst_lt _ hw
    have ne := nI_m1 (k := k) (by omega)
    refine ⟨fun _ => c_weakest (b := 4) (snd := false) h.bb h.mb h.br ?_, fun q => absurd q ne⟩
    rw [hw]
    refine p_ok (v := nI k) h (fun s4 h4 g4 => ?_)
    show wX12_weakestPlank 54 s4 (LkI j 0)
    unfold wX12_weakestPlank
    intro s1 e1
    have h1 := h4.z e1
    refine r_weakest (snd := false) h1.bb h1.mb h1.kb h1.rm ?_
    rw [hw]
    refine ⟨fun _ => r_weakest (snd := false) h1.bb h1.mb h1.kb h1.rm ?_, fun q => absurd q ne⟩
    rw [hw]
    refine LkI.ok h1 (z54 e1) ?_
    rw [z67 e1, g4]; rfl
theorem lc_17 {a1 a2 a3 a4 a5 : Int32} (h : Rel j A M n tp B B2 e st) : wLc_17 a1 a2 a3 a4 a5 st (Inv (j + 1)) := by
  show wL_heaviestLoad 0 67 st (KI j (wX12_heaviestLoad 54))
  unfold wL_heaviestLoad wX9_heaviestLoad wX9_requireSomePlank
  have n8 := h.n8
  refine c_weakest (b := 4) (snd := false) h.bb h.mb h.br ?_
  cases hw : fWst M false (A 0 1) with
  | none =>
    refine ⟨fun q => absurd rfl q, fun _ => ⟨rfl, ?_⟩⟩
    show wX12_heaviestLoad 54 st (LkI j 1)
    unfold wX12_heaviestLoad
    intro s1 e1
    have h1 := h.z e1
    refine r_weakest (snd := false) h1.bb h1.mb h1.kb h1.rm ?_
    rw [hw]
    refine ⟨fun q => absurd rfl q, fun _ => ?_⟩
    unfold wX12_fail
    intro s2 e2
    exact LkI.bad h1 (by decide) e2
  | some k =>
    have lt := fWst_lt _ hw
    have ne := nI_m1 (k := k) (by omega)
    refine ⟨fun _ => c_weakest (b := 4) (snd := false) h.bb h.mb h.br ?_, fun q => absurd q ne⟩
    rw [hw]
    refine c_load (b := 4) h.bb h.mb h.br lt ?_
    refine p_ok (v := nI (fBear M k)) h (fun s4 h4 g4 => ?_)
    show wX12_heaviestLoad 54 s4 (LkI j 0)
    unfold wX12_heaviestLoad
    intro s1 e1
    have h1 := h4.z e1
    refine r_weakest (snd := false) h1.bb h1.mb h1.kb h1.rm ?_
    rw [hw]
    refine ⟨fun _ => r_weakest (snd := false) h1.bb h1.mb h1.kb h1.rm ?_, fun q => absurd q ne⟩
    rw [hw]
    refine r_bear h1.mb h1.rm (by omega) ?_
    refine LkI.ok h1 (z54 e1) ?_
    rw [z67 e1, g4]
/-! a crossing -/
theorem SP.cross {k : Nat} {other : Option Nat} (h : SP j A M) (hO : OK2 (A 0 0) k other) : SP (j + 1) A (fCross (A 0 1) (A 1) (A 2) k other M).2 :=
  ⟨h.1, h.2.1, h.2.2.1, h.2.2.2.1, MB.cross h.2.1 h.2.2.2.2.1 hO, (MC.cross h.2.1 hO h.2.2.2.2.2.1).mo (by omega), h.2.2.2.2.2.2.cross h.2.1 hO⟩
theorem bI_n0 {b : Bool} : ¬ bI b = 0 ↔ b = true := by cases b <;> decide
/-- a crossing of the class -/
theorem x_now {k : Nat} {other : Option Nat} (h : Rel j A M n tp B B2 e st) (hO : OK2 (A 0 0) k other)
    (L : Int64 → Int32 → St → (Int32 → St → Prop) → Prop) (Q : Int32 → St → Prop) (hL : ∀ v s, (vp_in 0 1 ∧ ∀ st4, st4 = uJ s 67 (0 : Int32).toNatClampNeg v → Q 0 st4) → L v 0 s Q)
    (hgo : fCan (A 0 1) (A 2) k other M = true → ∀ s4, Re2 j A M (fCross (A 0 1) (A 1) (A 2) k other M).2 n tp B B2 e s4 → gJ s4 67 0 = (if bI (fCross (A 0 1) (A 1) (A 2) k other M).1 = 0 then 0 else 1) → Q 0 s4)
    (hno : fCan (A 0 1) (A 2) k other M = false → X "java/lang/IllegalStateException" st) :
    wX9_crossNow 0 (nI k) (oI other) st (fun r3 st2 => (r3 = 0 → L 0 0 st2 Q) ∧ (¬ r3 = 0 → L 1 0 st2 Q)) X := by
  unfold wX9_crossNow
  refine c_canGo (b := 4) h.bb h.mb h.cb h.br hO ?_
  cases hc : fCan (A 0 1) (A 2) k other M with
  | false => exact ⟨fun q => absurd rfl q, fun _ => hno hc⟩
  | true =>
    refine ⟨fun _ => ?_, fun q => absurd q (by decide)⟩
    refine c_go (b := 4) h.bb h.mb h.cb h.br hO hc (fun st2 hF hb2 => ?_)
    have h2 := h.step hF.fp (fun d q => by unfold PM at q; omega) hb2 (h.1.cross hO) (h.2.2.2.2.fi hF)
    exact p_ok2B hL h2 (fun s4 h4 g4 => hgo hc s4 h4 g4)
/-- and of the reference -/
theorem x_ref {k : Nat} {other : Option Nat} {Z : St → Prop} (h : Re2 j A M (fCross (A 0 1) (A 1) (A 2) k other M).2 n tp B B2 e st) (hO : OK2 (A 0 0) k other) (hc : fCan (A 0 1) (A 2) k other M = true) (h6 : gI st 54 0 = 0) (hj : gJ st 67 0 = (if bI (fCross (A 0 1) (A 1) (A 2) k other M).1 = 0 then 0 else 1)) :
    wX12_canCross 54 (nI k) (oI other) st (fun r5 st4 => (r5 = 0 → Z st4) ∧ (¬ r5 = 0 → wX12_cross 54 (nI k) (oI other) st4 (fun r9 st8 => LkB j 0 r9 st8))) := by
  refine r_canCross h.bb h.mb h.kb h.rm hO ?_
  rw [hc]
  refine ⟨fun q => absurd q (by decide), fun _ => r_cross h.bb h.mb h.kb h.rm hO (fCan_all hc).2.2 (fun s9 hF9 hM9 => ?_)⟩
  refine LkB.in (h.fin hF9 (fun d q => by unfold P56 at q; omega) hM9) ?_ ?_
  · rw [hF9.gI (by unfold P56; omega)]; exact h6
  · rw [hF9.gJ, hj]
theorem lc_23 {a1 a2 a3 a4 a5 : Int32} (h : Rel j A M n tp B B2 e st) : wLc_23 a1 a2 a3 a4 a5 st (Inv (j + 1)) := by
  show wL_crossAlone 0 a1 67 st (KBo j (wX12_crossAlone 54 a1))
  unfold wL_crossAlone wX9_crossAlone
  have n8 := h.n8
  rcases i_rng (A 0 0) (by omega) a1 with ⟨k, hk, rfl⟩ | ho
  · have hO : OK2 (A 0 0) k none := ⟨hk, fun o q => by cases q⟩
    refine c_rqT h.br.w0 hk (by omega) (x_now (other := none) h hO (fun v w s Q => wL_crossAlone_L15 0 (nI k) 67 v w s Q) (KBo j (wX12_crossAlone 54 (nI k))) (fun v s q => q) (fun hc s4 h4 g4 => ?_) (fun hc => Or.inr ⟨rfl, ?_⟩))
    · show wX12_crossAlone 54 (nI k) s4 (LkB j 0)
      unfold wX12_crossAlone wX12_isWalker
      intro s1 e1
      have h1 := h4.z e1
      refine r_inT (m := A 0 0) (by omega) hk (by rw [h1.kb.1]) ⟨fun _ => ?_, fun q => absurd q (by decide)⟩
      exact x_ref (other := none) h1 hO hc (z54 e1) ((z67 e1).trans g4)
    · show wX12_crossAlone 54 (nI k) st (LkB j 2)
      unfold wX12_crossAlone wX12_isWalker
      intro s1 e1
      have h1 := h.z e1
      refine r_inT (m := A 0 0) (by omega) hk (by rw [h1.kb.1]) ⟨fun _ => ?_, fun q => absurd q (by decide)⟩
      refine r_canCross (other := none) h1.bb h1.mb h1.kb h1.rm hO ?_
      rw [hc]
      refine ⟨fun _ => ?_, fun q => absurd rfl q⟩
      unfold wX12_failed
      intro s2 e2
      exact LkB.bad h1 (by decide) e2
  · refine c_rqF h.br.w0 ho (Or.inl ⟨rfl, ?_⟩)
    show wX12_crossAlone 54 a1 st (LkB j 1)
    unfold wX12_crossAlone wX12_isWalker
    intro s1 e1
    have h1 := h.z e1
    refine r_inF (m := A 0 0) (by omega) ho (by rw [h1.kb.1]) ⟨fun q => absurd rfl q, fun _ => ?_⟩
    unfold wX12_failed
    intro s2 e2
    exact LkB.bad h1 (by decide) e2
/-! two walkers -/
theorem r_twoT {k k2 m : Nat} (hm : m < 2 ^ 30) (g : gI st 60 0 = nI m) (h1 : k < m) (h2 : k2 < m) (hne : k ≠ k2) (hq : ∀ s, s = uI st 54 0 0 → Q 1 s) : wX12_areTwo 54 (nI k) (nI k2) st Q := by
  unfold wX12_areTwo wX12_isWalker
  refine r_inT hm h1 (by rw [g]) ⟨fun q => absurd q (by decide), fun _ => r_inT hm h2 (by rw [g]) ⟨fun _ => ⟨fun _ => ?_, fun q => absurd ((nI_eq (by omega) (by omega)).mp q) hne⟩, fun q => absurd q (by decide)⟩⟩
  unfold wX12_areTwo_L31
  intro s5 e5
  rw [z54 e5]
  exact ⟨fun q => absurd rfl q, fun _ => hq s5 e5⟩
theorem r_twoE {k m : Nat} (hm : m < 2 ^ 30) (g : gI st 60 0 = nI m) (h1 : k < m) (hq : ∀ s, s = uI st 54 0 2 → Q 0 s) : wX12_areTwo 54 (nI k) (nI k) st Q := by
  unfold wX12_areTwo wX12_isWalker
  refine r_inT hm h1 (by rw [g]) ⟨fun q => absurd q (by decide), fun _ => r_inT hm h1 (by rw [g]) ⟨fun _ => ⟨fun q => absurd rfl q, fun _ => ?_⟩, fun q => absurd q (by decide)⟩⟩
  unfold wX12_areTwo_L31
  intro s5 e5
  rw [z54 e5]
  exact ⟨fun _ => hq s5 e5, fun q => absurd q (by decide)⟩
theorem r_two1 {m : Nat} {p1 p2 : Int32} (hm : m < 2 ^ 30) (g : gI st 60 0 = nI m) (ho : Out m p1) (hq : ∀ s, s = uI st 54 0 1 → Q 0 s) : wX12_areTwo 54 p1 p2 st Q := by
  unfold wX12_areTwo wX12_isWalker
  refine r_inF hm ho (by rw [g]) ⟨fun _ => ?_, fun q => absurd rfl q⟩
  unfold wX12_areTwo_L17 wX12_areTwo_L31
  intro s5 e5
  rw [z54 e5]
  exact ⟨fun _ => hq s5 e5, fun q => absurd q (by decide)⟩
theorem r_two2 {k m : Nat} {p2 : Int32} (hm : m < 2 ^ 30) (g : gI st 60 0 = nI m) (h1 : k < m) (ho : Out m p2) (hq : ∀ s, s = uI st 54 0 1 → Q 0 s) : wX12_areTwo 54 (nI k) p2 st Q := by
  unfold wX12_areTwo wX12_isWalker
  refine r_inT hm h1 (by rw [g]) ⟨fun q => absurd q (by decide), fun _ => r_inF hm ho (by rw [g]) ⟨fun q => absurd rfl q, fun _ => ?_⟩⟩
  unfold wX12_areTwo_L17 wX12_areTwo_L31
  intro s5 e5
  rw [z54 e5]
  exact ⟨fun _ => hq s5 e5, fun q => absurd q (by decide)⟩
/-- what two numbers can be -/
theorem i_two {m : Nat} (hm : m < 2 ^ 30) (p1 p2 : Int32) : (∃ k k2, k < m ∧ k2 < m ∧ k ≠ k2 ∧ p1 = nI k ∧ p2 = nI k2) ∨ (∃ k, k < m ∧ p1 = nI k ∧ p2 = nI k) ∨ Out m p1 ∨ (∃ k, k < m ∧ p1 = nI k ∧ Out m p2) := by
  rcases i_rng m hm p1 with ⟨k, hk, rfl⟩ | ho
  · rcases i_rng m hm p2 with ⟨k2, hk2, rfl⟩ | ho
    · by_cases q : k = k2
      · subst q; exact Or.inr (Or.inl ⟨k, hk, rfl, rfl⟩)
      · exact Or.inl ⟨k, k2, hk, hk2, q, rfl, rfl⟩
    · exact Or.inr (Or.inr (Or.inr ⟨k, hk, rfl, ho⟩))
  · exact Or.inr (Or.inr (Or.inl ho))
theorem c_twoT {k k2 m : Nat} (g : gI st 4 0 = nI m) (hm : m < 2 ^ 30) (h1 : k < m) (h2 : k2 < m) (hne : k ≠ k2) (hq : Qv st) : wX9_requireTwo 0 (nI k) (nI k2) st Qv X := by
  unfold wX9_requireTwo
  exact c_rqT g h1 hm (c_rqT g h2 hm ⟨fun _ => hq, fun q => absurd ((nI_eq (by omega) (by omega)).mp q) hne⟩)
theorem c_twoE {k m : Nat} (g : gI st 4 0 = nI m) (hm : m < 2 ^ 30) (h1 : k < m) (hx : X "java/lang/IllegalArgumentException" st) : wX9_requireTwo 0 (nI k) (nI k) st Qv X := by
  unfold wX9_requireTwo
  exact c_rqT g h1 hm (c_rqT g h1 hm ⟨fun q => absurd rfl q, fun _ => hx⟩)
theorem c_two1 {m : Nat} {p1 p2 : Int32} (g : gI st 4 0 = nI m) (ho : Out m p1) (hx : X "java/lang/IndexOutOfBoundsException" st) : wX9_requireTwo 0 p1 p2 st Qv X := by
  unfold wX9_requireTwo
  exact c_rqF g ho hx
theorem c_two2 {k m : Nat} {p2 : Int32} (g : gI st 4 0 = nI m) (hm : m < 2 ^ 30) (h1 : k < m) (ho : Out m p2) (hx : X "java/lang/IndexOutOfBoundsException" st) : wX9_requireTwo 0 (nI k) p2 st Qv X := by
  unfold wX9_requireTwo
  exact c_rqT g h1 hm (c_rqF g ho hx)
theorem lc_24 {a1 a2 a3 a4 a5 : Int32} (h : Rel j A M n tp B B2 e st) : wLc_24 a1 a2 a3 a4 a5 st (Inv (j + 1)) := by
  show wL_crossTogether 0 a1 a2 67 st (KBo j (wX12_crossTogether 54 a1 a2))
  unfold wL_crossTogether wX9_crossTogether
  have n8 := h.n8
  have bad : ∀ (p1 p2 t : Int32), t ≠ 0 → (∀ {Q : Int32 → St → Prop}, (∀ s, s = uI st 54 0 t → Q 0 s) → wX12_areTwo 54 p1 p2 st Q) → KBo j (wX12_crossTogether 54 p1 p2) t st := by
    intro p1 p2 t ht hw
    show wX12_crossTogether 54 p1 p2 st (LkB j t)
    unfold wX12_crossTogether
    refine hw (fun s1 e1 => ⟨fun q => absurd rfl q, fun _ => ?_⟩)
    exact LkB.bad h ht e1
  rcases i_two (m := A 0 0) (by omega) a1 a2 with ⟨k, k2, hk, hk2, hne, rfl, rfl⟩ | ⟨k, hk, rfl, rfl⟩ | ho | ⟨k, hk, rfl, ho⟩
  · have hO : OK2 (A 0 0) k (some k2) := ⟨hk, fun o q => by cases q; exact ⟨hk2, fun w => hne w.symm⟩⟩
    refine c_twoT h.br.w0 (by omega) hk hk2 hne (x_now (other := some k2) h hO (fun v w s Q => wL_crossTogether_L16 0 (nI k) (nI k2) 67 v w s Q) (KBo j (wX12_crossTogether 54 (nI k) (nI k2))) (fun v s q => q) (fun hc s4 h4 g4 => ?_) (fun hc => Or.inr (Or.inr ⟨rfl, ?_⟩)))
    · show wX12_crossTogether 54 (nI k) (nI k2) s4 (LkB j 0)
      unfold wX12_crossTogether
      refine r_twoT (m := A 0 0) (by omega) h4.kb.1 hk hk2 hne (fun s1 e1 => ⟨fun _ => ?_, fun q => absurd q (by decide)⟩)
      exact x_ref (other := some k2) (h4.z e1) hO hc (z54 e1) ((z67 e1).trans g4)
    · show wX12_crossTogether 54 (nI k) (nI k2) st (LkB j 3)
      unfold wX12_crossTogether
      refine r_twoT (m := A 0 0) (by omega) h.kb.1 hk hk2 hne (fun s1 e1 => ⟨fun _ => ?_, fun q => absurd q (by decide)⟩)
      have h1 := h.z e1
      refine r_canCross (other := some k2) h1.bb h1.mb h1.kb h1.rm hO ?_
      rw [hc]
      refine ⟨fun _ => ?_, fun q => absurd rfl q⟩
      unfold wX12_failed
      intro s2 e2
      exact LkB.bad h1 (by decide) e2
  · exact c_twoE h.br.w0 (by omega) hk (Or.inr (Or.inl ⟨rfl, bad _ _ 2 (by decide) (fun hq => r_twoE (m := A 0 0) (by omega) h.kb.1 hk hq)⟩))
  · exact c_two1 h.br.w0 ho (Or.inl ⟨rfl, bad _ _ 1 (by decide) (fun hq => r_two1 (m := A 0 0) (by omega) h.kb.1 ho hq)⟩)
  · exact c_two2 h.br.w0 (by omega) hk ho (Or.inl ⟨rfl, bad _ _ 1 (by decide) (fun hq => r_two2 (m := A 0 0) (by omega) h.kb.1 hk ho hq)⟩)
/-! a crossing tried -/
theorem y_now {k : Nat} {other : Option Nat} (h : Rel j A M n tp B B2 e st) (hO : OK2 (A 0 0) k other)
    (L : Int64 → Int32 → St → (Int32 → St → Prop) → Prop) (Q : Int32 → St → Prop) (hL : ∀ v s, (vp_in 0 1 ∧ ∀ st4, st4 = uJ s 67 (0 : Int32).toNatClampNeg v → Q 0 st4) → L v 0 s Q)
    (hgo : ∀ s4, Rel j A M n tp B B2 e s4 → gJ s4 67 0 = (if bI (fCan (A 0 1) (A 2) k other M && (fCross (A 0 1) (A 1) (A 2) k other M).1) = 0 then 0 else 1) → Q 0 s4) :
    wX9_wouldCross 0 (nI k) (oI other) st (fun r3 st2 => (r3 = 0 → L 0 0 st2 Q) ∧ (¬ r3 = 0 → L 1 0 st2 Q)) := by
  unfold wX9_wouldCross
  refine c_canGo (b := 4) h.bb h.mb h.cb h.br hO ?_
  cases hc : fCan (A 0 1) (A 2) k other M with
  | false =>
    rw [hc] at hgo
    exact ⟨fun q => absurd rfl q, fun _ => p_okB (b := false) hL h hgo⟩
  | true =>
    rw [hc] at hgo
    refine ⟨fun _ => ?_, fun q => absurd q (by decide)⟩
    refine c_copy (b := 10) (p := 4) (by omega) h.bb h.mb h.cb h.br (fun st3 hF3 hc3 hb3 => ?_)
    refine c_go (b := 10) h.bb h.mb hc3 hb3 hO hc (fun st2 hF hb2 => ?_)
    have hFF : FI (fun d => 10 ≤ d ∧ d < 18) st st2 := (hF3.mo (fun d q => by unfold PB at q; omega)).tr (hF.mo (fun d q => by unfold PM at q; omega))
    have h2 : Rel j A M n tp B B2 e st2 := ⟨h.1, h.2.1, h.2.2.1.fp h.2.1 hFF.fp (fun d q => Or.inl q), h.2.2.2.1.fp hFF.fp (fun d q => by have q : 10 ≤ d ∧ d < 18 := q; omega), h.2.2.2.2.fi hFF⟩
    exact p_okB hL h2 hgo
theorem y_ref {k : Nat} {other : Option Nat} (h : Rel j A M n tp B B2 e st) (hO : OK2 (A 0 0) k other) (hq : ∀ s, FI (fun d => d = 56 ∨ d = 57) st s → RM s M → Q (bI (fCan (A 0 1) (A 2) k other M && (fCross (A 0 1) (A 1) (A 2) k other M).1)) s) : wX12_leads 54 (nI k) (oI other) st Q := by
  unfold wX12_leads
  refine r_canCross h.bb h.mb h.kb h.rm hO ?_
  cases hc : fCan (A 0 1) (A 2) k other M with
  | false =>
    rw [hc] at hq
    exact ⟨fun q => absurd rfl q, fun _ => hq st FI.rf h.rm⟩
  | true =>
    rw [hc] at hq
    refine ⟨fun _ => ?_, fun q => absurd q (by decide)⟩
    refine r_keep h.rm (fun s3 hF3 hM3 hK3 => ?_)
    have kb3 : KB (A 0 0) (A 0 1) (A 1) (A 2) s3 := h.kb.fi hF3 (by show ¬ (60 : Nat) = 57; omega) (by show ¬ (61 : Nat) = 57; omega) (by show ¬ (62 : Nat) = 57; omega)
    refine r_cross h.bb h.mb kb3 hM3 hO (fCan_all hc).2.2 (fun s4 hF4 hM4 => ?_)
    have hK4 : RK s4 M := fun i hi => (hF4.gI (by unfold P56; omega)).trans (hK3 i hi)
    refine r_back hK4 (fun s6 hF6 hM6 _ => ?_)
    exact hq s6 (((hF3.mo (fun d q => Or.inr q)).tr (hF4.mo (fun d q => Or.inl q))).tr (hF6.mo (fun d q => Or.inl q))) hM6
theorem lc_32 {a1 a2 a3 a4 a5 : Int32} (h : Rel j A M n tp B B2 e st) : wLc_32 a1 a2 a3 a4 a5 st (Inv (j + 1)) := by
  show wL_canCrossAlone 0 a1 67 st (KBo j (wX12_canCrossAlone 54 a1))
  unfold wL_canCrossAlone wX9_canCrossAlone
  have n8 := h.n8
  rcases i_rng (A 0 0) (by omega) a1 with ⟨k, hk, rfl⟩ | ho
  · have hO : OK2 (A 0 0) k none := ⟨hk, fun o q => by cases q⟩
    refine c_rqT h.br.w0 hk (by omega) (y_now (other := none) h hO (fun v w s Q => wL_canCrossAlone_L15 0 (nI k) 67 v w s Q) (KBo j (wX12_canCrossAlone 54 (nI k))) (fun v s q => q) (fun s4 h4 g4 => ?_))
    show wX12_canCrossAlone 54 (nI k) s4 (LkB j 0)
    unfold wX12_canCrossAlone wX12_isWalker
    intro s1 e1
    have h1 := h4.z e1
    refine r_inT (m := A 0 0) (by omega) hk (by rw [h1.kb.1]) ⟨fun q => absurd q (by decide), fun _ => ?_⟩
    refine y_ref (other := none) h1 hO (fun s hF hM => ?_)
    refine LkB.ok (h1.rf hF (fun d q => by omega) hM) ?_ ?_
    · rw [hF.gI (by omega)]; exact z54 e1
    · rw [hF.gJ, z67 e1, g4]
  · refine c_rqF h.br.w0 ho ⟨rfl, ?_⟩
    show wX12_canCrossAlone 54 a1 st (LkB j 1)
    unfold wX12_canCrossAlone wX12_isWalker
    intro s1 e1
    have h1 := h.z e1
    refine r_inF (m := A 0 0) (by omega) ho (by rw [h1.kb.1]) ⟨fun _ => ?_, fun q => absurd rfl q⟩
    unfold wX12_failed
    intro s2 e2
    exact LkB.bad h1 (by decide) e2
theorem lc_33 {a1 a2 a3 a4 a5 : Int32} (h : Rel j A M n tp B B2 e st) : wLc_33 a1 a2 a3 a4 a5 st (Inv (j + 1)) := by
  show wL_canCrossTogether 0 a1 a2 67 st (KBo j (wX12_canCrossTogether 54 a1 a2))
  unfold wL_canCrossTogether wX9_canCrossTogether
  have n8 := h.n8
  have bad : ∀ (p1 p2 t : Int32), t ≠ 0 → (∀ {Q : Int32 → St → Prop}, (∀ s, s = uI st 54 0 t → Q 0 s) → wX12_areTwo 54 p1 p2 st Q) → KBo j (wX12_canCrossTogether 54 p1 p2) t st := by
    intro p1 p2 t ht hw
    show wX12_canCrossTogether 54 p1 p2 st (LkB j t)
    unfold wX12_canCrossTogether
    refine hw (fun s1 e1 => ⟨fun _ => ?_, fun q => absurd rfl q⟩)
    exact LkB.bad h ht e1
  rcases i_two (m := A 0 0) (by omega) a1 a2 with ⟨k, k2, hk, hk2, hne, rfl, rfl⟩ | ⟨k, hk, rfl, rfl⟩ | ho | ⟨k, hk, rfl, ho⟩
  · have hO : OK2 (A 0 0) k (some k2) := ⟨hk, fun o q => by cases q; exact ⟨hk2, fun w => hne w.symm⟩⟩
    refine c_twoT h.br.w0 (by omega) hk hk2 hne (y_now (other := some k2) h hO (fun v w s Q => wL_canCrossTogether_L16 0 (nI k) (nI k2) 67 v w s Q) (KBo j (wX12_canCrossTogether 54 (nI k) (nI k2))) (fun v s q => q) (fun s4 h4 g4 => ?_))
    show wX12_canCrossTogether 54 (nI k) (nI k2) s4 (LkB j 0)
    unfold wX12_canCrossTogether
    refine r_twoT (m := A 0 0) (by omega) h4.kb.1 hk hk2 hne (fun s1 e1 => ⟨fun q => absurd q (by decide), fun _ => ?_⟩)
    have h1 := h4.z e1
    refine y_ref (other := some k2) h1 hO (fun s hF hM => ?_)
    have hr := h1.rf hF (fun d q => by omega) hM
    have h6 : gI s 54 0 = 0 := by rw [hF.gI (by omega)]; exact z54 e1
    have hj : gJ s 67 0 = gJ s4 67 0 := by rw [hF.gJ, z67 e1]
    refine ⟨fun q => LkB.ok hr h6 ?_, fun q => LkB.ok hr h6 ?_⟩
    · rw [hj, g4, if_pos q]; rfl
    · rw [hj, g4, if_neg q]; rfl
  · exact c_twoE h.br.w0 (by omega) hk (Or.inr ⟨rfl, bad _ _ 2 (by decide) (fun hq => r_twoE (m := A 0 0) (by omega) h.kb.1 hk hq)⟩)
  · exact c_two1 h.br.w0 ho (Or.inl ⟨rfl, bad _ _ 1 (by decide) (fun hq => r_two1 (m := A 0 0) (by omega) h.kb.1 ho hq)⟩)
  · exact c_two2 h.br.w0 (by omega) hk ho (Or.inl ⟨rfl, bad _ _ 1 (by decide) (fun hq => r_two2 (m := A 0 0) (by omega) h.kb.1 hk ho hq)⟩)
end FA2

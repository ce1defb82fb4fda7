/-! the law's cases: rows told, one walker's, one plank's -/
def Rel (j : Nat) (A : Bk) (M : Nat → Nat) (n : Nat) (tp : Nat → Nat) (B B2 : Nat) (e : Int32) (st : St) : Prop := SP j A M ∧ S20 B B2 ∧ SC A M n tp B B2 e st ∧ SR A M n tp e st ∧ rOK st
def LkI (j : Nat) (r2 r4 : Int32) (st3 : St) : Prop := wX12_thrown 54 st3 (fun r6 st5 => FinI r2 r4 r6 st5 (Inv (j + 1)))
def LkB (j : Nat) (r2 r4 : Int32) (st3 : St) : Prop := wX12_thrown 54 st3 (fun r6 st5 => FinB r2 r4 r6 st5 (Inv (j + 1)))
def LkE (j : Nat) (r2 r4 : Int32) (st3 : St) : Prop := (r2 = r4 → Inv (j + 1) st3) ∧ (¬ r2 = r4 → False)
def KI (j : Nat) (f : St → (Int32 → St → Prop) → Prop) : Int32 → St → Prop := fun r2 st1 => f st1 (fun r4 st3 => LkI j r2 r4 st3)
def KBo (j : Nat) (f : St → (Int32 → St → Prop) → Prop) : Int32 → St → Prop := fun r2 st1 => f st1 (fun r4 st3 => LkB j r2 r4 st3)
section FAC
variable {j n B B2 : Nat} {tp M M' : Nat → Nat} {A : Bk} {e : Int32} {st st' s1 : St} {P : Nat → Prop} {Q : Int32 → St → Prop} {Qv R : St → Prop} {X : String → St → Prop}
theorem Inv.rel (h : Inv j st) : ∃ A M n tp B B2 e, Rel j A M n tp B B2 e st := h
theorem Rel.inv (h : Rel j A M n tp B B2 e st) : Inv (j + 1) st := ⟨A, M, n, tp, B, B2, e, h.1.up, h.2⟩
theorem Rel.z {v : Int32} (h : Rel j A M n tp B B2 e st) (e1 : s1 = uI st 54 0 v) : Rel j A M n tp B B2 e s1 :=
  ⟨h.1, h.2.1, h.2.2.1.fp h.2.1 (P := fun d => d = 54) (by rw [e1]; exact FP.uI (P := fun d => d = 54) rfl) (fun d q => by have q : d = 54 := q; omega), h.2.2.2.1.z e1, by rw [e1]; exact h.2.2.2.2.uI⟩
theorem Rel.uj {v : Int64} (h : Rel j A M n tp B B2 e st) (e1 : s1 = uJ st 67 0 v) : Rel j A M n tp B B2 e s1 := by
  have hF : FP (fun d => d = 67) st s1 := by rw [e1]; exact FP.uJ (P := fun d => d = 67) rfl
  exact ⟨h.1, h.2.1, h.2.2.1.fp h.2.1 hF (fun d q => by have q : d = 67 := q; omega), h.2.2.2.1.fp hF (fun d q => by have q : d = 67 := q; omega), by rw [e1]; exact h.2.2.2.2.uJ⟩
/-- the reference's own rows change -/
theorem Rel.rf (h : Rel j A M n tp B B2 e st) (hF : FI P st st') (hP : ∀ d, P d → 56 ≤ d ∧ d < 60) (hr : RM st' M) : Rel j A M n tp B B2 e st' :=
  ⟨h.1, h.2.1, h.2.2.1.fp h.2.1 hF.fp (fun d q => by have := hP d q; omega), h.2.2.2.1.fi hF hP hr, h.2.2.2.2.fi hF⟩
theorem Rel.ob (h : Rel j A M n tp B B2 e st) : bOK A := h.1.1
theorem Rel.bb (h : Rel j A M n tp B B2 e st) : BB (A 0 0) (A 0 1) (A 1) (A 2) := h.1.2.1
theorem Rel.m1 (h : Rel j A M n tp B B2 e st) : ∀ k, k < A 0 0 → 1 ≤ A 2 k := h.1.2.2.1
theorem Rel.mb (h : Rel j A M n tp B B2 e st) : MB 120 M := h.1.2.2.2.2.1
theorem Rel.mc (h : Rel j A M n tp B B2 e st) : MC (1000 * j) M := h.1.2.2.2.2.2.1
theorem Rel.lf (h : Rel j A M n tp B B2 e st) : LF (A 0 0) M := h.1.2.2.2.2.2.2
theorem Rel.r6 (h : Rel j A M n tp B B2 e st) : gR st 0 6 = B := h.2.2.1.1
theorem Rel.ck (h : Rel j A M n tp B B2 e st) : CK B A st := h.2.2.1.2.2.1
theorem Rel.cb (h : Rel j A M n tp B B2 e st) : CB 4 (A 0 0) (A 1) (A 2) st := h.2.2.1.2.2.2.1
theorem Rel.br (h : Rel j A M n tp B B2 e st) : BR 4 (A 0 0) (A 0 1) st M := h.2.2.1.2.2.2.2.1
theorem Rel.wc (h : Rel j A M n tp B B2 e st) : WC (A 0 0) (A 2) st := h.2.2.1.2.2.2.2.2.1
theorem Rel.tc (h : Rel j A M n tp B B2 e st) : TpC st n tp := h.2.2.1.2.2.2.2.2.2.1
theorem Rel.er (h : Rel j A M n tp B B2 e st) : gI st 0 8 = e := h.2.2.1.2.2.2.2.2.2.2
theorem Rel.rm (h : Rel j A M n tp B B2 e st) : RM st M := h.2.2.2.1.1
theorem Rel.kb (h : Rel j A M n tp B B2 e st) : KB (A 0 0) (A 0 1) (A 1) (A 2) st := h.2.2.2.1.2.1
theorem Rel.pl (h : Rel j A M n tp B B2 e st) : gI st 60 2 = nI (A 0 2) := h.2.2.2.1.2.2.1
theorem Rel.go (h : Rel j A M n tp B B2 e st) : gOK A (gI st 65) (gI st 66) (gI st 64) := h.2.2.2.1.2.2.2.1
theorem Rel.tr (h : Rel j A M n tp B B2 e st) : TpR st n tp := h.2.2.2.1.2.2.2.2.1
theorem Rel.re (h : Rel j A M n tp B B2 e st) : gI st 54 3 = e := h.2.2.2.1.2.2.2.2.2
theorem Rel.kB (h : Rel j A M n tp B B2 e st) : kd B = 1 ∧ 20 ≤ B := by
  rcases h.2.1 with ⟨q, _⟩ | ⟨q, _⟩
  · rw [q]; exact ⟨rfl, by omega⟩
  · rw [q]; exact ⟨rfl, by omega⟩
theorem Rel.n8 (h : Rel j A M n tp B B2 e st) : A 0 0 ≤ 8 ∧ A 0 1 ≤ 12 ∧ A 0 2 ≤ 6 := ⟨h.1.1.1, h.1.1.2.1, h.1.1.2.2.1⟩
theorem Rel.told {x y : Int32} (h : Rel j A M n tp B B2 e st) (e1 : x = y) : wX12_told 54 y st (LkE j x) := by
  subst e1
  unfold wX12_told
  intro s1 e1
  exact ⟨fun _ => (h.z e1).inv, fun q => absurd rfl q⟩
theorem Rel.toldIs {x y : Int32} (h : Rel j A M n tp B B2 e st) (hb : bz y) (e1 : x = y) : wX12_toldIs 54 y st (LkE j x) := by
  subst e1
  unfold wX12_toldIs
  intro s1 e1
  exact ⟨hb, fun _ => (h.z e1).inv, fun q => absurd rfl q⟩
theorem v50 {k : Nat} (hk : k < 50) : vp_in (nI k) 50 := (vin_iff (by omega)).mpr hk
theorem lc_3 {a1 a2 a3 a4 a5 : Int32} (h : Rel j A M n tp B B2 e st) : wLc_3 a1 a2 a3 a4 a5 st (Inv (j + 1)) := h.told (h.er.trans h.re.symm)
theorem lc_4 {a1 a2 a3 a4 a5 : Int32} (h : Rel j A M n tp B B2 e st) : wLc_4 a1 a2 a3 a4 a5 st (Inv (j + 1)) := h.told (h.br.w0.trans h.kb.1.symm)
theorem lc_5 {a1 a2 a3 a4 a5 : Int32} (h : Rel j A M n tp B B2 e st) : wLc_5 a1 a2 a3 a4 a5 st (Inv (j + 1)) := h.told (h.br.p4.trans h.kb.2.1.symm)
theorem lc_6 {a1 a2 a3 a4 a5 : Int32} (h : Rel j A M n tp B B2 e st) : wLc_6 a1 a2 a3 a4 a5 st (Inv (j + 1)) := by
  unfold wLc_6 wX9_plans
  rw [h.r6]
  refine ⟨h.kB.1, ?_⟩
  intro c ec
  rw [ec]
  exact h.told (h.ck.1.trans h.pl.symm)
theorem lc_10 {a1 a2 a3 a4 a5 : Int32} (h : Rel j A M n tp B B2 e st) : wLc_10 a1 a2 a3 a4 a5 st (Inv (j + 1)) := by
  unfold wLc_10 wX9_walkersNear wX12_walkersNear
  exact c_countNear (b := 4) h.bb h.mb h.br (r_near h.bb h.mb h.kb h.rm (h.told rfl))
theorem lc_14 {a1 a2 a3 a4 a5 : Int32} (h : Rel j A M n tp B B2 e st) : wLc_14 a1 a2 a3 a4 a5 st (Inv (j + 1)) := by
  unfold wLc_14 wX9_missingPlanks wX12_missingPlanks
  exact c_missing (b := 4) h.bb h.mb h.br (r_missing h.bb h.mb h.kb h.rm (h.told rfl))
theorem lc_16 {a1 a2 a3 a4 a5 : Int32} (h : Rel j A M n tp B B2 e st) : wLc_16 a1 a2 a3 a4 a5 st (Inv (j + 1)) := by
  unfold wLc_16 wX9_isPassable wX12_isPassable
  exact c_pass (b := 4) h.bb h.mb h.br (r_canPass h.bb h.mb h.kb h.rm (h.toldIs bI_bz rfl))
theorem lc_18 {a1 a2 a3 a4 a5 : Int32} (h : Rel j A M n tp B B2 e st) : wLc_18 a1 a2 a3 a4 a5 st (Inv (j + 1)) := by
  unfold wLc_18 wX9_isLampNear wX12_isLampNear wX12_isLampNear_L15
  have la := h.mb.la
  have g1 : gI st 4 7 = nI (1 - M 0) := h.br.la
  have g2 : gI st 56 ((0 : Int32).toNatClampNeg) = nI (M 0) := h.rm 0 (by omega)
  have q : M 0 = 0 ∨ M 0 = 1 := by omega
  rw [g1]
  show bz (nI (1 - M 0)) ∧ vp_in 0 50 ∧ (¬ gI st 56 ((0 : Int32).toNatClampNeg) = 0 → wX12_toldIs 54 0 st (LkE j (nI (1 - M 0)))) ∧ (gI st 56 ((0 : Int32).toNatClampNeg) = 0 → wX12_toldIs 54 1 st (LkE j (nI (1 - M 0))))
  rw [g2]
  rcases q with q | q
  · rw [q]
    exact ⟨Or.inr rfl, v50 (k := 0) (by omega), fun w => absurd rfl w, fun _ => h.toldIs (Or.inr rfl) rfl⟩
  · rw [q]
    exact ⟨Or.inl rfl, v50 (k := 0) (by omega), fun _ => h.toldIs (Or.inl rfl) rfl, fun w => absurd w (by decide)⟩
theorem lc_19 {a1 a2 a3 a4 a5 : Int32} (h : Rel j A M n tp B B2 e st) : wLc_19 a1 a2 a3 a4 a5 st (Inv (j + 1)) := ⟨v50 (k := 1) (by omega), h.told (h.br.oi.trans (h.rm 1 (by omega)).symm)⟩
theorem lc_20 {a1 a2 a3 a4 a5 : Int32} (h : Rel j A M n tp B B2 e st) : wLc_20 a1 a2 a3 a4 a5 st (Inv (j + 1)) := ⟨v50 (k := 2) (by omega), h.told (h.br.ni.trans (h.rm 2 (by omega)).symm)⟩
theorem lc_21 {a1 a2 a3 a4 a5 : Int32} (h : Rel j A M n tp B B2 e st) : wLc_21 a1 a2 a3 a4 a5 st (Inv (j + 1)) := ⟨v50 (k := 3) (by omega), h.told (h.br.m10.trans (h.rm 3 (by omega)).symm)⟩
theorem lc_22 {a1 a2 a3 a4 a5 : Int32} (h : Rel j A M n tp B B2 e st) : wLc_22 a1 a2 a3 a4 a5 st (Inv (j + 1)) := by
  unfold wLc_22 wX9_isWeakNight wX12_isWeakNight
  exact c_weak (b := 4) h.br (r_isWeak h.rm (h.toldIs bI_bz rfl))
theorem lc_28 {a1 a2 a3 a4 a5 : Int32} (h : Rel j A M n tp B B2 e st) : wLc_28 a1 a2 a3 a4 a5 st (Inv (j + 1)) := ⟨v50 (k := 4) (by omega), h.told (h.br.ov.trans (h.rm 4 (by omega)).symm)⟩
theorem lc_29 {a1 a2 a3 a4 a5 : Int32} (h : Rel j A M n tp B B2 e st) : wLc_29 a1 a2 a3 a4 a5 st (Inv (j + 1)) := ⟨v50 (k := 5) (by omega), h.told (h.br.fe.trans (h.rm 5 (by omega)).symm)⟩
theorem lc_30 {a1 a2 a3 a4 a5 : Int32} (h : Rel j A M n tp B B2 e st) : wLc_30 a1 a2 a3 a4 a5 st (Inv (j + 1)) := ⟨v50 (k := 6) (by omega), h.told (h.br.no.trans (h.rm 6 (by omega)).symm)⟩
/-! a throw, an answer -/
theorem LkI.ok {r4 : Int32} (h : Rel j A M n tp B B2 e st) (h6 : gI st 54 0 = 0) (hj : gJ st 67 0 = r4.toInt64) : LkI j 0 r4 st := by
  unfold LkI wX12_thrown
  rw [h6]
  exact FinI.ok hj h.inv
theorem LkB.ok {r4 : Int32} (h : Rel j A M n tp B B2 e st) (h6 : gI st 54 0 = 0) (hj : gJ st 67 0 = if r4 = 0 then 0 else 1) : LkB j 0 r4 st := by
  unfold LkB wX12_thrown
  rw [h6]
  exact FinB.ok hj h.inv
theorem LkI.bad {t r4 : Int32} (h : Rel j A M n tp B B2 e st) (ht : t ≠ 0) (e1 : s1 = uI st 54 0 t) : LkI j t r4 s1 := by
  unfold LkI wX12_thrown
  rw [show gI s1 54 0 = t from by rw [e1, gI_uI, if_pos ⟨rfl, rfl⟩]]
  exact FinI.bad ht (h.z e1).inv
theorem LkB.bad {t r4 : Int32} (h : Rel j A M n tp B B2 e st) (ht : t ≠ 0) (e1 : s1 = uI st 54 0 t) : LkB j t r4 s1 := by
  unfold LkB wX12_thrown
  rw [show gI s1 54 0 = t from by rw [e1, gI_uI, if_pos ⟨rfl, rfl⟩]]
  exact FinB.bad ht (h.z e1).inv
theorem c_rqT {k m : Nat} (g : gI st 4 0 = nI m) (hk : k < m) (hm : m < 2 ^ 30) (hq : Qv st) : wX9_requireWalker 0 (nI k) st Qv X := by
  unfold wX9_requireWalker
  refine ⟨fun q => absurd q (nI_pos (by omega)), fun _ => ⟨fun _ => hq, fun q => absurd ?_ q⟩⟩
  show nI k < gI st 4 0
  rw [g]; exact nI_lt hk (by omega)
theorem c_rqF {m : Nat} {p : Int32} (g : gI st 4 0 = nI m) (ho : Out m p) (hx : X "java/lang/IndexOutOfBoundsException" st) : wX9_requireWalker 0 p st Qv X := by
  unfold wX9_requireWalker wX9_requireWalker_L15
  rcases ho with h | h
  · exact ⟨fun _ => hx, fun q => absurd h q⟩
  · refine ⟨fun _ => hx, fun _ => ⟨fun q => absurd (?_ : p < nI m) h.2, fun _ => hx⟩⟩
    rw [← g]; exact q
theorem c_rpT {k m : Nat} (g : gI st 4 4 = nI m) (hk : k < m) (hm : m < 2 ^ 30) (hq : Qv st) : wX9_requirePlank 0 (nI k) st Qv X := by
  unfold wX9_requirePlank
  refine ⟨fun q => absurd q (nI_pos (by omega)), fun _ => ⟨fun _ => hq, fun q => absurd ?_ q⟩⟩
  show nI k < gI st 4 4
  rw [g]; exact nI_lt hk (by omega)
theorem c_rpF {m : Nat} {p : Int32} (g : gI st 4 4 = nI m) (ho : Out m p) (hx : X "java/lang/IndexOutOfBoundsException" st) : wX9_requirePlank 0 p st Qv X := by
  unfold wX9_requirePlank wX9_requirePlank_L15
  rcases ho with h | h
  · exact ⟨fun _ => hx, fun q => absurd h q⟩
  · refine ⟨fun _ => hx, fun _ => ⟨fun q => absurd (?_ : p < nI m) h.2, fun _ => hx⟩⟩
    rw [← g]; exact q
theorem c_rlT {k m c : Nat} (r6 : gR st 0 6 = c) (kc : kd c = 1) (g : gI st c 9 = nI m) (hk : k < m) (hm : m < 2 ^ 30) (hq : Qv st) : wX9_requirePlan 0 (nI k) st Qv X := by
  unfold wX9_requirePlan
  rw [r6]
  refine ⟨fun q => absurd q (nI_pos (by omega)), fun _ => ⟨kc, ?_⟩⟩
  intro c1 ec
  rw [ec, g]
  exact ⟨fun _ => hq, fun q => absurd (nI_lt hk (by omega)) q⟩
theorem c_rlF {m c : Nat} {p : Int32} (r6 : gR st 0 6 = c) (kc : kd c = 1) (g : gI st c 9 = nI m) (ho : Out m p) (hx : X "java/lang/IndexOutOfBoundsException" st) : wX9_requirePlan 0 p st Qv X := by
  unfold wX9_requirePlan wX9_requirePlan_L15
  rw [r6]
  rcases ho with h | h
  · exact ⟨fun _ => hx, fun q => absurd h q⟩
  · refine ⟨fun _ => hx, fun _ => ⟨kc, ?_⟩⟩
    intro c1 ec
    rw [ec, g]
    exact ⟨fun q => absurd q h.2, fun _ => hx⟩
/-- the answer of a call is put by -/
theorem p_ok {v : Int32} (h : Rel j A M n tp B B2 e st) (hq : ∀ s4, Rel j A M n tp B B2 e s4 → gJ s4 67 0 = v.toInt64 → Q 0 s4) : vp_in 0 1 ∧ ∀ st4, st4 = uJ st 67 (0 : Int32).toNatClampNeg ((v : Int32).toInt64) → Q 0 st4 := by
  refine ⟨v01, ?_⟩
  intro s4 e4
  exact hq s4 (h.uj e4) (by rw [e4, gJ_uJ, if_pos ⟨rfl, rfl⟩])
theorem p_okB {b : Bool} {L : Int64 → Int32 → St → (Int32 → St → Prop) → Prop} (hL : ∀ v s, (vp_in 0 1 ∧ ∀ st4, st4 = uJ s 67 (0 : Int32).toNatClampNeg v → Q 0 st4) → L v 0 s Q) (h : Rel j A M n tp B B2 e st) (hq : ∀ s4, Rel j A M n tp B B2 e s4 → gJ s4 67 0 = (if bI b = 0 then 0 else 1) → Q 0 s4) : (bI b = 0 → L 0 0 st Q) ∧ (¬ bI b = 0 → L 1 0 st Q) := by
  refine ⟨fun q => hL 0 st ⟨v01, ?_⟩, fun q => hL 1 st ⟨v01, ?_⟩⟩
  · intro s4 e4
    exact hq s4 (h.uj e4) (by rw [e4, gJ_uJ, if_pos ⟨rfl, rfl⟩, if_pos q])
  · intro s4 e4
    exact hq s4 (h.uj e4) (by rw [e4, gJ_uJ, if_pos ⟨rfl, rfl⟩, if_neg q])
theorem z54 {v : Int32} (e1 : s1 = uI st 54 0 v) : gI s1 54 0 = v := by rw [e1, gI_uI, if_pos ⟨rfl, rfl⟩]
theorem z67 {v : Int32} (e1 : s1 = uI st 54 0 v) : gJ s1 67 0 = gJ st 67 0 := by rw [e1, gJ_uI]
theorem lc_7 {a1 a2 a3 a4 a5 : Int32} (h : Rel j A M n tp B B2 e st) : wLc_7 a1 a2 a3 a4 a5 st (Inv (j + 1)) := by
  show wL_weightOf 0 a1 67 st (KI j (wX12_weightOf 54 a1))
  unfold wL_weightOf wX9_weightOf
  have n8 := h.n8
  rcases i_rng (A 0 0) (by omega) a1 with ⟨k, hk, rfl⟩ | ho
  · refine c_rqT h.br.w0 hk (by omega) ⟨(vin_iff (by omega)).mpr (by omega), ?_⟩
    rw [nI_clamp (by omega)]
    refine p_ok h (fun s4 h4 g4 => ?_)
    show wX12_weightOf 54 (nI k) s4 (LkI j 0)
    unfold wX12_weightOf wX12_isWalker
    intro s1 e1
    have h1 := h4.z e1
    refine r_inT (m := A 0 0) (by omega) hk (by rw [h1.kb.1]) ⟨fun q => absurd q (by decide), fun _ => ⟨(vin_iff (by omega)).mpr (by omega), ?_⟩⟩
    rw [nI_clamp (by omega)]
    refine LkI.ok h1 (z54 e1) ?_
    rw [z67 e1, g4]
    congr 1
    exact (h.cb.1 k hk).trans (h1.kb.2.2.1 k hk).symm
  · refine c_rqF h.br.w0 ho ⟨rfl, ?_⟩
    show wX12_weightOf 54 a1 st (LkI j 1)
    unfold wX12_weightOf wX12_isWalker
    intro s1 e1
    have h1 := h.z e1
    refine r_inF (m := A 0 0) (by omega) ho (by rw [h1.kb.1]) ⟨fun _ => ?_, fun q => absurd rfl q⟩
    unfold wX12_fail
    intro s2 e2
    exact LkI.bad h1 (by decide) e2
theorem lc_8 {a1 a2 a3 a4 a5 : Int32} (h : Rel j A M n tp B B2 e st) : wLc_8 a1 a2 a3 a4 a5 st (Inv (j + 1)) := by
  show wL_minutesOf 0 a1 67 st (KI j (wX12_minutesOf 54 a1))
  unfold wL_minutesOf wX9_minutesOf
  have n8 := h.n8
  rcases i_rng (A 0 0) (by omega) a1 with ⟨k, hk, rfl⟩ | ho
  · refine c_rqT h.br.w0 hk (by omega) ⟨(vin_iff (by omega)).mpr (by omega), ?_⟩
    rw [nI_clamp (by omega)]
    refine p_ok h (fun s4 h4 g4 => ?_)
    show wX12_minutesOf 54 (nI k) s4 (LkI j 0)
    unfold wX12_minutesOf wX12_isWalker
    intro s1 e1
    have h1 := h4.z e1
    refine r_inT (m := A 0 0) (by omega) hk (by rw [h1.kb.1]) ⟨fun q => absurd q (by decide), fun _ => ⟨(vin_iff (by omega)).mpr (by omega), ?_⟩⟩
    rw [nI_clamp (by omega)]
    refine LkI.ok h1 (z54 e1) ?_
    rw [z67 e1, g4]
    congr 1
    exact (h.cb.2 k hk).trans (h1.kb.2.2.2 k hk).symm
  · refine c_rqF h.br.w0 ho ⟨rfl, ?_⟩
    show wX12_minutesOf 54 a1 st (LkI j 1)
    unfold wX12_minutesOf wX12_isWalker
    intro s1 e1
    have h1 := h.z e1
    refine r_inF (m := A 0 0) (by omega) ho (by rw [h1.kb.1]) ⟨fun _ => ?_, fun q => absurd rfl q⟩
    unfold wX12_fail
    intro s2 e2
    exact LkI.bad h1 (by decide) e2
theorem lc_9 {a1 a2 a3 a4 a5 : Int32} (h : Rel j A M n tp B B2 e st) : wLc_9 a1 a2 a3 a4 a5 st (Inv (j + 1)) := by
  show wL_isNear 0 a1 67 st (fun r2 st1 => wX12_isNear 54 a1 st1 (fun r4 st3 => LkB j r2 r4 st3))
  unfold wL_isNear wX9_isNear
  have n8 := h.n8
  rcases i_rng (A 0 0) (by omega) a1 with ⟨k, hk, rfl⟩ | ho
  · refine c_rqT h.br.w0 hk (by omega) (c_near (b := 4) h.bb h.br hk ?_)
    refine p_okB (L := fun v w s Q => wL_isNear_L15 0 (nI k) 67 v w s Q) (fun v s q => q) h (fun s4 h4 g4 => ?_)
    unfold wX12_isNear wX12_isWalker
    intro s1 e1
    have h1 := h4.z e1
    have si := h.mb.si (k := k) (by omega)
    have g : gI s1 56 (8 + k) = nI (M (8 + k)) := h1.rm _ (by omega)
    refine r_inT (m := A 0 0) (by omega) hk (by rw [h1.kb.1]) ⟨fun q => absurd q (by decide), fun _ => ?_⟩
    rw [show (8 : Int32) + nI k = nI (8 + k) from nI_add 8 k]
    refine ⟨v50 (by omega), ?_⟩
    rw [nI_clamp (by omega)]
    rw [show gI s1 (54 + 2) (8 + k) = nI (M (8 + k)) from g]
    refine ⟨fun q => ?_, fun q => ?_⟩
    · have w : ¬ M (8 + k) = 0 := fun w => q (by rw [w]; rfl)
      refine LkB.ok h1 (z54 e1) ?_
      rw [z67 e1, g4, decide_eq_false w]; rfl
    · have w : M (8 + k) = 0 := (nI_eq (b := 0) (by omega) (by omega)).mp q
      refine LkB.ok h1 (z54 e1) ?_
      rw [z67 e1, g4, decide_eq_true w]; rfl
  · refine c_rqF h.br.w0 ho ⟨rfl, ?_⟩
    unfold wX12_isNear wX12_isWalker
    intro s1 e1
    have h1 := h.z e1
    refine r_inF (m := A 0 0) (by omega) ho (by rw [h1.kb.1]) ⟨fun _ => ?_, fun q => absurd rfl q⟩
    unfold wX12_failed
    intro s2 e2
    exact LkB.bad h1 (by decide) e2
theorem lc_11 {a1 a2 a3 a4 a5 : Int32} (h : Rel j A M n tp B B2 e st) : wLc_11 a1 a2 a3 a4 a5 st (Inv (j + 1)) := by
  show wL_strengthOf 0 a1 67 st (KI j (wX12_strengthOf 54 a1))
  unfold wL_strengthOf wX9_strengthOf
  have n8 := h.n8
  rcases i_rng (A 0 1) (by omega) a1 with ⟨k, hk, rfl⟩ | ho
  · refine c_rpT h.br.p4 hk (by omega) ⟨(vin_iff (by omega)).mpr (by omega), ?_⟩
    rw [nI_clamp (by omega)]
    refine p_ok h (fun s4 h4 g4 => ?_)
    show wX12_strengthOf 54 (nI k) s4 (LkI j 0)
    unfold wX12_strengthOf wX12_isPlank
    intro s1 e1
    have h1 := h4.z e1
    refine r_inT (m := A 0 1) (by omega) hk (by rw [h1.kb.2.1]) ⟨fun q => absurd q (by decide), fun _ => ?_⟩
    rw [show (16 : Int32) + nI k = nI (16 + k) from nI_add 16 k]
    refine ⟨v50 (by omega), ?_⟩
    rw [nI_clamp (by omega)]
    refine LkI.ok h1 (z54 e1) ?_
    rw [z67 e1, g4]
    congr 1
    exact (h.br.ss hk).trans (h1.rm _ (by omega)).symm
  · refine c_rpF h.br.p4 ho ⟨rfl, ?_⟩
    show wX12_strengthOf 54 a1 st (LkI j 1)
    unfold wX12_strengthOf wX12_isPlank
    intro s1 e1
    have h1 := h.z e1
    refine r_inF (m := A 0 1) (by omega) ho (by rw [h1.kb.2.1]) ⟨fun _ => ?_, fun q => absurd rfl q⟩
    unfold wX12_fail
    intro s2 e2
    exact LkI.bad h1 (by decide) e2
theorem lc_12 {a1 a2 a3 a4 a5 : Int32} (h : Rel j A M n tp B B2 e st) : wLc_12 a1 a2 a3 a4 a5 st (Inv (j + 1)) := by
  show wL_bears 0 a1 67 st (KI j (wX12_bears 54 a1))
  unfold wL_bears wX9_bears
  have n8 := h.n8
  rcases i_rng (A 0 1) (by omega) a1 with ⟨k, hk, rfl⟩ | ho
  · refine c_rpT h.br.p4 hk (by omega) (c_load (b := 4) h.bb h.mb h.br hk ?_)
    refine p_ok h (fun s4 h4 g4 => ?_)
    show wX12_bears 54 (nI k) s4 (LkI j 0)
    unfold wX12_bears wX12_isPlank
    intro s1 e1
    have h1 := h4.z e1
    refine r_inT (m := A 0 1) (by omega) hk (by rw [h1.kb.2.1]) ⟨fun q => absurd q (by decide), fun _ => r_bear h1.mb h1.rm (by omega) (LkI.ok h1 (z54 e1) ?_)⟩
    rw [z67 e1, g4]
  · refine c_rpF h.br.p4 ho ⟨rfl, ?_⟩
    show wX12_bears 54 a1 st (LkI j 1)
    unfold wX12_bears wX12_isPlank
    intro s1 e1
    have h1 := h.z e1
    refine r_inF (m := A 0 1) (by omega) ho (by rw [h1.kb.2.1]) ⟨fun _ => ?_, fun q => absurd rfl q⟩
    unfold wX12_fail
    intro s2 e2
    exact LkI.bad h1 (by decide) e2
theorem lc_13 {a1 a2 a3 a4 a5 : Int32} (h : Rel j A M n tp B B2 e st) : wLc_13 a1 a2 a3 a4 a5 st (Inv (j + 1)) := by
  show wL_isRotten 0 a1 67 st (fun r2 st1 => wX12_isRotten 54 a1 st1 (fun r4 st3 => LkB j r2 r4 st3))
  unfold wL_isRotten wX9_isRotten
  have n8 := h.n8
  rcases i_rng (A 0 1) (by omega) a1 with ⟨k, hk, rfl⟩ | ho
  · have ro := h.mb.ro (k := k) (by omega)
    have gr : gI st (4 + 4) k = nI (M (28 + k)) := h.br.rr hk
    have eb : nI (M (28 + k)) = bI (decide (M (28 + k) = 1)) := by
      have q : M (28 + k) = 0 ∨ M (28 + k) = 1 := by omega
      rcases q with q | q
      · rw [q]; rfl
      · rw [q]; rfl
    refine c_rpT h.br.p4 hk (by omega) ⟨(vin_iff (by omega)).mpr (by omega), ?_⟩
    rw [nI_clamp (by omega)]
    rw [show gI st ((0 + 4) + 4) k = bI (decide (M (28 + k) = 1)) from gr.trans eb]
    refine ⟨bI_bz, ?_⟩
    refine p_okB (L := fun v w s Q => wL_isRotten_L15 0 (nI k) 67 v w s Q) (fun v s q => q) h (fun s4 h4 g4 => ?_)
    unfold wX12_isRotten wX12_isPlank
    intro s1 e1
    have h1 := h4.z e1
    have g : gI s1 56 (28 + k) = nI (M (28 + k)) := h1.rm _ (by omega)
    refine r_inT (m := A 0 1) (by omega) hk (by rw [h1.kb.2.1]) ⟨fun q => absurd q (by decide), fun _ => ?_⟩
    rw [show (28 : Int32) + nI k = nI (28 + k) from nI_add 28 k]
    refine ⟨v50 (by omega), ?_⟩
    rw [nI_clamp (by omega)]
    rw [show gI s1 (54 + 2) (28 + k) = nI (M (28 + k)) from g]
    refine ⟨fun q => ?_, fun q => ?_⟩
    · have w : ¬ M (28 + k) = 1 := fun w => q (by rw [w]; rfl)
      refine LkB.ok h1 (z54 e1) ?_
      rw [z67 e1, g4, decide_eq_false w]; rfl
    · have w : M (28 + k) = 1 := (nI_eq (b := 1) (by omega) (by omega)).mp q
      refine LkB.ok h1 (z54 e1) ?_
      rw [z67 e1, g4, decide_eq_true w]; rfl
  · refine c_rpF h.br.p4 ho ⟨rfl, ?_⟩
    unfold wX12_isRotten wX12_isPlank
    intro s1 e1
    have h1 := h.z e1
    refine r_inF (m := A 0 1) (by omega) ho (by rw [h1.kb.2.1]) ⟨fun _ => ?_, fun q => absurd rfl q⟩
    unfold wX12_failed
    intro s2 e2
    exact LkB.bad h1 (by decide) e2
end FAC

/-! the law's cases: a rest, a plank laid, notes, the ways -/
section FA3
variable {j n B B2 nw pl : Nat} {tp wt mi M M' : Nat → Nat} {A : Bk} {e : Int32} {st st' s1 : St} {P : Nat → Prop} {Q : Int32 → St → Prop} {Qv R : St → Prop} {X : String → St → Prop}
theorem fBy2e (hp : pl ≤ 12) : ∀ {f : Nat} {M : Nat → Nat}, (fBy pl f M).2 2 = M 2 + (fBy pl f M).1 := by
  intro f
  induction f with
  | zero => intro M; rfl
  | succ f ih =>
    intro M
    unfold fBy
    split
    · rfl
    · have := ih (M := fNight pl (up M 3 (M 3 - 120)))
      rw [fNight2 hp, up_a, if_neg (by omega)] at this
      show (fBy pl f (fNight pl (up M 3 (M 3 - 120)))).2 2 = M 2 + ((fBy pl f (fNight pl (up M 3 (M 3 - 120)))).1 + 1)
      omega
theorem fGo2e {min : Nat} (hp : pl ≤ 12) : (fGo pl min M).2 2 = M 2 + (fGo pl min M).1 := by
  unfold fGo
  rw [fBy2e hp, up_a, if_neg (by omega)]
theorem SP.go {min : Nat} (h : SP j A M) (hm : min ≤ 720) : SP (j + 1) A (fGo (A 0 1) min M).2 :=
  ⟨h.1, h.2.1, h.2.2.1, h.2.2.2.1, MB.go h.2.1.2.1 h.2.2.2.2.1 hm, (MC.go h.2.1.2.1 h.2.2.2.2.2.1).mo (by omega), h.2.2.2.2.2.2.go h.2.1.1 h.2.1.2.1⟩
theorem i_rg2 (lo hi : Nat) (h1 : hi < 2 ^ 30) (h0 : lo ≤ hi) (p : Int32) : (∃ k, lo ≤ k ∧ k ≤ hi ∧ p = nI k) ∨ (p < nI lo ∨ (¬ p < nI lo ∧ ¬ p ≤ nI hi)) := by
  by_cases q : p < nI lo
  · exact Or.inr (Or.inl q)
  · by_cases q2 : p ≤ nI hi
    · have n0 : ¬ p < 0 := fun w => q (Int32.lt_of_lt_of_le w (Int32.not_lt.mp (nI_pos (by omega))))
      obtain ⟨e1, e2⟩ := i_nn n0
      rw [e1, nI_ltI (by omega) (by omega)] at q
      rw [e1, nI_leI (by omega) (by omega)] at q2
      exact Or.inl ⟨dI p, by omega, q2, e1⟩
    · exact Or.inr (Or.inr ⟨q, q2⟩)
def Out2 (lo hi : Nat) (p : Int32) : Prop := p < nI lo ∨ (¬ p < nI lo ∧ ¬ p ≤ nI hi)
theorem r_in2T {lo hi k : Nat} (h1 : lo ≤ k) (h2 : k ≤ hi) (hh : hi < 2 ^ 30) (hq : Q 1 st) : wX12_isIn (nI k) (nI lo) (nI hi) st Q := by
  unfold wX12_isIn
  exact ⟨fun q => absurd ((nI_ltI (by omega) (by omega)).mp q) (by omega), fun _ => ⟨fun q => absurd ((nI_ltI (by omega) (by omega)).mp q) (by omega), fun _ => hq⟩⟩
theorem r_in2F {lo hi : Nat} {p : Int32} (ho : Out2 lo hi p) (hq : Q 0 st) : wX12_isIn p (nI lo) (nI hi) st Q := by
  unfold wX12_isIn
  rcases ho with h | h
  · exact ⟨fun _ => hq, fun q => absurd h q⟩
  · exact ⟨fun q => absurd q h.1, fun _ => ⟨fun _ => hq, fun q => absurd (Int32.not_le.mp h.2) q⟩⟩
theorem lc_25 {a1 a2 a3 a4 a5 : Int32} (h : Rel j A M n tp B B2 e st) : wLc_25 a1 a2 a3 a4 a5 st (Inv (j + 1)) := by
  show wL_rest 0 a1 67 st (KI j (wX12_rest 54 a1))
  unfold wL_rest wX9_rest wX9_rest_L12
  have n8 := h.n8
  rcases i_rg2 1 600 (by omega) (by omega) a1 with ⟨k, hk1, hk2, rfl⟩ | ho
  · refine ⟨fun q => absurd ((nI_ltI (b := 1) (by omega) (by omega)).mp q) (by omega), fun _ => ⟨fun _ => ?_, fun q => absurd (nI_le (b := 600) hk2 (by omega)) q⟩⟩
    refine c_letGo (b := 4) h.bb h.mb (by omega) h.br (fun st2 hF hb2 => ?_)
    have h2 := h.step hF.fp (fun d q => by unfold PM at q; omega) hb2 (h.1.go (min := k) (by omega)) (h.2.2.2.2.fi hF)
    refine p_ok2 h2 (fun s4 h4 g4 => ?_)
    show wX12_rest 54 (nI k) s4 (LkI j 0)
    unfold wX12_rest
    intro s1 e1
    have h1 := h4.z e1
    refine r_in2T (lo := 1) (hi := 600) hk1 hk2 (by omega) ⟨fun _ => ⟨v50 (k := 2) (by omega), ?_⟩, fun q => absurd q (by decide)⟩
    intro x4 ex4
    have ex4 : x4 = nI (M 2) := ex4.trans (h1.rm 2 (by omega))
    refine r_goBy h1.bb h1.mb (by omega) h1.kb h1.rm (fun s5 hF5 hM5 => ⟨v50 (k := 2) (by omega), ?_⟩)
    have g5 : gI s5 56 ((2 : Int32).toNatClampNeg) = nI ((fGo (A 0 1) k M).2 2) := hM5 2 (by omega)
    refine LkI.in (h1.fin hF5 (fun d q => by unfold P56 at q; omega) hM5) ?_ ?_
    · rw [hF5.gI (by unfold P56; omega)]; exact z54 e1
    · rw [hF5.gJ, z67 e1, g4]
      congr 1
      rw [show gI s5 (54 + 2) ((2 : Int32).toNatClampNeg) = nI ((fGo (A 0 1) k M).2 2) from g5, ex4, fGo2e n8.2.1, pk_sub (by omega)]
      congr 1
      omega
  · have bad : KI j (wX12_rest 54 a1) 1 st := by
      show wX12_rest 54 a1 st (LkI j 1)
      unfold wX12_rest
      intro s1 e1
      have h1 := h.z e1
      refine r_in2F (lo := 1) (hi := 600) ho ⟨fun q => absurd rfl q, fun _ => ?_⟩
      unfold wX12_fail
      intro s2 e2
      exact LkI.bad h1 (by decide) e2
    rcases ho with q | q
    · exact ⟨fun _ => ⟨rfl, bad⟩, fun w => absurd q w⟩
    · exact ⟨fun w => absurd w q.1, fun _ => ⟨fun w => absurd w q.2, fun _ => ⟨rfl, bad⟩⟩⟩
theorem SP.lay {k s : Nat} (h : SP j A M) (hk : k < A 0 1) (hs : s ≤ 30) : SP (j + 1) A (sru M k s 0) := by
  have hp := h.2.1.2.1
  refine ⟨h.1, h.2.1, h.2.2.1, h.2.2.2.1, h.2.2.2.2.1.sr (by omega) hs (by omega) (fun q => by omega), ?_, h.2.2.2.2.2.2.sr h.2.1.1⟩
  have hc := h.2.2.2.2.2.1.mo (K2 := 1000 * (j + 1)) (by omega)
  unfold MC at hc ⊢
  rw [sru_ne (by omega) (by omega), sru_ne (by omega) (by omega), sru_ne (by omega) (by omega), sru_ne (by omega) (by omega)]
  exact hc
theorem lc_26 {a1 a2 a3 a4 a5 : Int32} (h : Rel j A M n tp B B2 e st) : wLc_26 a1 a2 a3 a4 a5 st (Inv (j + 1)) := by
  show wL_layPlank 0 a1 a2 67 st (KI j (wX12_layPlank 54 a1 a2))
  unfold wL_layPlank wX9_layPlank wX9_layPlank_L16
  have n8 := h.n8
  rcases i_rng (A 0 1) (by omega) a1 with ⟨k, hk, rfl⟩ | ho
  · rcases i_rg2 1 30 (by omega) (by omega) a2 with ⟨s, hs1, hs2, rfl⟩ | ho
    · refine c_rpT h.br.p4 hk (by omega) ⟨fun q => absurd ((nI_ltI (b := 1) (by omega) (by omega)).mp q) (by omega), fun _ => ⟨fun _ => ⟨(vin_iff (by omega)).mpr (by omega), ?_⟩, fun q => absurd (nI_le (b := 30) hs2 (by omega)) q⟩⟩
      rw [nI_clamp (by omega)]
      intro x2 ex2
      have ex2 : x2 = nI (M (16 + k)) := ex2.trans (h.br.ss hk)
      refine c_lay (b := 4) h.bb h.br hk ?_
      have hb2 := h.br.sr h.bb (k := k) (s := s) (r := 0) hk (by omega)
      have hF : FI (fun d => d = 7 ∨ d = 8) st (uI (uI st (4 + 3) k (nI s)) (4 + 4) k (nI 0)) := (FI.u (P := fun d => d = 7 ∨ d = 8) (Or.inl rfl)).tr (FI.u (P := fun d => d = 7 ∨ d = 8) (Or.inr rfl))
      have h2 := h.step hF.fp (fun d q => by omega) hb2 (h.1.lay hk hs2) (h.2.2.2.2.fi hF)
      refine p_ok2 h2 (fun s4 h4 g4 => ?_)
      show wX12_layPlank 54 (nI k) (nI s) s4 (LkI j 0)
      unfold wX12_layPlank wX12_isPlank
      intro s1 e1
      have h1 := h4.z e1
      refine r_inT (m := A 0 1) (by omega) hk (by rw [h1.kb.2.1]) ⟨fun _ => r_in2T (lo := 1) (hi := 30) hs1 hs2 (by omega) ⟨fun _ => ?_, fun q => absurd q (by decide)⟩, fun q => absurd q (by decide)⟩
      rw [show (16 : Int32) + nI k = nI (16 + k) from nI_add 16 k, show (28 : Int32) + nI k = nI (28 + k) from nI_add 28 k, nI_clamp (by omega), nI_clamp (by omega)]
      refine ⟨v50 (by omega), ?_⟩
      intro x6 ex6
      have ex6 : x6 = nI (M (16 + k)) := ex6.trans (h1.rm _ (by omega))
      refine ⟨v50 (by omega), ?_⟩
      intro s7 e7
      refine ⟨v50 (by omega), ?_⟩
      intro s8 e8
      have hM8 : RM s8 (sru M k s 0) := by rw [e8, e7]; exact h1.rm.sr
      have F8 : FI P56 s1 s8 := by rw [e8, e7]; exact (FI.u (P := P56) rfl).tr (FI.u (P := P56) rfl)
      refine LkI.in (h1.fin F8 (fun d q => by unfold P56 at q; omega) hM8) ?_ ?_
      · rw [F8.gI (by unfold P56; omega)]; exact z54 e1
      · rw [F8.gJ, z67 e1, g4, ex2, ex6]
    · have bad : KI j (wX12_layPlank 54 (nI k) a2) 2 st := by
        show wX12_layPlank 54 (nI k) a2 st (LkI j 2)
        unfold wX12_layPlank wX12_isPlank
        intro s1 e1
        have h1 := h.z e1
        refine r_inT (m := A 0 1) (by omega) hk (by rw [h1.kb.2.1]) ⟨fun _ => r_in2F (lo := 1) (hi := 30) ho ⟨fun q => absurd rfl q, fun _ => ?_⟩, fun q => absurd q (by decide)⟩
        unfold wX12_fail
        intro s2 e2
        exact LkI.bad h1 (by decide) e2
      refine c_rpT h.br.p4 hk (by omega) ?_
      rcases ho with q | q
      · exact ⟨fun _ => Or.inr ⟨rfl, bad⟩, fun w => absurd q w⟩
      · exact ⟨fun w => absurd w q.1, fun _ => ⟨fun w => absurd w q.2, fun _ => Or.inr ⟨rfl, bad⟩⟩⟩
  · refine c_rpF h.br.p4 ho (Or.inl ⟨rfl, ?_⟩)
    show wX12_layPlank 54 a1 a2 st (LkI j 1)
    unfold wX12_layPlank wX12_isPlank
    intro s1 e1
    have h1 := h.z e1
    refine r_inF (m := A 0 1) (by omega) ho (by rw [h1.kb.2.1]) ⟨fun q => absurd rfl q, fun _ => ?_⟩
    unfold wX12_fail
    intro s2 e2
    exact LkI.bad h1 (by decide) e2
theorem lc_31 {a1 a2 a3 a4 a5 : Int32} (hj : j < 512) (h : Rel j A M n tp B B2 e st) : wLc_31 a1 a2 a3 a4 a5 st (Inv (j + 1)) := by
  show wL_noteOf 0 a1 67 st (KI j (wX12_noteOf 54 a1))
  unfold wL_noteOf wX9_noteOf wX9_noteOf_L21
  have m6 : M 6 < 2 ^ 30 := by have := h.mc.2.2.2; omega
  have gm : ∀ s1, RM s1 M → (if (gI s1 (54 + 2) (6 : Int32).toNatClampNeg) < 10 then (gI s1 (54 + 2) (6 : Int32).toNatClampNeg) else 10) - 1 = nI (if M 6 < 10 then M 6 else 10) - 1 := fun s1 hr => by
    rw [show gI s1 (54 + 2) ((6 : Int32).toNatClampNeg) = nI (M 6) from hr 6 (by omega)]
    by_cases q : M 6 < 10
    · rw [if_pos q, if_pos (show nI (M 6) < 10 from nI_lt (b := 10) q (by omega))]
    · rw [if_neg q, if_neg (show ¬ nI (M 6) < 10 from fun w => q ((nI_ltI (b := 10) (by omega) (by omega)).mp w))]; rfl
  have mx : (if M 6 < 10 then M 6 else 10) ≤ 10 := by split <;> omega
  rcases i_rng (if M 6 < 10 then M 6 else 10) (by omega) a1 with ⟨k, hk, rfl⟩ | ho
  · have k6 : k < M 6 ∧ k < 10 := by split at hk <;> omega
    refine ⟨fun q => absurd q (nI_pos (by omega)), fun _ => ⟨fun q => absurd ((nI_leI (a := 10) (by omega) (by omega)).mp q) (by omega), fun _ => ⟨fun _ => ?_, fun q => absurd ?_ q⟩⟩⟩
    · refine c_read (b := 4) h.br m6 k6.2 k6.1 ?_
      refine p_ok h (fun s4 h4 g4 => ?_)
      show wX12_noteOf 54 (nI k) s4 (LkI j 0)
      unfold wX12_noteOf
      intro s1 e1
      have h1 := h4.z e1
      refine ⟨v50 (k := 6) (by omega), ?_⟩
      refine r_inT (m := if M 6 < 10 then M 6 else 10) (by omega) hk (gm s1 h1.rm) ⟨fun q => absurd q (by decide), fun _ => ?_⟩
      rw [show (40 : Int32) + nI k = nI (40 + k) from nI_add 40 k]
      refine ⟨v50 (by omega), ?_⟩
      rw [nI_clamp (by omega)]
      refine LkI.ok h1 (z54 e1) ?_
      rw [z67 e1, g4]
      congr 1
      exact (h1.rm _ (by omega)).symm
    · show nI k < gI st 4 13
      rw [h.br.no]; exact nI_lt k6.1 (by omega)
  · have bad : KI j (wX12_noteOf 54 a1) 1 st := by
      show wX12_noteOf 54 a1 st (LkI j 1)
      unfold wX12_noteOf
      intro s1 e1
      have h1 := h.z e1
      refine ⟨v50 (k := 6) (by omega), ?_⟩
      refine r_inF (m := if M 6 < 10 then M 6 else 10) (by omega) ho (gm s1 h1.rm) ⟨fun _ => ?_, fun q => absurd rfl q⟩
      unfold wX12_fail
      intro s2 e2
      exact LkI.bad h1 (by decide) e2
    rcases ho with q | q
    · exact ⟨fun _ => ⟨rfl, bad⟩, fun w => absurd q w⟩
    · refine ⟨fun w => absurd w q.1, fun _ => ⟨fun _ => ⟨rfl, bad⟩, fun w10 => ⟨fun w => absurd ?_ q.2, fun _ => ⟨rfl, bad⟩⟩⟩⟩
      have w : a1 < nI (M 6) := by rw [← h.br.no]; exact w
      obtain ⟨e1, e2⟩ := i_nn q.1
      rw [e1] at w w10 ⊢
      rw [nI_ltI (by omega) (by omega)] at w ⊢
      have w10 : ¬ 10 ≤ dI a1 := fun z => w10 (nI_le (a := 10) z (by omega))
      split <;> omega
/-! the ways over -/
theorem fFst_ne {T : Nat → Nat → Nat} {S l : Nat} (hw : WT nw mi T) (hS : S < 2 ^ nw) (hl : l ≤ 1) (h0 : S ≠ 0) (hsm : T S l ≤ 340) : fFst T mi nw S l ≠ none := by
  have O := hw.2 S l hS hl (Or.inl h0)
  rcases O.2.1 with e | ⟨n, hp⟩
  · omega
  have key : ∀ n, Pth nw mi n S l (T S l) → ∃ a b, a < nw ∧ b < nw ∧ fCB T mi S l a b = true := by
    intro n
    induction n with
    | zero => rintro ⟨q, _⟩; exact absurd q h0
    | succ n ih =>
      rintro (q | ⟨a, b, w, ha, hb, he, e, q⟩)
      · exact ih q
      · have O2 := hw.2 (S ^^^ bt a b) (1 - l) (xb_lt hS ha hb) (by omega) (he.nz hl)
        have h1 := O2.2.2 n w q
        have h2 : T S l ≤ tk mi a b + T (S ^^^ bt a b) (1 - l) := by
          rcases O2.2.1 with e2 | ⟨m, hm⟩
          · omega
          · exact O.2.2 (m + 1) _ (Or.inr ⟨a, b, _, ha, hb, he, rfl, hm⟩)
        refine ⟨a, b, ha, hb, ?_⟩
        unfold fCB
        rw [Edb_iff.mpr he, decide_eq_true (by omega)]; rfl
  obtain ⟨a, b, ha, hb, hc⟩ := key n hp
  unfold fFst
  rw [fFind_ex]
  exact ⟨a, ha, isS_ne.mpr (fFind_ex.mpr ⟨b, hb, hc⟩)⟩
theorem SBt.un {S S' : Nat} (h : SBt nw M S) (h' : SBt nw M S') : S' = S := Nat.eq_of_testBit_eq (fun i => (h'.2 i).trans (h.2 i).symm)
theorem Rel.sm {S : Nat} (h : Rel j A M n tp B B2 e st) (hS : SBt (A 0 0) M S) (h0 : S ≠ 0) : ∀ S' T, SBt (A 0 0) M S' → WT (A 0 0) (A 2) T → T S' (M 0) ≤ 340 := by
  intro S' T hS' hw
  rw [hS.un hS']
  have la := h.mb.la
  have q : M 0 = 0 ∨ M 0 = 1 := by omega
  rcases q with q | q
  · rw [q]
    exact hw.sm h.n8.1 (fun k => (h.bb.2.2 k).2) hS.lt (by omega) (Or.inl ⟨rfl, h0⟩)
  · rw [q]
    obtain ⟨k, k1, k2⟩ := h.lf q
    refine hw.sm h.n8.1 (fun k => (h.bb.2.2 k).2) hS.lt (by omega) (Or.inr ⟨rfl, k, k1, ?_⟩)
    rw [hS.2 k, k2]
    simp
theorem Rel.ww {T : Nat → Nat → Nat} (h : Rel j A M n tp B B2 e st) (hF : FI P18 st st') (hW : WR (A 0 0) (A 2) st' T) : Rel j A M n tp B B2 e st' :=
  ⟨h.1, h.2.1, h.2.2.1.wc h.2.1 hF (Or.inr ⟨T, hW⟩), h.2.2.2.1.fp hF.fp (fun d q => by unfold P18 at q; omega), h.2.2.2.2.fi hF⟩
theorem WR.tw {T : Nat → Nat → Nat} (h : WR nw mi st T) : WT nw mi T := by
  obtain ⟨_, tt, _, _, _, hw⟩ := h
  exact hw
theorem lc_34 {a1 a2 a3 a4 a5 : Int32} (h : Rel j A M n tp B B2 e st) : wLc_34 a1 a2 a3 a4 a5 st (Inv (j + 1)) := by
  unfold wLc_34 wX9_fewestMinutes wX12_fewestMinutes
  refine c_few h.bb h.mb h.m1 h.cb h.br h.wc (fun s1 T S hF hW hS => ?_)
  have h1 := h.ww hF hW
  refine r_fewest h1.bb h1.mb h1.kb h1.rm hS hW.tw (fun s2 hF2 => ?_)
  exact (h1.rf hF2 (fun d q => by unfold P59 at q; omega) (h1.rm.f59 hF2)).told rfl
theorem c_some {S : Nat} (g : gI st 4 3 = nI S) (h2 : S < 2 ^ 31) (hq : S ≠ 0 → Qv st) (hx : S = 0 → X "java/lang/IllegalStateException" st) : wX9_requireSomebodyNear 0 st Qv X := by
  unfold wX9_requireSomebodyNear
  have e : gI st (0 + 4) 3 = 0 ↔ S = 0 := by
    rw [show gI st (0 + 4) 3 = nI S from g]; exact nI_eq (b := 0) (by omega) (by omega)
  rw [e]
  exact ⟨hq, hx⟩
theorem near_iff {S : Nat} (h : SBt nw M S) (h8 : nw ≤ 8) : (nI (fNear M nw) = 0) ↔ S = 0 := by
  have hn := fNear_le (M := M) (k := nw)
  rw [h.near]
  exact nI_eq (b := 0) (by omega) (by omega)
theorem lc_35 {a1 a2 a3 a4 a5 : Int32} (h : Rel j A M n tp B B2 e st) : wLc_35 a1 a2 a3 a4 a5 st (Inv (j + 1)) := by
  show wL_firstToCross 0 67 st (KI j (wX12_firstToCross 54))
  unfold wL_firstToCross wX9_firstToCross
  have n8 := h.n8
  obtain ⟨S, eS, hS⟩ := h.br.2.1
  have s256 := hS.1
  refine c_some eS (by omega) (fun h0 => ?_) (fun h0 => ⟨rfl, ?_⟩)
  · refine c_first h.bb h.mb h.m1 h.cb h.br h.wc (h.sm hS h0) (fun st' T S' hF hW hS' => ?_)
    have e' := hS.un hS'
    subst e'
    have h' := h.ww hF hW
    refine p_ok h' (fun s4 h4 g4 => ?_)
    show wX12_firstToCross 54 s4 (LkI j 0)
    unfold wX12_firstToCross
    intro s1 e1
    have h1 := h4.z e1
    refine r_near h1.bb h1.mb h1.kb h1.rm ?_
    rw [near_iff hS' n8.1]
    refine ⟨fun _ => ?_, fun q => absurd q h0⟩
    refine r_first h1.bb h1.mb h1.kb h1.rm hS' hW.tw (fun s2 hF2 _ => ?_)
    have h2 := h1.rf hF2 (fun d q => by unfold P59 at q; omega) (h1.rm.f59 hF2)
    refine LkI.ok h2 ?_ ?_
    · rw [hF2.gI (by unfold P59; omega)]; exact z54 e1
    · rw [hF2.gJ, z67 e1, g4]
  · show wX12_firstToCross 54 st (LkI j 1)
    unfold wX12_firstToCross
    intro s1 e1
    have h1 := h.z e1
    refine r_near h1.bb h1.mb h1.kb h1.rm ?_
    rw [near_iff hS n8.1]
    refine ⟨fun q => absurd h0 q, fun _ => ?_⟩
    unfold wX12_fail
    intro s2 e2
    exact LkI.bad h1 (by decide) e2
theorem lc_36 {a1 a2 a3 a4 a5 : Int32} (h : Rel j A M n tp B B2 e st) : wLc_36 a1 a2 a3 a4 a5 st (Inv (j + 1)) := by
  show wL_secondToCross 0 67 st (KI j (wX12_secondToCross 54))
  unfold wL_secondToCross wX9_secondToCross
  have n8 := h.n8
  obtain ⟨S, eS, hS⟩ := h.br.2.1
  have s256 := hS.1
  refine c_some eS (by omega) (fun h0 => ?_) (fun h0 => ⟨rfl, ?_⟩)
  · have sm := h.sm hS h0
    refine c_first h.bb h.mb h.m1 h.cb h.br h.wc sm (fun st' T S' hF hW hS' => ?_)
    have e' := hS.un hS'
    subst e'
    have h' := h.ww hF hW
    have ne := fFst_ne hW.tw hS'.lt h.mb.la h0 (sm _ _ hS' hW.tw)
    cases ef : fFst T (A 2) (A 0 0) S' (M 0) with
    | none => exact absurd ef ne
    | some a =>
      have la : a < A 0 0 := (fFind_some ef).1
      refine c_second h'.bb h'.mb h'.cb h'.br hW hS' (sm _ _ hS' hW.tw) la ?_
      refine p_ok h' (fun s4 h4 g4 => ?_)
      show wX12_secondToCross 54 s4 (LkI j 0)
      unfold wX12_secondToCross
      intro s1 e1
      have h1 := h4.z e1
      refine r_near h1.bb h1.mb h1.kb h1.rm ?_
      rw [near_iff hS' n8.1]
      refine ⟨fun _ => ?_, fun q => absurd q h0⟩
      refine r_first h1.bb h1.mb h1.kb h1.rm hS' hW.tw (fun s2 hF2 hT2 => ?_)
      rw [ef]
      have h2 := h1.rf hF2 (fun d q => by unfold P59 at q; omega) (h1.rm.f59 hF2)
      have z6 : gI s2 54 0 = 0 := by rw [hF2.gI (by unfold P59; omega)]; exact z54 e1
      have zj : gJ s2 67 0 = (oI (fSnd T (A 2) (A 0 0) S' (M 0) a)).toInt64 := by rw [hF2.gJ, z67 e1, g4]
      refine r_canBegin h2.bb h2.mb h2.kb h2.rm hS' hW.tw hT2 la la ?_
      unfold fSnd at zj
      cases eb : fCB T (A 2) S' (M 0) a a with
      | true =>
        rw [eb, if_pos rfl] at zj
        exact ⟨fun q => absurd q (by decide), fun _ => LkI.ok h2 z6 zj⟩
      | false =>
        rw [eb, if_neg (by decide)] at zj
        refine ⟨fun _ => ?_, fun q => absurd rfl q⟩
        refine lp_inv (n := A 0 0) (I := fun k s => s = (nI a, nI k, s2) ∧ ∀ b, b < k → fCB T (A 2) S' (M 0) a b = false) ?_ ?_ ⟨rfl, fun b hb => absurd hb (by omega)⟩
        · rintro k s hk ⟨rfl, hno⟩ R hR2
          show wX12_secondToCross_L36 54 R (nI a) (nI k) s2 (LkI j 0)
          unfold wX12_secondToCross_L36
          rw [h2.kb.1]
          refine ⟨fun q => absurd ((nI_leI (by omega) (by omega)).mp q) (by omega), fun _ => ?_⟩
          refine r_canBegin h2.bb h2.mb h2.kb h2.rm hS' hW.tw hT2 la hk ?_
          refine ⟨fun q => ?_, fun q => ?_⟩
          · rintro _ rfl
            rw [nI_1]
            refine hR2 _ ⟨rfl, fun b hb => ?_⟩
            by_cases ee : b = k
            · subst ee; exact bI0.mp q
            · exact hno b (by omega)
          · have qb := (Bool.not_eq_false _).mp (fun ee => q (bI0.mpr ee))
            rw [fFind_at hno qb hk] at zj
            exact LkI.ok h2 z6 zj
        · rintro s ⟨rfl, hno⟩ R
          show wX12_secondToCross_L36 54 R (nI a) (nI (A 0 0)) s2 (LkI j 0)
          unfold wX12_secondToCross_L36
          rw [h2.kb.1]
          refine ⟨fun _ => ?_, fun q => absurd (nI_le (Nat.le_refl _) (by omega)) q⟩
          rw [fFind_no hno] at zj
          exact LkI.ok h2 z6 zj
  · show wX12_secondToCross 54 st (LkI j 1)
    unfold wX12_secondToCross
    intro s1 e1
    have h1 := h.z e1
    refine r_near h1.bb h1.mb h1.kb h1.rm ?_
    rw [near_iff hS n8.1]
    refine ⟨fun q => absurd h0 q, fun _ => ?_⟩
    unfold wX12_fail
    intro s2 e2
    exact LkI.bad h1 (by decide) e2
end FA3

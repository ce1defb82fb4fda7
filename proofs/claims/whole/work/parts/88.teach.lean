/-! the law's cases: teach -/
section FA6
variable {j n B B2 : Nat} {tp M : Nat → Nat} {A : Bk} {e : Int32} {st st' s1 : St}
theorem clip_le {A : Bk} (h : WI A) (k : Nat) : fClip A 1 k ≤ 9 ∧ fClip A 2 k ≤ 20 ∧ fClip A 3 k ≤ 30 := by
  refine ⟨?_, ?_, ?_⟩
  · show (if k < A 0 0 then A 1 k else 0) ≤ 9
    split
    · next q => exact (h.1 k q).2.1
    · omega
  · show (if k < A 0 0 then A 2 k else 0) ≤ 20
    split
    · next q => exact (h.1 k q).2.2.2
    · omega
  · show (if k < A 0 1 then A 3 k else 0) ≤ 30
    split
    · next q => exact (h.2 k q).2
    · omega
theorem SP.beg {A : Bk} (hp : PI A) (hm : mI A) (hw : WI A) (h4 : 4 ≤ A 0 1) : SP j (fClip A) (fBeg (fClip A 3)) := by
  have hm' : mI (fClip A) := hm
  refine ⟨bOK_of (clip_pi hp) hm', ⟨hm.1, hm.2.1, fun k => ⟨(clip_le hw k).1, (clip_le hw k).2.1⟩⟩, fun k hk => ?_, h4, MB.beg (fun k _ => (clip_le hw k).2.2), ?_, fun q => ?_⟩
  · have hk : k < A 0 0 := hk
    show 1 ≤ (if k < A 0 0 then A 2 k else 0)
    rw [if_pos hk]
    exact (hw.1 k hk).2.2.1
  · unfold MC fBeg
    refine ⟨?_, ?_, ?_, ?_⟩ <;> (rw [if_neg (by omega), if_neg (by omega)]; omega)
  · unfold fBeg at q
    rw [if_neg (by omega), if_neg (by omega)] at q
    cases q
theorem CK.cp {s0 : St} {A : Bk} (hc : CP s0 B A st) : CK B (fClip A) st := by
  refine ⟨hc.ln, hc.an, fun p hp => hc.1 4 p (Or.inr (Or.inl (by omega))), fun a ha => ⟨hc.1 5 a (Or.inr (Or.inl (by omega))), hc.1 6 a (Or.inr (Or.inl (by omega))), hc.1 7 a (Or.inr (Or.inl (by omega))), hc.1 8 a (Or.inr (Or.inl (by omega))), hc.1 9 a (Or.inr (Or.inl (by omega)))⟩, hc.tc, fun i hi => ⟨hc.2.2.1.2 i hi, (hc.mi.2.2.2.2.2.2.2.2.1 i hi).1, hc.nu i⟩⟩
theorem lc_2 (h : Rel j A M n tp B B2 e st) : wLc_2 st (Inv (j + 1)) := by
  unfold wLc_2
  have hS := h.2.1
  have k2 : kd B2 = 1 ∧ 20 ≤ B2 ∧ kd (B2 + 12) = 6 ∧ B2 + 12 < 60 := by
    rcases hS with ⟨_, q⟩ | ⟨_, q⟩
    · rw [q]; exact ⟨rfl, by omega, rfl, by omega⟩
    · rw [q]; exact ⟨rfl, by omega, rfl, by omega⟩
  have b60 := h.B60
  have ok := h.2.2.2.2
  refine c_teach (B := B2) (B2 := B) k2.2.1 k2.1 k2.2.2.1 h.kB.1 h.tc h.2.2.1.2.1 h.r6 (fun A' s1 hI hne hlt hF hr3 => ?_) (fun A' s0 s1 hI hz hc hF g08 g0j g11 hR r6 r7 g18 hcb hbr => ?_)
  · obtain ⟨F1, f2, f3, f4, f5⟩ := hF
    have n1 : ∀ d, 54 ≤ d → ¬ (PQ B2 d ∨ d = 0 ∨ d = 1) := fun d hd => by unfold PQ; unfold S20 at hS; omega
    have T1 : TpR s1 n tp := ⟨(F1.gI (n1 _ (by omega))).trans h.tr.1, h.tr.2.1, fun i hi => (F1.gI (n1 _ (by omega))).trans (h.tr.2.2.1 i hi), h.tr.2.2.2⟩
    have ok1 : rOK s1 := fun c i => by
      by_cases q : XR c i
      · unfold XR at q
        rcases q with ⟨rfl, q⟩ | ⟨rfl, q⟩ | rfl
        · rw [f5 0 i (Or.inl rfl)]; exact ok 0 i
        · have q' : i = 0 ∨ i = 1 := by omega
          rcases q' with rfl | rfl
          · rw [hr3.1]; omega
          · rw [hr3.2]; omega
        · rw [F1.gR (by unfold PQ; omega)]; exact ok 16 i
      · rw [F1.2 c i q]; exact ok c i
    refine r_teach T1 ok1 hI hlt (fun _ s2 F2 g542 g543 => ⟨fun _ => ?_, fun q => absurd rfl q⟩) (fun z => absurd z hne)
    have FF : FP (fun d => (PQ B2 d ∨ d = 0 ∨ d = 1) ∨ PE d) st s2 := (F1.mo (fun d q => Or.inl q)).tr (F2.1.mo (fun d q => Or.inr q))
    have np : ∀ d, (d ≠ 0 ∧ d ≠ 1 ∧ d ≠ 3 ∧ ¬ (B2 ≤ d ∧ d ≤ B2 + 16) ∧ d ≠ 54 ∧ ¬ (68 ≤ d ∧ d < 77)) → ¬ ((PQ B2 d ∨ d = 0 ∨ d = 1) ∨ PE d) := fun d q => by unfold PQ PE; omega
    have e0 : ∀ d, d < 54 → ¬ PE d := fun d q => by unfold PE; omega
    unfold S20 at hS
    refine ⟨A, M, 0, tp, B, B2, fEp (mBook A'), h.1.up, h.2.1, ⟨?_, ?_, ?_, ?_, ?_, ?_, ⟨?_, by omega, fun i hi => absurd hi (by omega), h.tc.2.2.2⟩, ?_⟩, ⟨?_, ⟨?_, ?_, fun k hk => ?_, fun k hk => ?_⟩, ?_, ?_, ⟨g542, by omega, fun i hi => absurd hi (by omega), h.tr.2.2.2⟩, g543⟩, ok1.fq F2⟩
    · rw [F2.gR, f5 0 6 (Or.inl rfl)]; exact h.r6
    · rw [F2.gR, f5 0 7 (Or.inl rfl)]; exact h.2.2.1.2.1
    · exact h.ck.fp FF (fun d w1 w2 => np d (by omega))
    · exact h.cb.fp FF (np _ (by omega)) (np _ (by omega))
    · exact h.br.fp FF (fun d w1 w2 => np d (by omega))
    · exact h.wc.fp FF (np _ (by omega)) (np _ (by omega))
    · rw [F2.gI (e0 _ (by omega))]; exact f4
    · rw [F2.gI (e0 _ (by omega))]; exact f2
    · exact h.rm.fp FF (np _ (by omega))
    · exact (FF.gI (np _ (by omega))).trans h.kb.1
    · exact (FF.gI (np _ (by omega))).trans h.kb.2.1
    · exact (FF.gI (np _ (by omega))).trans (h.kb.2.2.1 k hk)
    · exact (FF.gI (np _ (by omega))).trans (h.kb.2.2.2 k hk)
    · exact (FF.gI (np _ (by omega))).trans h.pl
    · have e65 : gI s2 65 = gI st 65 := funext (fun i => FF.gI (np _ (by omega)))
      have e66 : gI s2 66 = gI st 66 := funext (fun i => FF.gI (np _ (by omega)))
      have e64 : gI s2 64 = gI st 64 := funext (fun i => FF.gI (np _ (by omega)))
      rw [e65, e66, e64]; exact h.go
  · have F0 : FP (fun d => PQ B2 d ∨ d = 0 ∨ d = 1 ∨ PB 4 d ∨ d = 18) st s1 := (hc.fr.mo (fun d q => Or.inl q)).tr (hF.mo (fun d q => Or.inr q))
    have n1 : ∀ d, 54 ≤ d → ¬ (PQ B2 d ∨ d = 0 ∨ d = 1 ∨ PB 4 d ∨ d = 18) := fun d hd => by unfold PQ PB; unfold S20 at hS; omega
    have T1 : TpR s1 n tp := ⟨(F0.gI (n1 _ (by omega))).trans h.tr.1, h.tr.2.1, fun i hi => (F0.gI (n1 _ (by omega))).trans (h.tr.2.2.1 i hi), h.tr.2.2.2⟩
    have ok0 : ∀ c i, ¬ (c = 0 ∧ (i = 6 ∨ i = 7)) → gR s0 c i < 60 := fun c i w => by
      by_cases q : XR c i
      · unfold XR at q
        rcases q with q | ⟨rfl, q⟩ | rfl
        · exact absurd q w
        · have q' : i = 0 ∨ i = 1 := by omega
          rcases q' with rfl | rfl
          · rw [hc.r0]; omega
          · rw [hc.r1]; omega
        · rw [hc.fr.gR (by unfold PQ; omega)]; exact ok 16 i
      · rw [hc.fr.2 c i q]; exact ok c i
    have ok1 : rOK s1 := fun c i => by
      by_cases q : c = 0 ∧ (i = 6 ∨ i = 7)
      · obtain ⟨rfl, q⟩ := q
        rcases q with rfl | rfl
        · rw [r6]; omega
        · rw [r7]; omega
      · rw [hR c i q]; exact ok0 c i q
    refine r_teach T1 ok1 hI hc.mi.2.2.2.2.2.1 (fun hne => absurd hz hne) (fun _ s2 F2 g542 g543 hpi hwi h4 hkb hpl hgo hrm => ⟨fun _ => ?_, fun q => absurd rfl q⟩)
    have e0 : ∀ d, d < 54 → ¬ PTR d := fun d q => by unfold PTR; omega
    have n2 : ∀ d, (B2 ≤ d ∧ d ≤ B2 + 15) → ¬ (d = 0 ∨ d = 1 ∨ PB 4 d ∨ d = 18) := fun d q => by unfold PB; omega
    refine ⟨fClip (mBook A').2, fBeg (fClip (mBook A').2 3), 0, tp, B2, B, fEp (mBook A'), SP.beg hpi hc.mi hwi h4, ?_, ⟨?_, ?_, ?_, ?_, ?_, ?_, ⟨?_, by omega, fun i hi => absurd hi (by omega), h.tc.2.2.2⟩, ?_⟩, ⟨hrm, hkb, hpl, hgo, ⟨g542, by omega, fun i hi => absurd hi (by omega), h.tr.2.2.2⟩, g543⟩, ok1.fq F2⟩
    · unfold S20 at hS ⊢; omega
    · rw [F2.gR]; exact r6
    · rw [F2.gR]; exact r7
    · unfold S20 at hS
      exact ((CK.cp hc).fp hF (fun d w1 w2 => n2 d ⟨w1, w2⟩)).fp F2.1 (fun d w1 w2 => e0 d (by omega))
    · exact hcb.fp F2.1 (e0 _ (by omega)) (e0 _ (by omega))
    · exact hbr.fp F2.1 (fun d w1 w2 => e0 d (by omega))
    · exact Or.inl ((F2.gI (e0 _ (by omega))).trans g18)
    · exact (F2.gI (e0 _ (by omega))).trans g11
    · exact (F2.gI (e0 _ (by omega))).trans g08
end FA6

/-! the law's cases: the mean strength, the digest -/
theorem div_ok4 : ∀ s, s < 361 → ∀ p, p < 8 → 4 ≤ p → (FP.ddiv (FP.i2d (nI s)) (FP.i2d (nI p))) &&& 0x7fffffffffffffff ≤ 0x7ff0000000000000 := by decide +kernel
theorem div_ok8 : ∀ s, s < 361 → ∀ p, p < 13 → 8 ≤ p → (FP.ddiv (FP.i2d (nI s)) (FP.i2d (nI p))) &&& 0x7fffffffffffffff ≤ 0x7ff0000000000000 := by decide +kernel
theorem div_ok {s p : Nat} (hs : s < 361) (h4 : 4 ≤ p) (hp : p < 13) : vf_n64 (FP.ddiv (FP.i2d (nI s)) (FP.i2d (nI p))) := by
  by_cases q : p < 8
  · exact div_ok4 s hs p q h4
  · exact div_ok8 s hs p hp (by omega)
def sStr (M : Nat → Nat) : Nat → Nat
  | 0 => 0
  | k + 1 => sStr M k + M (16 + k)
def hd (x : Int64) (v : Int32) : Int64 := x * 31 + v.toInt64
section FA7
variable {j n B B2 nw pl t : Nat} {tp wt mi M : Nat → Nat} {A : Bk} {e : Int32} {st st' s1 : St} {P : Nat → Prop} {Q : Int32 → St → Prop} {Qd : UInt64 → St → Prop} {Ql : Int64 → St → Prop} {Qv R : St → Prop}
theorem sStr_le (hM : MB t M) : ∀ k, k ≤ 12 → sStr M k ≤ 30 * k := by
  intro k
  induction k with
  | zero => intro _; exact Nat.le_refl _
  | succ k ih =>
    intro hk
    have := ih (by omega)
    have := hM.st (k := k) (by omega)
    show sStr M k + M (16 + k) ≤ _
    omega
theorem c_mean (hM : MB t M) (hb : BR 4 nw pl st M) (h4 : 4 ≤ pl) (h12 : pl ≤ 12) (hq : Qd (FP.ddiv (FP.i2d (nI (sStr M pl))) (FP.i2d (nI pl))) st) : wX9_meanStrength 0 st Qd := by
  unfold wX9_meanStrength
  have g4 : gI st (0 + 4) 4 = nI pl := hb.p4
  have le := sStr_le hM pl h12
  refine lp_inv (n := pl) (I := fun k s => s = (nI (sStr M k), nI k, st)) ?_ ?_ rfl
  · rintro k s hk rfl R hR2
    show wX9_meanStrength_L4 0 R (nI (sStr M k)) (nI k) st Qd
    unfold wX9_meanStrength_L4
    rw [g4]
    refine ⟨fun q => absurd ((nI_leI (by omega) (by omega)).mp q) (by omega), fun _ => ⟨(vin_iff (by omega)).mpr (by omega), ?_⟩⟩
    rw [nI_clamp (by omega), show gI st ((0 + 4) + 3) k = nI (M (16 + k)) from hb.ss hk, show nI (sStr M k) + nI (M (16 + k)) = nI (sStr M (k + 1)) from nI_add _ _, nI_1]
    rintro _ rfl _ rfl
    exact hR2 _ rfl
  · rintro s rfl R
    show wX9_meanStrength_L4 0 R (nI (sStr M pl)) (nI pl) st Qd
    unfold wX9_meanStrength_L4
    rw [g4]
    refine ⟨fun _ => ⟨fun q => absurd ((nI_leI (b := 0) (by omega) (by omega)).mp q) (by omega), fun _ => ⟨div_ok (by omega) h4 (by omega), hq⟩⟩, fun q => absurd (nI_le (Nat.le_refl _) (by omega)) q⟩
theorem r_mean (hM : MB t M) (hr : RM st M) (hk1 : gI st 60 1 = nI pl) (h4 : 4 ≤ pl) (h12 : pl ≤ 12) (hq : Qd (FP.ddiv (FP.i2d (nI (sStr M pl))) (FP.i2d (nI pl))) st) : ∃ n, lp (fun R s => wX12_meanStrength_L9 54 R s.1 s.2.1 s.2.2 Qd) n (0, 0, st) := by
  have le := sStr_le hM pl h12
  refine lp_inv (n := pl) (I := fun k s => s = (nI (sStr M k), nI k, st)) ?_ ?_ rfl
  · rintro k s hk rfl R hR2
    show wX12_meanStrength_L9 54 R (nI (sStr M k)) (nI k) st Qd
    unfold wX12_meanStrength_L9
    rw [hk1, show (16 : Int32) + nI k = nI (16 + k) from nI_add 16 k, nI_clamp (by omega)]
    refine ⟨fun q => absurd ((nI_leI (by omega) (by omega)).mp q) (by omega), fun _ => ⟨v50 (by omega), ?_⟩⟩
    rw [show gI st (54 + 2) (16 + k) = nI (M (16 + k)) from hr _ (by omega), show nI (sStr M k) + nI (M (16 + k)) = nI (sStr M (k + 1)) from nI_add _ _, nI_1]
    rintro _ rfl _ rfl
    exact hR2 _ rfl
  · rintro s rfl R
    show wX12_meanStrength_L9 54 R (nI (sStr M pl)) (nI pl) st Qd
    unfold wX12_meanStrength_L9
    rw [hk1]
    exact ⟨fun _ => ⟨div_ok (by omega) h4 (by omega), hq⟩, fun q => absurd (nI_le (Nat.le_refl _) (by omega)) q⟩
theorem lc_41 {a1 a2 a3 a4 a5 : Int32} (h : Rel j A M n tp B B2 e st) : wLc_41 a1 a2 a3 a4 a5 st (Inv (j + 1)) := by
  unfold wLc_41
  have n8 := h.n8
  have h4 := h.1.2.2.2.1
  refine c_mean h.mb h.br h4 n8.2.1 ?_
  unfold wX12_meanStrength
  intro s1 e1
  have h1 := h.z e1
  refine r_mean h1.mb h1.rm h1.kb.2.1 h4 n8.2.1 ?_
  exact ⟨fun _ => h1.inv, fun q => ⟨fun w => absurd w q, fun _ => ⟨fun _ => h1.inv, fun w => absurd w q⟩⟩⟩
/-! the digest -/
def dv (A : Bk) (M : Nat → Nat) (f : Nat) (i : Nat) : Int32 := if i = 0 then nI (A 0 0) else if i = 1 then nI (A 0 1) else if i = 2 then nI (A 0 2) else if i = 3 then nI (1 - M 0) else if i = 10 then nI (fMiss M (A 0 1)) else if i = 11 then bI (fPassN M (A 0 1)) else if i = 12 then nI f else nI (M (i - 3))
def dgf (d : Nat → Int32) : Nat → Int64
  | 0 => 1889
  | k + 1 => hd (dgf d k) (d k)
def dgW (wt mi M : Nat → Nat) (x : Int64) : Nat → Int64
  | 0 => x
  | k + 1 => hd (hd (hd (dgW wt mi M x k) (nI (wt k))) (nI (mi k))) (bI (decide (M (8 + k) = 0)))
def dgP (M : Nat → Nat) (x : Int64) : Nat → Int64
  | 0 => x
  | k + 1 => hd (hd (hd (dgP M x k) (nI (M (16 + k)))) (nI (fBear M k))) (nI (M (28 + k)))
def dgN (M : Nat → Nat) (x : Int64) : Nat → Int64
  | 0 => x
  | k + 1 => hd (dgN M x k) (nI (M (40 + k)))
def mn (M : Nat → Nat) : Nat := if M 6 < 10 then M 6 else 10
def DG (A : Bk) (M : Nat → Nat) (f : Nat) : Int64 := dgN M (dgP M (dgW (A 1) (A 2) M (dgf (dv A M f) 13) (A 0 0)) (A 0 1)) (mn M)
theorem c_one {b : Bool} (hq : Q (bI b) st) : wX9_oneIf (bI b) st Q := by
  unfold wX9_oneIf
  cases b with
  | false => exact ⟨fun _ => hq, fun q => absurd rfl q⟩
  | true => exact ⟨fun q => absurd q (by decide), fun _ => hq⟩
theorem bI_de {m : Nat} (h : m ≤ 1) : nI m = bI (decide (m = 1)) := by
  have q : m = 0 ∨ m = 1 := by omega
  rcases q with rfl | rfl <;> rfl
theorem mn_le : mn M ≤ 10 ∧ mn M ≤ M 6 := by unfold mn; split <;> omega
theorem cd_n {x : Int64} {p1 : Int64} {R5 : Int64 × Int32 × St → Prop} (hb : BR 4 nw pl st M) (hn : M 6 < 2 ^ 30) (hq : Ql (dgN M x (mn M)) st) : ∃ n, lp (fun R s => wX9_digestRows_L159 0 p1 R s.1 s.2.1 s.2.2 Ql) n (x, 0, st) := by
  have g : gI st (0 + 4) 13 = nI (M 6) := hb.no
  have le := mn_le (M := M)
  refine lp_inv (n := mn M) (I := fun k s => s = (dgN M x k, nI k, st)) ?_ ?_ rfl
  · rintro k s hk rfl R hR2
    show wX9_digestRows_L159 0 p1 R (dgN M x k) (nI k) st Ql
    unfold wX9_digestRows_L159
    rw [g]
    refine ⟨fun q => absurd ((nI_leI (a := 10) (by omega) (by omega)).mp q) (by omega), fun _ => ⟨fun q => absurd ((nI_leI (by omega) (by omega)).mp q) (by omega), fun _ => ?_⟩⟩
    refine c_read (b := 4) hb hn (by omega) (by omega) ?_
    rw [nI_1]
    rintro _ rfl _ rfl
    exact hR2 _ rfl
  · rintro s rfl R
    show wX9_digestRows_L159 0 p1 R (dgN M x (mn M)) (nI (mn M)) st Ql
    unfold wX9_digestRows_L159
    rw [g]
    refine ⟨fun _ => hq, fun q => ⟨fun _ => hq, fun w => ?_⟩⟩
    exfalso
    unfold mn at q w
    by_cases c : M 6 < 10
    · rw [if_pos c] at w; exact w (nI_le (Nat.le_refl _) (by omega))
    · rw [if_neg c] at q; exact q (nI_le (a := 10) (Nat.le_refl 10) (by omega))
theorem cd_p {x : Int64} {p1 : Int64} (hB : BB nw pl wt mi) (hM : MB t M) (hb : BR 4 nw pl st M) (hn : M 6 < 2 ^ 30) (hq : Ql (dgN M (dgP M x pl) (mn M)) st) : ∃ n, lp (fun R s => wX9_digestRows_L82 0 p1 R s.1 s.2.1 s.2.2 Ql) n (x, 0, st) := by
  have g4 : gI st (0 + 4) 4 = nI pl := hb.p4
  have h12 := hB.2.1
  refine lp_inv (n := pl) (I := fun k s => s = (dgP M x k, nI k, st)) ?_ ?_ rfl
  · rintro k s hk rfl R hR2
    show wX9_digestRows_L82 0 p1 R (dgP M x k) (nI k) st Ql
    unfold wX9_digestRows_L82
    rw [g4]
    refine ⟨fun q => absurd ((nI_leI (by omega) (by omega)).mp q) (by omega), fun _ => ⟨(vin_iff (by omega)).mpr (by omega), ?_⟩⟩
    rw [nI_clamp (by omega), show gI st ((0 + 4) + 3) k = nI (M (16 + k)) from hb.ss hk]
    rintro _ rfl
    refine c_load (b := 4) hB hM hb hk ?_
    rintro _ rfl
    refine ⟨(vin_iff (by omega)).mpr (by omega), ?_⟩
    rw [show gI st ((0 + 4) + 4) k = nI (M (28 + k)) from hb.rr hk]
    have ro := hM.ro (k := k) (by omega)
    rw [bI_de ro]
    refine c_one ?_
    rw [← bI_de ro, nI_1]
    rintro _ rfl _ rfl
    exact hR2 _ rfl
  · rintro s rfl R
    show wX9_digestRows_L82 0 p1 R (dgP M x pl) (nI pl) st Ql
    unfold wX9_digestRows_L82
    rw [g4]
    exact ⟨fun _ => cd_n (R5 := fun _ => True) hb hn hq, fun q => absurd (nI_le (Nat.le_refl _) (by omega)) q⟩
theorem cd_w {x : Int64} (hB : BB nw pl wt mi) (hM : MB t M) (hC : CB 4 nw wt mi st) (hb : BR 4 nw pl st M) (hn : M 6 < 2 ^ 30) (hq : Ql (dgN M (dgP M (dgW wt mi M x nw) pl) (mn M)) st) : wX9_digestRows 0 x st Ql := by
  unfold wX9_digestRows
  have g0 : gI st (0 + 4) 0 = nI nw := hb.w0
  have h8 := hB.1
  refine lp_inv (n := nw) (I := fun k s => s = (dgW wt mi M x k, nI k, st)) ?_ ?_ rfl
  · rintro k s hk rfl R hR2
    show wX9_digestRows_L5 0 x R (dgW wt mi M x k) (nI k) st Ql
    unfold wX9_digestRows_L5
    rw [g0]
    refine ⟨fun q => absurd ((nI_leI (by omega) (by omega)).mp q) (by omega), fun _ => ⟨(vin_iff (by omega)).mpr (by omega), ?_⟩⟩
    rw [nI_clamp (by omega), show gI st ((0 + 4) + 1) k = nI (wt k) from hC.1 k hk, show gI st ((0 + 4) + 2) k = nI (mi k) from hC.2 k hk]
    rintro _ rfl
    refine ⟨(vin_iff (by omega)).mpr (by omega), ?_⟩
    rintro _ rfl
    refine c_near (b := 4) hB hb hk (c_one ?_)
    rw [nI_1]
    rintro _ rfl _ rfl
    exact hR2 _ rfl
  · rintro s rfl R
    show wX9_digestRows_L5 0 x R (dgW wt mi M x nw) (nI nw) st Ql
    unfold wX9_digestRows_L5
    rw [g0]
    exact ⟨fun _ => cd_p hB hM hb hn hq, fun q => absurd (nI_le (Nat.le_refl _) (by omega)) q⟩
theorem c_dgst (hj : j < 512) (h : Rel j A M n tp B B2 e st) (hq : ∀ s T S, Rel j A M n tp B B2 e s → WT (A 0 0) (A 2) T → SBt (A 0 0) M S → Ql (DG A M (fFew T S (M 0))) s) : wX9_digest 0 st Ql := by
  unfold wX9_digest
  have la := h.mb.la
  have m6 : M 6 < 2 ^ 30 := by have := h.mc.2.2.2; omega
  have g0 : gI st (0 + 4) 0 = nI (A 0 0) := h.br.w0
  have g4 : gI st (0 + 4) 4 = nI (A 0 1) := h.br.p4
  have g7 : gI st (0 + 4) 7 = nI (1 - M 0) := h.br.la
  have g8 : gI st (0 + 4) 8 = nI (M 1) := h.br.oi
  have g9 : gI st (0 + 4) 9 = nI (M 2) := h.br.ni
  have g10 : gI st (0 + 4) 10 = nI (M 3) := h.br.m10
  have g11 : gI st (0 + 4) 11 = nI (M 4) := h.br.ov
  have g12 : gI st (0 + 4) 12 = nI (M 5) := h.br.fe
  have g13 : gI st (0 + 4) 13 = nI (M 6) := h.br.no
  rw [g0, g4, h.r6]
  rintro _ rfl _ rfl
  refine ⟨h.kB.1, ?_⟩
  rintro _ rfl
  rw [h.ck.1, g7, bI_de (show 1 - M 0 ≤ 1 by omega)]
  rintro _ rfl
  refine c_one ?_
  intro x7 e7 x8 e8 x9 e9 x10 e10 x11 e11 x12 e12 x13 e13
  rw [← bI_de (show 1 - M 0 ≤ 1 by omega)] at e7
  rw [g8] at e8
  rw [g9] at e9
  rw [g10] at e10
  rw [g11] at e11
  rw [g12] at e12
  rw [g13] at e13
  subst e7 e8 e9 e10 e11 e12 e13
  refine c_missing (b := 4) h.bb h.mb h.br ?_
  rintro _ rfl
  refine c_pass (b := 4) h.bb h.mb h.br (c_one ?_)
  rintro _ rfl
  refine c_few h.bb h.mb h.m1 h.cb h.br h.wc (fun s1 T S hF hW hS => ?_)
  have h1 := h.ww hF hW
  rintro _ rfl
  exact cd_w h1.bb h1.mb h1.cb h1.br m6 (hq s1 T S h1 hW.tw hS)
/-! and by the reference -/
theorem rd_n {x : Int64} (hr : RM st M) (hn : M 6 < 2 ^ 30) (hq : Ql (dgN M x (mn M)) st) : ∃ n, lp (fun R s => wX12_digest_L338 54 R s.1 s.2.1 s.2.2 Ql) n (x, 0, st) := by
  have le := mn_le (M := M)
  have g : (if (gI st (54 + 2) (6 : Int32).toNatClampNeg) < 10 then (gI st (54 + 2) (6 : Int32).toNatClampNeg) else 10) = nI (mn M) := by
    rw [show gI st (54 + 2) ((6 : Int32).toNatClampNeg) = nI (M 6) from hr 6 (by omega)]
    unfold mn
    by_cases q : M 6 < 10
    · rw [if_pos q, if_pos (show nI (M 6) < 10 from nI_lt (b := 10) q (by omega))]
    · rw [if_neg q, if_neg (show ¬ nI (M 6) < 10 from fun w => q ((nI_ltI (b := 10) (by omega) (by omega)).mp w))]; rfl
  refine lp_inv (n := mn M) (I := fun k s => s = (dgN M x k, nI k, st)) ?_ ?_ rfl
  · rintro k s hk rfl R hR2
    show wX12_digest_L338 54 R (dgN M x k) (nI k) st Ql
    unfold wX12_digest_L338
    rw [g, show (40 : Int32) + nI k = nI (40 + k) from nI_add 40 k, nI_clamp (by omega)]
    refine ⟨v50 (k := 6) (by omega), fun q => absurd ((nI_leI (by omega) (by omega)).mp q) (by omega), fun _ => ⟨v50 (by omega), ?_⟩⟩
    rw [show gI st (54 + 2) (40 + k) = nI (M (40 + k)) from hr _ (by omega), nI_1]
    rintro _ rfl _ rfl
    exact hR2 _ rfl
  · rintro s rfl R
    show wX12_digest_L338 54 R (dgN M x (mn M)) (nI (mn M)) st Ql
    unfold wX12_digest_L338
    rw [g]
    exact ⟨v50 (k := 6) (by omega), fun _ => hq, fun q => absurd (nI_le (Nat.le_refl _) (by omega)) q⟩
theorem rd_p {x : Int64} (hM : MB t M) (hr : RM st M) (hk1 : gI st 60 1 = nI pl) (h12 : pl ≤ 12) (hn : M 6 < 2 ^ 30) (hq : Ql (dgN M (dgP M x pl) (mn M)) st) : ∃ n, lp (fun R s => wX12_digest_L267 54 R s.1 s.2.1 s.2.2 Ql) n (x, 0, st) := by
  refine lp_inv (n := pl) (I := fun k s => s = (dgP M x k, nI k, st)) ?_ ?_ rfl
  · rintro k s hk rfl R hR2
    show wX12_digest_L267 54 R (dgP M x k) (nI k) st Ql
    unfold wX12_digest_L267
    rw [hk1, show (16 : Int32) + nI k = nI (16 + k) from nI_add 16 k, show (28 : Int32) + nI k = nI (28 + k) from nI_add 28 k, nI_clamp (by omega), nI_clamp (by omega)]
    refine ⟨fun q => absurd ((nI_leI (by omega) (by omega)).mp q) (by omega), fun _ => ⟨v50 (by omega), ?_⟩⟩
    rw [show gI st (54 + 2) (16 + k) = nI (M (16 + k)) from hr _ (by omega)]
    rintro _ rfl
    refine r_bear hM hr (by omega) ?_
    rintro _ rfl
    refine ⟨v50 (by omega), ?_⟩
    rw [show gI st (54 + 2) (28 + k) = nI (M (28 + k)) from hr _ (by omega), nI_1]
    rintro _ rfl _ rfl
    exact hR2 _ rfl
  · rintro s rfl R
    show wX12_digest_L267 54 R (dgP M x pl) (nI pl) st Ql
    unfold wX12_digest_L267
    rw [hk1]
    exact ⟨fun _ => rd_n hr hn hq, fun q => absurd (nI_le (Nat.le_refl _) (by omega)) q⟩
theorem near_hd {x : Int64} {m : Nat} (h : m ≤ 1) : ((x * 31) + 1) - (nI m).toInt64 = hd x (bI (decide (m = 0))) := by
  have q : m = 0 ∨ m = 1 := by omega
  unfold hd
  rcases q with rfl | rfl
  · have a : (nI 0).toInt64 = 0 := by decide
    have b : (bI (decide (0 = 0))).toInt64 = 1 := by decide
    rw [a, b, Int64.sub_zero]
  · have a : (nI 1).toInt64 = 1 := by decide
    have b : (bI (decide (1 = 0))).toInt64 = 0 := by decide
    rw [a, b, Int64.add_sub_cancel, Int64.add_zero]
theorem rd_w {x : Int64} (hB : BB nw pl wt mi) (hM : MB t M) (hK : KB nw pl wt mi st) (hr : RM st M) (hn : M 6 < 2 ^ 30) (hq : Ql (dgN M (dgP M (dgW wt mi M x nw) pl) (mn M)) st) : ∃ n, lp (fun R s => wX12_digest_L190 54 R s.1 s.2.1 s.2.2 Ql) n (x, 0, st) := by
  have h8 := hB.1
  refine lp_inv (n := nw) (I := fun k s => s = (dgW wt mi M x k, nI k, st)) ?_ ?_ rfl
  · rintro k s hk rfl R hR2
    show wX12_digest_L190 54 R (dgW wt mi M x k) (nI k) st Ql
    unfold wX12_digest_L190
    rw [hK.1, show (8 : Int32) + nI k = nI (8 + k) from nI_add 8 k, nI_clamp (by omega), nI_clamp (by omega)]
    refine ⟨fun q => absurd ((nI_leI (by omega) (by omega)).mp q) (by omega), fun _ => ⟨(vin_iff (by omega)).mpr (by omega), ?_⟩⟩
    rw [show gI st 61 k = nI (wt k) from hK.2.2.1 k hk, show gI st 62 k = nI (mi k) from hK.2.2.2 k hk]
    rintro _ rfl
    refine ⟨(vin_iff (by omega)).mpr (by omega), ?_⟩
    rintro _ rfl
    refine ⟨v50 (by omega), ?_⟩
    rw [show gI st (54 + 2) (8 + k) = nI (M (8 + k)) from hr _ (by omega), near_hd (hM.si (by omega)), nI_1]
    rintro _ rfl _ rfl
    exact hR2 _ rfl
  · rintro s rfl R
    show wX12_digest_L190 54 R (dgW wt mi M x nw) (nI nw) st Ql
    unfold wX12_digest_L190
    rw [hK.1]
    exact ⟨fun _ => rd_p hM hr hK.2.1 hB.2.1 hn hq, fun q => absurd (nI_le (Nat.le_refl _) (by omega)) q⟩
theorem rd_a {d : Nat → Int32} (hd' : ∀ i, i < 13 → gI st 78 i = d i) (hB : BB nw pl wt mi) (hM : MB t M) (hK : KB nw pl wt mi st) (hr : RM st M) (hn : M 6 < 2 ^ 30) (hq : Ql (dgN M (dgP M (dgW wt mi M (dgf d 13) nw) pl) (mn M)) st) : ∃ n, lp (fun R s => wX12_digest_L157 54 R s.1 s.2.1 s.2.2.1 s.2.2.2 Ql) n (1889, 13, 0, st) := by
  refine lp_inv (n := 13) (I := fun k s => s = (dgf d k, 13, nI k, st)) ?_ ?_ rfl
  · rintro k s hk rfl R hR2
    show wX12_digest_L157 54 R (dgf d k) 13 (nI k) st Ql
    unfold wX12_digest_L157
    refine ⟨fun q => absurd ((nI_leI (a := 13) (by omega) (by omega)).mp q) (by omega), fun _ => ⟨(vin_iff (by omega)).mpr (by omega), ?_⟩⟩
    rw [nI_clamp (by omega), hd' k hk, nI_1]
    rintro _ rfl _ rfl _ rfl
    exact hR2 _ rfl
  · rintro s rfl R
    show wX12_digest_L157 54 R (dgf d 13) 13 (nI 13) st Ql
    unfold wX12_digest_L157
    exact ⟨fun _ => rd_w hB hM hK hr hn hq, fun q => absurd (nI_le (a := 13) (Nat.le_refl 13) (by omega)) q⟩
def P78 (d : Nat) : Prop := d = 78
/-- a row of the reference's digest, written so far -/
def W78 (s0 : St) (d : Nat → Int32) (k : Nat) (u : St) : Prop := FI P78 s0 u ∧ ∀ i, i < k → gI u 78 i = d i
theorem W78.nx {s0 u u' : St} {d : Nat → Int32} {k : Nat} {v : Int32} (h : W78 s0 d k u) (e1 : u' = uI u 78 k v) (hv : v = d k) : W78 s0 d (k + 1) u' := by
  refine ⟨h.1.tr (by rw [e1]; exact FI.u (P := P78) rfl), fun i hi => ?_⟩
  rw [e1, gI_uI]
  by_cases q : i = k
  · rw [if_pos ⟨rfl, q⟩, hv, q]
  · rw [if_neg (fun w => q w.2)]; exact h.2 i (by omega)
theorem v13 {k : Nat} (hk : k < 13) : vp_in (nI k) 13 := (vin_iff (by omega)).mpr hk
theorem r_dgst {S : Nat} {T : Nat → Nat → Nat} (hj : j < 512) (h : Rel j A M n tp B B2 e st) (hw : WT (A 0 0) (A 2) T) (hS : SBt (A 0 0) M S) (hq : ∀ s, Rel j A M n tp B B2 e s → Ql (DG A M (fFew T S (M 0))) s) : wX12_digest 54 st Ql := by
  unfold wX12_digest
  have la := h.mb.la
  have m6 : M 6 < 2 ^ 30 := by have := h.mc.2.2.2; omega
  intro s1 e1
  have h1 := h.z e1
  refine ⟨h1.2.2.2.2, ?_⟩
  intro t2 f2
  obtain ⟨d, ed⟩ : ∃ d, d = dv A M (fFew T S (M 0)) := ⟨_, rfl⟩
  have w0 : W78 s1 d 0 t2 := ⟨by rw [f2]; exact FI.s (P := P78) rfl, fun i hi => absurd hi (by omega)⟩
  have kb0 : ∀ {k : Nat} {u : St}, W78 s1 d k u → gI u 60 0 = nI (A 0 0) := fun w => (w.1.gI (by unfold P78; omega)).trans h1.kb.1
  have kb1 : ∀ {k : Nat} {u : St}, W78 s1 d k u → gI u 60 1 = nI (A 0 1) := fun w => (w.1.gI (by unfold P78; omega)).trans h1.kb.2.1
  have kb2 : ∀ {k : Nat} {u : St}, W78 s1 d k u → gI u 60 2 = nI (A 0 2) := fun w => (w.1.gI (by unfold P78; omega)).trans h1.pl
  have rm : ∀ {k : Nat} {u : St}, W78 s1 d k u → RM u M := fun w i hi => (w.1.gI (by unfold P78; omega)).trans (h1.rm i hi)
  have kb : ∀ {k : Nat} {u : St}, W78 s1 d k u → KB (A 0 0) (A 0 1) (A 1) (A 2) u := fun w => h1.kb.fi w.1 (by unfold P78; omega) (by unfold P78; omega) (by unfold P78; omega)
  refine ⟨v13 (k := 0) (by omega), ?_⟩
  intro t3 f3
  have w1 := w0.nx f3 (by rw [kb0 w0, ed]; rfl)
  refine ⟨v13 (k := 1) (by omega), ?_⟩
  intro t4 f4
  have w2 := w1.nx f4 (by rw [kb1 w1, ed]; rfl)
  refine ⟨v13 (k := 2) (by omega), ?_⟩
  intro t5 f5
  have w3 := w2.nx f5 (by rw [kb2 w2, ed]; rfl)
  refine ⟨v50 (k := 0) (by omega), v13 (k := 3) (by omega), ?_⟩
  intro t6 f6
  have w4 := w3.nx f6 (by
    rw [show gI t5 (54 + 2) ((0 : Int32).toNatClampNeg) = nI (M 0) from rm w3 0 (by omega), ed]
    exact (pk_sub la : nI 1 - nI (M 0) = nI (1 - M 0)))
  refine ⟨v50 (k := 1) (by omega), v13 (k := 4) (by omega), ?_⟩
  intro t7 f7
  have w5 := w4.nx f7 ((rm w4 1 (by omega)).trans (by rw [ed]; rfl))
  refine ⟨v50 (k := 2) (by omega), v13 (k := 5) (by omega), ?_⟩
  intro t8 f8
  have w6 := w5.nx f8 ((rm w5 2 (by omega)).trans (by rw [ed]; rfl))
  refine ⟨v50 (k := 3) (by omega), v13 (k := 6) (by omega), ?_⟩
  intro t9 f9
  have w7 := w6.nx f9 ((rm w6 3 (by omega)).trans (by rw [ed]; rfl))
  refine ⟨v50 (k := 4) (by omega), v13 (k := 7) (by omega), ?_⟩
  intro t10 f10
  have w8 := w7.nx f10 ((rm w7 4 (by omega)).trans (by rw [ed]; rfl))
  refine ⟨v50 (k := 5) (by omega), v13 (k := 8) (by omega), ?_⟩
  intro t11 f11
  have w9 := w8.nx f11 ((rm w8 5 (by omega)).trans (by rw [ed]; rfl))
  refine ⟨v50 (k := 6) (by omega), v13 (k := 9) (by omega), ?_⟩
  intro t12 f12
  have w10 := w9.nx f12 ((rm w9 6 (by omega)).trans (by rw [ed]; rfl))
  refine r_missing h1.bb h1.mb (kb w10) (rm w10) ?_
  refine ⟨v13 (k := 10) (by omega), ?_⟩
  intro t15 f15
  have w11 := w10.nx f15 (by rw [ed]; rfl)
  refine r_canPass h1.bb h1.mb (kb w11) (rm w11) ?_
  have go : ∀ x : Int32, x = bI (fPassN M (A 0 1)) → wX12_digest_L132 54 x 11 t15 (fun r u => rOK u ∧ Ql r u) := by
    intro x ex
    unfold wX12_digest_L132
    refine ⟨v13 (k := 11) (by omega), ?_⟩
    intro t18 f18
    have w12 := w11.nx f18 (by rw [ex, ed]; rfl)
    refine r_fewest h1.bb h1.mb (kb w12) (rm w12) hS hw (fun t19 hF19 => ?_)
    have kb19 := (kb w12).f59 hF19
    have rm19 := (rm w12).f59 hF19
    refine ⟨v13 (k := 12) (by omega), ?_⟩
    intro t21 f21
    have f21 : t21 = uI t19 78 12 (nI (fFew T S (M 0))) := f21
    have F21 : FI (fun d => d = 59 ∨ d = 78) s1 t21 := ((w12.1.mo (fun d q => by unfold P78 at q; exact Or.inr q)).tr (hF19.mo (fun d q => by unfold P59 at q; exact Or.inl q))).tr (by rw [f21]; exact FI.u (P := fun d => d = 59 ∨ d = 78) (Or.inr rfl))
    have kb21 : KB (A 0 0) (A 0 1) (A 1) (A 2) t21 := h1.kb.fi F21 (by omega) (by omega) (by omega)
    have rm21 : RM t21 M := fun i hi => (F21.gI (by omega)).trans (h1.rm i hi)
    have h21 : Rel j A M n tp B B2 e t21 := ⟨h1.1, h1.2.1, h1.2.2.1.fp h1.2.1 F21.fp (fun d q => by omega), h1.2.2.2.1.ch F21.fp (fun d q => by omega) (fun i _ => F21.gI (by omega)) rm21, h1.2.2.2.2.fi F21⟩
    refine rd_a (d := d) (fun i hi => ?_) h1.bb h1.mb kb21 rm21 m6 ⟨h21.2.2.2.2, by rw [ed]; exact hq t21 h21⟩
    rw [f21, gI_uI]
    by_cases q : i = 12
    · rw [if_pos ⟨rfl, q⟩, q, ed]; rfl
    · rw [if_neg (fun w => q w.2), hF19.gI (by unfold P59; omega)]
      exact w12.2 i (by omega)
  cases hp : fPassN M (A 0 1) with
  | false => exact ⟨fun _ => go 0 (by rw [hp]; rfl), fun q => absurd rfl q⟩
  | true => exact ⟨fun q => absurd q (by decide), fun _ => go 1 (by rw [hp]; rfl)⟩
theorem lc_42 {a1 a2 a3 a4 a5 : Int32} (hj : j < 512) (h : Rel j A M n tp B B2 e st) : wLc_42 a1 a2 a3 a4 a5 st (Inv (j + 1)) := by
  unfold wLc_42
  refine c_dgst hj h (fun s T S hs hw hS => r_dgst hj hs hw hS (fun s2 h2 => ⟨fun _ => h2.inv, fun q => absurd ((lg_cmp_eq _ _).mpr rfl) q⟩))
end FA7

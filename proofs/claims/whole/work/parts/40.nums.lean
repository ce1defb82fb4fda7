/-! PHASE 2: numbers. Literals as numbers, reading behind a write, loops by an invariant -/
theorem li0 : (0 : Int32) = nI 0 := rfl
theorem li1 : (1 : Int32) = nI 1 := rfl
theorem li2 : (2 : Int32) = nI 2 := rfl
theorem li3 : (3 : Int32) = nI 3 := rfl
theorem li4 : (4 : Int32) = nI 4 := rfl
theorem li5 : (5 : Int32) = nI 5 := rfl
theorem li6 : (6 : Int32) = nI 6 := rfl
theorem li7 : (7 : Int32) = nI 7 := rfl
theorem li8 : (8 : Int32) = nI 8 := rfl
theorem li9 : (9 : Int32) = nI 9 := rfl
theorem li10 : (10 : Int32) = nI 10 := rfl
theorem li11 : (11 : Int32) = nI 11 := rfl
theorem li12 : (12 : Int32) = nI 12 := rfl
theorem li13 : (13 : Int32) = nI 13 := rfl
theorem li14 : (14 : Int32) = nI 14 := rfl
theorem li15 : (15 : Int32) = nI 15 := rfl
theorem li16 : (16 : Int32) = nI 16 := rfl
theorem li17 : (17 : Int32) = nI 17 := rfl
theorem li18 : (18 : Int32) = nI 18 := rfl
theorem li19 : (19 : Int32) = nI 19 := rfl
theorem li20 : (20 : Int32) = nI 20 := rfl
theorem li21 : (21 : Int32) = nI 21 := rfl
theorem li22 : (22 : Int32) = nI 22 := rfl
theorem li23 : (23 : Int32) = nI 23 := rfl
theorem li24 : (24 : Int32) = nI 24 := rfl
theorem li25 : (25 : Int32) = nI 25 := rfl
theorem li26 : (26 : Int32) = nI 26 := rfl
theorem li27 : (27 : Int32) = nI 27 := rfl
theorem li28 : (28 : Int32) = nI 28 := rfl
theorem li29 : (29 : Int32) = nI 29 := rfl
theorem li30 : (30 : Int32) = nI 30 := rfl
theorem li31 : (31 : Int32) = nI 31 := rfl
theorem li32 : (32 : Int32) = nI 32 := rfl
theorem li40 : (40 : Int32) = nI 40 := rfl
theorem li48 : (48 : Int32) = nI 48 := rfl
theorem li50 : (50 : Int32) = nI 50 := rfl
theorem li57 : (57 : Int32) = nI 57 := rfl
theorem li60 : (60 : Int32) = nI 60 := rfl
theorem li97 : (97 : Int32) = nI 97 := rfl
theorem li99 : (99 : Int32) = nI 99 := rfl
theorem li100 : (100 : Int32) = nI 100 := rfl
theorem li112 : (112 : Int32) = nI 112 := rfl
theorem li119 : (119 : Int32) = nI 119 := rfl
theorem li120 : (120 : Int32) = nI 120 := rfl
theorem li122 : (122 : Int32) = nI 122 := rfl
theorem li127 : (127 : Int32) = nI 127 := rfl
theorem li128 : (128 : Int32) = nI 128 := rfl
theorem li200 : (200 : Int32) = nI 200 := rfl
theorem li201 : (201 : Int32) = nI 201 := rfl
theorem li202 : (202 : Int32) = nI 202 := rfl
theorem li203 : (203 : Int32) = nI 203 := rfl
theorem li204 : (204 : Int32) = nI 204 := rfl
theorem li205 : (205 : Int32) = nI 205 := rfl
theorem li206 : (206 : Int32) = nI 206 := rfl
theorem li207 : (207 : Int32) = nI 207 := rfl
theorem li208 : (208 : Int32) = nI 208 := rfl
theorem li209 : (209 : Int32) = nI 209 := rfl
theorem li210 : (210 : Int32) = nI 210 := rfl
theorem li211 : (211 : Int32) = nI 211 := rfl
theorem li212 : (212 : Int32) = nI 212 := rfl
theorem li213 : (213 : Int32) = nI 213 := rfl
theorem li214 : (214 : Int32) = nI 214 := rfl
theorem li215 : (215 : Int32) = nI 215 := rfl
theorem li216 : (216 : Int32) = nI 216 := rfl
theorem li217 : (217 : Int32) = nI 217 := rfl
theorem li218 : (218 : Int32) = nI 218 := rfl
theorem li219 : (219 : Int32) = nI 219 := rfl
theorem li225 : (225 : Int32) = nI 225 := rfl
theorem li255 : (255 : Int32) = nI 255 := rfl
theorem li300 : (300 : Int32) = nI 300 := rfl
theorem li301 : (301 : Int32) = nI 301 := rfl
theorem li400 : (400 : Int32) = nI 400 := rfl
theorem li512 : (512 : Int32) = nI 512 := rfl
theorem li600 : (600 : Int32) = nI 600 := rfl
theorem li999 : (999 : Int32) = nI 999 := rfl
theorem li1000 : (1000 : Int32) = nI 1000 := rfl
theorem li1600 : (1600 : Int32) = nI 1600 := rfl
theorem li1000000 : (1000000 : Int32) = nI 1000000 := rfl
theorem vin_iff {k n : Nat} (hk : k < 2 ^ 31) : vp_in (nI k) n ↔ k < n := by
  unfold vp_in
  rw [nI_clamp hk]
  have := nI_pos hk
  constructor
  · intro h
    exact Nat.not_le.mp fun q => h (Or.inr q)
  · rintro h (q | q)
    · exact this q
    · omega
theorem m1_lit : (-1 : Int32) = -nI 1 := rfl
theorem m1_toInt : (-nI 1 : Int32).toInt = -1 := by decide +kernel
theorem ne_m1 {a : Nat} (h : a < 2 ^ 31) : (nI a = -nI 1) ↔ False := by
  refine ⟨fun e => ?_, False.elim⟩
  have := congrArg Int32.toInt e
  rw [nI_toInt h, m1_toInt] at this
  omega
theorem m1_ne {a : Nat} (h : a < 2 ^ 31) : (-nI 1 = nI a) ↔ False := by rw [eq_comm]; exact ne_m1 h
theorem lt_m1 {a : Nat} (h : a < 2 ^ 31) : (nI a < -nI 1) ↔ False := by
  rw [Int32.lt_iff_toInt_lt, nI_toInt h, m1_toInt]; exact ⟨fun q => by omega, False.elim⟩
theorem le_m1 {a : Nat} (h : a < 2 ^ 31) : (nI a ≤ -nI 1) ↔ False := by
  rw [Int32.le_iff_toInt_le, nI_toInt h, m1_toInt]; exact ⟨fun q => by omega, False.elim⟩
theorem m1_lt {a : Nat} (h : a < 2 ^ 31) : (-nI 1 < nI a) ↔ True := by
  rw [Int32.lt_iff_toInt_lt, nI_toInt h, m1_toInt]; exact ⟨fun _ => trivial, fun _ => by omega⟩
theorem m1_le {a : Nat} (h : a < 2 ^ 31) : (-nI 1 ≤ nI a) ↔ True := by
  rw [Int32.le_iff_toInt_le, nI_toInt h, m1_toInt]; exact ⟨fun _ => trivial, fun _ => by omega⟩
theorem gI_uI (st : St) (c j : Nat) (v : Int32) (d k : Nat) : gI (uI st c j v) d k = if d = c ∧ k = j then v else gI st d k := by
  simp only [gI, uI, sI, sw, va_up]
  by_cases h : d = c <;> by_cases h2 : k = j <;> simp [h, h2, va_up]
theorem gI_uJ (st : St) (c j : Nat) (v : Int64) (d k : Nat) : gI (uJ st c j v) d k = gI st d k := rfl
theorem gI_uK (st : St) (c j : Nat) (v : Option Nat) (d k : Nat) : gI (uK st c j v) d k = gI st d k := rfl
theorem gI_uR (st : St) (c j v : Nat) (d k : Nat) : gI (uR st c j v) d k = gI st d k := rfl
theorem gJ_uI (st : St) (c j : Nat) (v : Int32) (d k : Nat) : gJ (uI st c j v) d k = gJ st d k := rfl
theorem gK_uI (st : St) (c j : Nat) (v : Int32) (d k : Nat) : gK (uI st c j v) d k = gK st d k := rfl
theorem gR_uI (st : St) (c j : Nat) (v : Int32) (d k : Nat) : gR (uI st c j v) d k = gR st d k := rfl
theorem gI_sI (st : St) (c : Nat) (g : Nat → Int32) (d k : Nat) : gI (sI st c g) d k = if d = c then g k else gI st d k := by
  simp only [gI, sI, sw]
  by_cases h : d = c <;> simp [h]
/-- only ints have changed, and those of cells in P alone -/
def FI (P : Nat → Prop) (st st' : St) : Prop := st'.2 = st.2 ∧ ∀ d, ¬ P d → st'.1 d = st.1 d
theorem FI.rf {P : Nat → Prop} {st : St} : FI P st st := ⟨rfl, fun _ _ => rfl⟩
theorem FI.tr {P : Nat → Prop} {s1 s2 s3 : St} (h : FI P s1 s2) (h2 : FI P s2 s3) : FI P s1 s3 := ⟨h2.1.trans h.1, fun d hd => (h2.2 d hd).trans (h.2 d hd)⟩
theorem FI.mo {P P2 : Nat → Prop} {s1 s2 : St} (h : FI P s1 s2) (hp : ∀ d, P d → P2 d) : FI P2 s1 s2 := ⟨h.1, fun d hd => h.2 d (fun q => hd (hp d q))⟩
theorem FI.u {P : Nat → Prop} {st : St} {c j : Nat} {v : Int32} (h : P c) : FI P st (uI st c j v) := ⟨rfl, fun d hd => by
  show sw st.1 c _ d = st.1 d
  exact if_neg (fun e : d = c => hd (by rw [e]; exact h))⟩
theorem FI.s {P : Nat → Prop} {st : St} {c : Nat} {g : Nat → Int32} (h : P c) : FI P st (sI st c g) := ⟨rfl, fun d hd => by
  show sw st.1 c _ d = st.1 d
  exact if_neg (fun e : d = c => hd (by rw [e]; exact h))⟩
theorem FI.gI {P : Nat → Prop} {st st' : St} (h : FI P st st') {d k : Nat} (hd : ¬ P d) : gI st' d k = gI st d k := congrFun (h.2 d hd) k
theorem FI.gJ {P : Nat → Prop} {st st' : St} (h : FI P st st') {d k : Nat} : gJ st' d k = gJ st d k := congrArg (fun z : (Nat → Nat → Int64) × (Nat → Nat → Option Nat) × (Nat → Nat → Nat) => z.1 d k) h.1
theorem FI.gK {P : Nat → Prop} {st st' : St} (h : FI P st st') {d k : Nat} : gK st' d k = gK st d k := congrArg (fun z : (Nat → Nat → Int64) × (Nat → Nat → Option Nat) × (Nat → Nat → Nat) => z.2.1 d k) h.1
theorem FI.gR {P : Nat → Prop} {st st' : St} (h : FI P st st') {d k : Nat} : gR st' d k = gR st d k := congrArg (fun z : (Nat → Nat → Int64) × (Nat → Nat → Option Nat) × (Nat → Nat → Nat) => z.2.2 d k) h.1
/-- a loop of n turns, by an invariant -/
theorem lp_inv {σ : Type} {body : (σ → Prop) → σ → Prop} {I : Nat → σ → Prop} {n : Nat} (hs : ∀ k s, k < n → I k s → ∀ R : σ → Prop, (∀ s', I (k + 1) s' → R s') → body R s) (he : ∀ s, I n s → ∀ R : σ → Prop, body R s) {s : σ} (h : I 0 s) : ∃ m, lp body m s := by
  have key : ∀ j k s, k + j = n → I k s → lp body (j + 1) s := by
    intro j
    induction j with
    | zero => intro k s hk hi; have hk : k = n := by omega
              subst hk; exact he s hi _
    | succ j ih => intro k s hk hi; exact hs k s (by omega) hi _ (fun s' h' => ih (k + 1) s' (by omega) h')
  exact ⟨n + 1, key n 0 s (by omega) h⟩
/-- a loop with a measure that falls -/
theorem lp_go {σ : Type} {body : (σ → Prop) → σ → Prop} {I : σ → Prop} {m : σ → Nat} (h : ∀ s, I s → ∀ R : σ → Prop, (∀ s', I s' → m s' < m s → R s') → body R s) {s : σ} (hs : I s) : ∃ n, lp body n s := by
  have key : ∀ n s, I s → m s < n → lp body n s := by
    intro n
    induction n with
    | zero => intro s _ h0; exact absurd h0 (by omega)
    | succ n ih => intro s hi hm; exact h s hi _ (fun s' hi' hm' => ih s' hi' (by omega))
  exact ⟨m s + 1, key _ s hs (by omega)⟩
def up (M : Nat → Nat) (k v : Nat) : Nat → Nat := fun j => if j = k then v else M j
theorem up_a (M : Nat → Nat) (k v j : Nat) : up M k v j = if j = k then v else M j := rfl

/-! the tape and its tokens; the class's scan -/
def sb (v : Nat) : Int32 := if v < 128 then nI v else -nI (256 - v)
theorem sb_and : ∀ v, v < 256 → sb v &&& 255 = nI v := by decide +kernel
def isB (v : Nat) : Bool := decide (v = 32) || decide (v = 10)
def isL (v : Nat) : Bool := decide (97 ≤ v) && decide (v ≤ 122)
def isD (v : Nat) : Bool := decide (48 ≤ v) && decide (v ≤ 57)
def skp (P : Nat → Bool) (n : Nat) (tp : Nat → Nat) : Nat → Nat → Nat
  | 0, i => i
  | f + 1, i => if i < n ∧ P (tp i) = true then skp P n tp f (i + 1) else i
def sk (P : Nat → Bool) (n : Nat) (tp : Nat → Nat) (i : Nat) : Nat := skp P n tp (n - i) i
theorem sk_un {P : Nat → Bool} {n : Nat} {tp : Nat → Nat} {i : Nat} : sk P n tp i = if i < n ∧ P (tp i) = true then sk P n tp (i + 1) else i := by
  unfold sk
  by_cases h : i < n
  · rw [show n - i = (n - (i + 1)) + 1 from by omega]
    rfl
  · rw [show n - i = 0 from by omega, if_neg (fun q => h q.1)]
    rfl
theorem sk_ge {P : Nat → Bool} {n : Nat} {tp : Nat → Nat} : ∀ {d i : Nat}, n - i ≤ d → i ≤ sk P n tp i := by
  intro d
  induction d with
  | zero => intro i h; rw [sk_un, if_neg (fun q => by omega)]; exact Nat.le_refl _
  | succ d ih =>
    intro i h
    rw [sk_un]
    split
    · have := ih (i := i + 1) (by omega); omega
    · exact Nat.le_refl _
theorem sk_le {P : Nat → Bool} {n : Nat} {tp : Nat → Nat} : ∀ {d i : Nat}, n - i ≤ d → sk P n tp i ≤ n ∨ sk P n tp i = i := by
  intro d
  induction d with
  | zero => intro i h; rw [sk_un, if_neg (fun q => by omega)]; exact Or.inr rfl
  | succ d ih =>
    intro i h
    rw [sk_un]
    split
    · have := ih (i := i + 1) (by omega); omega
    · exact Or.inr rfl
theorem sk_in {P : Nat → Bool} {n : Nat} {tp : Nat → Nat} : ∀ {d i : Nat}, n - i ≤ d → ∀ k, i ≤ k → k < sk P n tp i → P (tp k) = true := by
  intro d
  induction d with
  | zero => intro i h k h1 h2; rw [sk_un, if_neg (fun q => by omega)] at h2; exact absurd h2 (by omega)
  | succ d ih =>
    intro i h k h1 h2
    rw [sk_un] at h2
    split at h2
    · next q =>
      by_cases e : k = i
      · rw [e]; exact q.2
      · exact ih (i := i + 1) (by omega) k (by omega) h2
    · exact absurd h2 (by omega)
theorem sk_st {P : Nat → Bool} {n : Nat} {tp : Nat → Nat} : ∀ {d i : Nat}, n - i ≤ d → ¬ (sk P n tp i < n ∧ P (tp (sk P n tp i)) = true) := by
  intro d
  induction d with
  | zero => intro i h; rw [sk_un, if_neg (fun q => by omega)]; exact fun q => by omega
  | succ d ih =>
    intro i h
    rw [sk_un]
    split
    · exact ih (by omega)
    · next q => exact q
def fEd (n : Nat) (tp : Nat → Nat) (i : Nat) : Nat := if i < n ∧ isL (tp i) = true then sk isL n tp (i + 1) else if i < n ∧ isD (tp i) = true then sk isD n tp (i + 1) else i + 1
def tps (n : Nat) (tp : Nat → Nat) : Nat → Nat
  | 0 => 0
  | t + 1 => fEd n tp (sk isB n tp (tps n tp t))
def tfr (n : Nat) (tp : Nat → Nat) (t : Nat) : Nat := sk isB n tp (tps n tp t)
def c27 (tp : Nat → Nat) (i : Nat) : Nat → Nat
  | 0 => 0
  | k + 1 => 27 * c27 tp i k + (tp (i + k) - 96)
def c128 (tp : Nat → Nat) (i : Nat) : Nat → Nat
  | 0 => 1
  | k + 1 => c128 tp i k * 128 + tp (i + k)
def cnum (tp : Nat → Nat) (i : Nat) : Nat → Nat
  | 0 => 0
  | k + 1 => cnum tp i k * 10 + tp (i + k) - 48
def g27 : Nat → Nat → Nat
  | 0, _ => 1
  | f + 1, w => if w = 0 then 1 else g27 f (w / 27) * 128 + (w % 27 + 96)
def h27 : Nat → Nat → Nat
  | 0, _ => 0
  | f + 1, c => if c ≤ 1 then 0 else 27 * h27 f (c / 128) + (c % 128 - 96)
def w27 (k : Nat) : Nat := (sByt.getD k []).foldl (fun x c => 27 * x + (c.toNatClampNeg - 96)) 0
def kwd (w : Nat) : Nat := match fFind (fun k => decide (w27 k = w)) 26 with
  | some k => 11 + k
  | none => 2
def sgk (v : Nat) : Nat := if v = 40 then 4 else if v = 41 then 5 else if v = 59 then 6 else if v = 44 then 7 else if v = 60 then 8 else if v = 61 then 9 else if v = 62 then 10 else 1
def tkd0 (n : Nat) (tp : Nat → Nat) (i : Nat) : Nat := if n ≤ i then 0 else if isL (tp i) = true then (if 8 < fEd n tp i - i then 1 else kwd (c27 tp i (fEd n tp i - i))) else if isD (tp i) = true then (if 3 < fEd n tp i - i then 1 else 3) else sgk (tp i)
def tkd (n : Nat) (tp : Nat → Nat) (t : Nat) : Nat := if t < 400 ∨ n ≤ tfr n tp t then tkd0 n tp (tfr n tp t) else 1
def tnum (n : Nat) (tp : Nat → Nat) (t : Nat) : Nat := if tkd n tp t = 3 then cnum tp (tfr n tp t) (fEd n tp (tfr n tp t) - tfr n tp t) else 0
def twd (n : Nat) (tp : Nat → Nat) (t : Nat) : Nat := if tkd n tp t = 2 then c27 tp (tfr n tp t) (fEd n tp (tfr n tp t) - tfr n tp t) else 0
def gw (w : Nat) : Nat := if w = 0 then 0 else g27 9 w
/-- a word's number is right -/
def vw (w : Nat) : Prop := w = 0 ∨ (h27 9 (g27 9 w) = w ∧ 225 ≤ g27 9 w ∧ g27 9 w < 2 ^ 60 ∧ w < 2 ^ 40)
theorem isL_iff {v : Nat} : isL v = true ↔ 97 ≤ v ∧ v ≤ 122 := by unfold isL; rw [Bool.and_eq_true, decide_eq_true_iff, decide_eq_true_iff]
theorem isD_iff {v : Nat} : isD v = true ↔ 48 ≤ v ∧ v ≤ 57 := by unfold isD; rw [Bool.and_eq_true, decide_eq_true_iff, decide_eq_true_iff]
theorem isB_iff {v : Nat} : isB v = true ↔ v = 32 ∨ v = 10 := by unfold isB; rw [Bool.or_eq_true, decide_eq_true_iff, decide_eq_true_iff]
theorem g27_c {tp : Nat → Nat} {i : Nat} : ∀ {k f : Nat}, k ≤ f → (∀ j, j < k → 97 ≤ tp (i + j) ∧ tp (i + j) ≤ 122) → g27 f (c27 tp i k) = c128 tp i k := by
  intro k
  induction k with
  | zero =>
    intro f _ _
    cases f with
    | zero => rfl
    | succ f => show (if (0 : Nat) = 0 then 1 else _) = 1; rw [if_pos rfl]
  | succ k ih =>
    intro f hf hl
    obtain ⟨f, rfl⟩ : ∃ g, f = g + 1 := ⟨f - 1, by omega⟩
    have hk := hl k (by omega)
    have h := ih (f := f) (by omega) (fun j hj => hl j (by omega))
    show (if 27 * c27 tp i k + (tp (i + k) - 96) = 0 then 1 else g27 f ((27 * c27 tp i k + (tp (i + k) - 96)) / 27) * 128 + ((27 * c27 tp i k + (tp (i + k) - 96)) % 27 + 96)) = c128 tp i k * 128 + tp (i + k)
    rw [if_neg (by omega), show (27 * c27 tp i k + (tp (i + k) - 96)) / 27 = c27 tp i k from by omega, show (27 * c27 tp i k + (tp (i + k) - 96)) % 27 = tp (i + k) - 96 from by omega, h]
    omega
theorem c128_pos {tp : Nat → Nat} {i : Nat} : ∀ {k : Nat}, 1 ≤ c128 tp i k := by
  intro k
  induction k with
  | zero => exact Nat.le_refl _
  | succ k ih => show 1 ≤ c128 tp i k * 128 + tp (i + k); omega
theorem h27_c {tp : Nat → Nat} {i : Nat} : ∀ {k f : Nat}, k ≤ f → (∀ j, j < k → 97 ≤ tp (i + j) ∧ tp (i + j) ≤ 122) → h27 f (c128 tp i k) = c27 tp i k := by
  intro k
  induction k with
  | zero =>
    intro f _ _
    cases f with
    | zero => rfl
    | succ f => show (if (1 : Nat) ≤ 1 then 0 else _) = 0; rw [if_pos (Nat.le_refl _)]
  | succ k ih =>
    intro f hf hl
    obtain ⟨f, rfl⟩ : ∃ g, f = g + 1 := ⟨f - 1, by omega⟩
    have hk := hl k (by omega)
    have h := ih (f := f) (by omega) (fun j hj => hl j (by omega))
    have hp := c128_pos (tp := tp) (i := i) (k := k)
    show (if c128 tp i k * 128 + tp (i + k) ≤ 1 then 0 else 27 * h27 f ((c128 tp i k * 128 + tp (i + k)) / 128) + ((c128 tp i k * 128 + tp (i + k)) % 128 - 96)) = 27 * c27 tp i k + (tp (i + k) - 96)
    rw [if_neg (by omega), show (c128 tp i k * 128 + tp (i + k)) / 128 = c128 tp i k from by omega, show (c128 tp i k * 128 + tp (i + k)) % 128 = tp (i + k) from by omega, h]
theorem c128_lt {tp : Nat → Nat} {i : Nat} : ∀ {k : Nat}, (∀ j, j < k → tp (i + j) ≤ 122) → c128 tp i k < 2 * 128 ^ k := by
  intro k
  induction k with
  | zero => intro _; show 1 < 2 * 1; omega
  | succ k ih =>
    intro hl
    have h := ih (fun j hj => hl j (by omega))
    have hk := hl k (by omega)
    show c128 tp i k * 128 + tp (i + k) < 2 * 128 ^ (k + 1)
    rw [Nat.pow_succ]
    omega
theorem c27_lt {tp : Nat → Nat} {i : Nat} : ∀ {k : Nat}, (∀ j, j < k → tp (i + j) ≤ 122) → c27 tp i k < 27 ^ k := by
  intro k
  induction k with
  | zero => intro _; show 0 < 1; omega
  | succ k ih =>
    intro hl
    have h := ih (fun j hj => hl j (by omega))
    have hk := hl k (by omega)
    show 27 * c27 tp i k + (tp (i + k) - 96) < 27 ^ (k + 1)
    rw [Nat.pow_succ]
    omega
theorem vw_c {tp : Nat → Nat} {i k : Nat} (h1 : 1 ≤ k) (h8 : k ≤ 8) (hl : ∀ j, j < k → 97 ≤ tp (i + j) ∧ tp (i + j) ≤ 122) : vw (c27 tp i k) ∧ c27 tp i k ≠ 0 ∧ g27 9 (c27 tp i k) = c128 tp i k := by
  have hg := g27_c (f := 9) (by omega) hl
  have hh := h27_c (f := 9) (by omega) hl
  have b1 := c128_lt (k := k) (fun j hj => (hl j hj).2)
  have b2 := c27_lt (k := k) (fun j hj => (hl j hj).2)
  have p1 : 128 ^ k ≤ 128 ^ 8 := Nat.pow_le_pow_right (by omega) h8
  have p2 : 27 ^ k ≤ 27 ^ 8 := Nat.pow_le_pow_right (by omega) h8
  obtain ⟨j, rfl⟩ : ∃ j, k = j + 1 := ⟨k - 1, by omega⟩
  have hj := hl j (by omega)
  have hp := c128_pos (tp := tp) (i := i) (k := j)
  have e1 : c128 tp i (j + 1) = c128 tp i j * 128 + tp (i + j) := rfl
  have e2 : c27 tp i (j + 1) = 27 * c27 tp i j + (tp (i + j) - 96) := rfl
  refine ⟨Or.inr ⟨by rw [hg, hh], by rw [hg]; omega, by rw [hg]; omega, by omega⟩, by omega, hg⟩
theorem gw_inj {a b : Nat} (ha : vw a) (hb : vw b) (h : gw a = gw b) : a = b := by
  unfold gw at h
  rcases ha with ha | ha <;> rcases hb with hb | hb
  · rw [ha, hb]
  · by_cases q : b = 0
    · rw [ha, q]
    · rw [if_pos ha, if_neg q] at h; omega
  · by_cases q : a = 0
    · rw [hb, q]
    · rw [if_pos hb, if_neg q] at h; omega
  · by_cases q : a = 0
    · by_cases q2 : b = 0
      · rw [q, q2]
      · rw [if_pos q, if_neg q2] at h; omega
    · by_cases q2 : b = 0
      · rw [if_pos q2, if_neg q] at h; omega
      · rw [if_neg q, if_neg q2] at h
        rw [← ha.1, ← hb.1, h]
theorem gw_lt {a : Nat} (ha : vw a) : gw a < 2 ^ 60 := by
  unfold gw
  split
  · omega
  · next q => rcases ha with ha | ha; exact absurd ha q; exact ha.2.2.1
theorem kcode_w : ∀ k, k < 26 → kCode (11 + k) = lN (g27 9 (w27 k)) ∧ g27 9 (w27 k) < 2 ^ 60 ∧ h27 9 (g27 9 (w27 k)) = w27 k := by decide +kernel
theorem kcode_s : ∀ k, k < 11 → ∃ c, c < 200 ∧ kCode k = lN c := by
  intro k hk
  have h : ∀ k, k < 11 → kCode k = lN ((kCode k).toNatClampNeg) ∧ (kCode k).toNatClampNeg < 200 := by decide +kernel
  exact ⟨_, (h k hk).2, (h k hk).1⟩
theorem fFind_sh {P : Nat → Bool} {a : Nat} (h : ∀ j, j < a → P j = false) : ∀ {n : Nat}, fFind P (a + n) = (fFind (fun j => P (a + j)) n).map (fun j => a + j) := by
  intro n
  induction n with
  | zero => rw [Nat.add_zero, fFind_no h]; rfl
  | succ n ih =>
    show (match fFind P (a + n) with | some j => some j | none => if P (a + n) = true then some (a + n) else none) = Option.map _ (match fFind (fun j => P (a + j)) n with | some j => some j | none => if P (a + n) = true then some n else none)
    rw [ih]
    cases fFind (fun j => P (a + j)) n with
    | some j => rfl
    | none =>
      show (if P (a + n) = true then some (a + n) else none) = Option.map (fun j => a + j) (if P (a + n) = true then some n else none)
      split <;> rfl
theorem fFind_cg {P P2 : Nat → Bool} : ∀ {n : Nat}, (∀ j, j < n → P j = P2 j) → fFind P n = fFind P2 n := by
  intro n
  induction n with
  | zero => exact fun _ => rfl
  | succ n ih =>
    intro h
    show (match fFind P n with | some j => some j | none => if P n = true then some n else none) = (match fFind P2 n with | some j => some j | none => if P2 n = true then some n else none)
    rw [ih (fun j hj => h j (by omega)), h n (by omega)]
theorem sp_word {w : Nat} (hv : vw w) (h0 : w ≠ 0) : (match fFind (fun k => decide (kCode k = lN (g27 9 w))) 37 with | some k => some k | none => some 2) = some (kwd w) := by
  rcases hv with e | ⟨h1, h2, h3, h4⟩
  · exact absurd e h0
  have hs : ∀ j, j < 11 → decide (kCode j = lN (g27 9 w)) = false := by
    intro j hj
    obtain ⟨c, hc, e⟩ := kcode_s j hj
    rw [e]
    apply decide_eq_false
    rw [pk_lEQ (by omega) (by omega)]
    omega
  have := fFind_sh (n := 26) hs
  rw [show 11 + 26 = 37 from rfl] at this
  have hc : fFind (fun j => decide (kCode (11 + j) = lN (g27 9 w))) 26 = fFind (fun k => decide (w27 k = w)) 26 := by
    apply fFind_cg
    intro j hj
    obtain ⟨k1, k2, k3⟩ := kcode_w j hj
    rw [k1]
    have : (lN (g27 9 (w27 j)) = lN (g27 9 w)) ↔ (w27 j = w) := by
      rw [pk_lEQ (by omega) (by omega)]
      constructor
      · intro e; rw [← k3, ← h1, e]
      · intro e; rw [e]
    exact decide_eq_decide.mpr this
  rw [this, hc]
  unfold kwd
  cases fFind (fun k => decide (w27 k = w)) 26 with
  | some k => rfl
  | none => rfl
theorem sp_sign : ∀ v, v < 256 → (match fFind (fun k => decide (kCode k = lN (128 + v))) 37 with | some k => some k | none => some 1) = some (sgk v) := by decide +kernel
/-- the class's tape -/
def TpC (st : St) (n : Nat) (tp : Nat → Nat) : Prop := gI st 1 1 = nI n ∧ n ≤ 1600 ∧ (∀ i, i < n → gI st 2 i = sb (tp i)) ∧ ∀ i, tp i < 256
def bAt (n : Nat) (tp : Nat → Nat) (i : Nat) : Int32 := if i < n then nI (tp i) else -nI 1
section TC1
variable {B n : Nat} {tp : Nat → Nat} {st st' : St} {Q : Int32 → St → Prop} {Qv : St → Prop} {Qk : Option Nat → St → Prop} {Qj : Int64 → St → Prop}
theorem c_byte {i : Nat} (h : TpC st n tp) (hi : i < 2 ^ 31) (hq : Q (bAt n tp i) st) : wX6_byteAt 1 (nI i) st Q := by
  unfold wX6_byteAt
  obtain ⟨h1, h2, h3, h4⟩ := h
  rw [h1]
  unfold bAt at hq
  refine ⟨fun q => absurd q (nI_pos hi), fun _ => ⟨fun q => ?_, fun q => ?_⟩⟩
  · rw [if_neg (by have := (nI_leI (by omega) hi).mp q; omega)] at hq
    exact hq
  · have hin : i < n := Nat.lt_of_not_le (fun z => q (nI_le z hi))
    rw [if_pos hin] at hq
    rw [nI_clamp hi, show gI st (1 + 1) i = sb (tp i) from h3 i hin, sb_and _ (h4 i)]
    exact ⟨(vin_iff hi).mpr (by omega), hq⟩
theorem c_let {i : Nat} (hb : ∀ i, tp i < 256) (hq : Q (bI (decide (i < n) && isL (tp i))) st) : wX7_isLetter (bAt n tp i) st Q := by
  unfold wX7_isLetter bAt
  have := hb i
  by_cases h : i < n
  · rw [if_pos h]
    rw [decide_eq_true h, Bool.true_and] at hq
    unfold isL at hq
    refine ⟨fun q => ?_, fun q => ⟨fun q2 => ?_, fun q2 => ?_⟩⟩
    · have := (nI_ltI (b := 97) (by omega) (by omega)).mp q
      rw [decide_eq_false (by omega), Bool.false_and] at hq; exact hq
    · have := (nI_ltI (a := 122) (by omega) (by omega)).mp q2
      rw [decide_eq_false (p := tp i ≤ 122) (by omega), Bool.and_false] at hq; exact hq
    · have h1 : 97 ≤ tp i := Nat.le_of_not_lt (fun z => q (nI_lt (b := 97) z (by omega)))
      have h2 : tp i ≤ 122 := Nat.le_of_not_lt (fun z => q2 (nI_lt (a := 122) z (by omega)))
      rw [decide_eq_true h1, decide_eq_true h2] at hq; exact hq
  · rw [if_neg h]
    rw [decide_eq_false h, Bool.false_and] at hq
    exact ⟨fun _ => hq, fun q => absurd (by decide) q⟩
theorem c_dig {i : Nat} (hb : ∀ i, tp i < 256) (hq : Q (bI (decide (i < n) && isD (tp i))) st) : wX7_isDigit (bAt n tp i) st Q := by
  unfold wX7_isDigit bAt
  have := hb i
  by_cases h : i < n
  · rw [if_pos h]
    rw [decide_eq_true h, Bool.true_and] at hq
    unfold isD at hq
    refine ⟨fun q => ?_, fun q => ⟨fun q2 => ?_, fun q2 => ?_⟩⟩
    · have := (nI_ltI (b := 48) (by omega) (by omega)).mp q
      rw [decide_eq_false (by omega), Bool.false_and] at hq; exact hq
    · have := (nI_ltI (a := 57) (by omega) (by omega)).mp q2
      rw [decide_eq_false (p := tp i ≤ 57) (by omega), Bool.and_false] at hq; exact hq
    · have h1 : 48 ≤ tp i := Nat.le_of_not_lt (fun z => q (nI_lt (b := 48) z (by omega)))
      have h2 : tp i ≤ 57 := Nat.le_of_not_lt (fun z => q2 (nI_lt (a := 57) z (by omega)))
      rw [decide_eq_true h1, decide_eq_true h2] at hq; exact hq
  · rw [if_neg h]
    rw [decide_eq_false h, Bool.false_and] at hq
    exact ⟨fun _ => hq, fun q => absurd (by decide) q⟩
theorem c_skip (h : TpC st n tp) {p : Int32} : ∀ (d i : Nat), n - i ≤ d → i ≤ 4000 → Q (nI (sk isB n tp i)) st → lp (fun R s => wX7_skipBlanks_L2 1 p R s.1 s.2 Q) (d + 1) (nI i, st) := by
  have h1 := h.1
  have h2 := h.2.1
  intro d
  induction d with
  | zero =>
    intro i hd hi hq
    show wX7_skipBlanks_L2 1 p _ (nI i) st Q
    unfold wX7_skipBlanks_L2
    rw [sk_un, if_neg (fun q => by omega)] at hq
    rw [h1]
    exact ⟨fun _ => hq, fun q => absurd (nI_le (by omega) (by omega)) q⟩
  | succ d ih =>
    intro i hd hi hq
    have ih := ih (i + 1)
    show wX7_skipBlanks_L2 1 p (lp (fun R s => wX7_skipBlanks_L2 1 p R s.1 s.2 Q) (d + 1)) (nI i) st Q
    generalize lp (fun R s => wX7_skipBlanks_L2 1 p R s.1 s.2 Q) (d + 1) = RR at ih ⊢
    unfold wX7_skipBlanks_L2 wX7_skipBlanks_L30
    rw [sk_un] at hq
    rw [h1]
    have hb := h.2.2.2 i
    refine ⟨fun q => ?_, fun q => ?_⟩
    · rw [if_neg (fun z => by have := (nI_leI (by omega) (by omega)).mp q; omega)] at hq
      exact hq
    · have hin : i < n := Nat.lt_of_not_le (fun z => q (nI_le z (by omega)))
      have go : isB (tp i) = true → ∀ x : Int32, x = nI i + 1 → RR (x, st) := by
        rintro e _ rfl
        rw [if_pos ⟨hin, e⟩] at hq
        rw [nI_1]
        exact ih (by omega) (by omega) hq
      have e1 : bAt n tp i = nI (tp i) := if_pos hin
      refine c_byte h (by omega) ?_
      rw [e1]
      refine ⟨fun q2 => go (isB_iff.mpr (Or.inl ((nI_eq (b := 32) (by omega) (by omega)).mp q2))), fun q2 => c_byte h (by omega) ?_⟩
      rw [e1]
      refine ⟨fun q3 => ?_, fun q3 => go (isB_iff.mpr (Or.inr ((nI_eq (b := 10) (by omega) (by omega)).mp q3)))⟩
      rw [if_neg (fun z => by
        rcases isB_iff.mp z.2 with e | e
        · exact q2 (by rw [e]; rfl)
        · exact q3 (by rw [e]; rfl))] at hq
      exact hq
theorem c_endL (h : TpC st n tp) {p : Int32} : ∀ (d i : Nat), n - i ≤ d → i ≤ 4000 → Q (nI (sk isL n tp i)) st → lp (fun R s => wX7_findEnd_L17 1 p R s.1 s.2 Q) (d + 1) (nI i, st) := by
  have h1 := h.1
  have h2 := h.2.1
  intro d
  induction d with
  | zero =>
    intro i hd hi hq
    show wX7_findEnd_L17 1 p _ (nI i) st Q
    unfold wX7_findEnd_L17
    rw [sk_un, if_neg (fun q => by omega)] at hq
    rw [h1]
    exact ⟨fun _ => hq, fun q => absurd (nI_le (by omega) (by omega)) q⟩
  | succ d ih =>
    intro i hd hi hq
    have ih := ih (i + 1)
    show wX7_findEnd_L17 1 p (lp (fun R s => wX7_findEnd_L17 1 p R s.1 s.2 Q) (d + 1)) (nI i) st Q
    generalize lp (fun R s => wX7_findEnd_L17 1 p R s.1 s.2 Q) (d + 1) = RR at ih ⊢
    unfold wX7_findEnd_L17
    rw [sk_un] at hq
    rw [h1]
    refine ⟨fun q => ?_, fun q => ?_⟩
    · rw [if_neg (fun z => by have := (nI_leI (by omega) (by omega)).mp q; omega)] at hq
      exact hq
    · have hin : i < n := Nat.lt_of_not_le (fun z => q (nI_le z (by omega)))
      refine c_byte h (by omega) (c_let h.2.2.2 ?_)
      rw [decide_eq_true hin, Bool.true_and]
      refine ⟨fun q2 => ?_, fun q2 => ?_⟩
      · rw [if_neg (fun z => by rw [bI0.mp q2] at z; cases z.2)] at hq
        exact hq
      · rw [if_pos ⟨hin, (Bool.not_eq_false _).mp (fun e => q2 (bI0.mpr e))⟩] at hq
        rintro _ rfl
        rw [nI_1]
        exact ih (by omega) (by omega) hq
theorem c_endD (h : TpC st n tp) {p : Int32} : ∀ (d i : Nat), n - i ≤ d → i ≤ 4000 → Q (nI (sk isD n tp i)) st → lp (fun R s => wX7_findEnd_L49 1 p R s.1 s.2 Q) (d + 1) (nI i, st) := by
  have h1 := h.1
  have h2 := h.2.1
  intro d
  induction d with
  | zero =>
    intro i hd hi hq
    show wX7_findEnd_L49 1 p _ (nI i) st Q
    unfold wX7_findEnd_L49
    rw [sk_un, if_neg (fun q => by omega)] at hq
    rw [h1]
    exact ⟨fun _ => hq, fun q => absurd (nI_le (by omega) (by omega)) q⟩
  | succ d ih =>
    intro i hd hi hq
    have ih := ih (i + 1)
    show wX7_findEnd_L49 1 p (lp (fun R s => wX7_findEnd_L49 1 p R s.1 s.2 Q) (d + 1)) (nI i) st Q
    generalize lp (fun R s => wX7_findEnd_L49 1 p R s.1 s.2 Q) (d + 1) = RR at ih ⊢
    unfold wX7_findEnd_L49
    rw [sk_un] at hq
    rw [h1]
    refine ⟨fun q => ?_, fun q => ?_⟩
    · rw [if_neg (fun z => by have := (nI_leI (by omega) (by omega)).mp q; omega)] at hq
      exact hq
    · have hin : i < n := Nat.lt_of_not_le (fun z => q (nI_le z (by omega)))
      refine c_byte h (by omega) (c_dig h.2.2.2 ?_)
      rw [decide_eq_true hin, Bool.true_and]
      refine ⟨fun q2 => ?_, fun q2 => ?_⟩
      · rw [if_neg (fun z => by rw [bI0.mp q2] at z; cases z.2)] at hq
        exact hq
      · rw [if_pos ⟨hin, (Bool.not_eq_false _).mp (fun e => q2 (bI0.mpr e))⟩] at hq
        rintro _ rfl
        rw [nI_1]
        exact ih (by omega) (by omega) hq
theorem c_findEnd {i : Nat} (h : TpC st n tp) (hi : i ≤ 3000) (hq : Q (nI (fEd n tp i)) st) : wX7_findEnd 1 (nI i) st Q := by
  unfold wX7_findEnd
  refine c_byte h (by omega) ?_
  rintro _ rfl
  unfold fEd at hq
  rw [nI_1]
  refine c_let h.2.2.2 ⟨fun q => c_dig h.2.2.2 ⟨fun q2 => ?_, fun q2 => ?_⟩, fun q => ?_⟩
  · have e1 := bI0.mp q
    have e2 := bI0.mp q2
    rw [if_neg (fun z => by rw [decide_eq_true z.1, z.2] at e1; cases e1), if_neg (fun z => by rw [decide_eq_true z.1, z.2] at e2; cases e2)] at hq
    exact hq
  · have e1 := bI0.mp q
    have e2 := (Bool.not_eq_false _).mp (fun e => q2 (bI0.mpr e))
    rw [Bool.and_eq_true, decide_eq_true_iff] at e2
    rw [if_neg (fun z => by rw [decide_eq_true z.1, z.2] at e1; cases e1), if_pos e2] at hq
    exact ⟨_, c_endD h _ (i + 1) (Nat.le_refl _) (by omega) hq⟩
  · have e1 := (Bool.not_eq_false _).mp (fun e => q (bI0.mpr e))
    rw [Bool.and_eq_true, decide_eq_true_iff] at e1
    rw [if_pos e1] at hq
    exact ⟨_, c_endL h _ (i + 1) (Nat.le_refl _) (by omega) hq⟩
theorem c_code {i e : Nat} (h : TpC st n tp) (he : e ≤ n) (hie : i ≤ e) (hq : Qj (lN (c128 tp i (e - i))) st) : wX7_codeOf 1 (nI i) (nI e) st Qj := by
  unfold wX7_codeOf
  have h2 := h.2.1
  refine lp_inv (n := e - i) (I := fun k s => s = (nI e, lN (c128 tp i k), nI (i + k), st)) ?_ ?_ rfl
  · rintro k s hk rfl R hR2
    show wX7_codeOf_L5 1 (nI i) (nI e) R (nI e) (lN (c128 tp i k)) (nI (i + k)) st Qj
    unfold wX7_codeOf_L5
    refine ⟨fun q => absurd ((nI_leI (by omega) (by omega)).mp q) (by omega), fun _ => c_byte h (by omega) ?_⟩
    have hb := h.2.2.2 (i + k)
    rw [show bAt n tp (i + k) = nI (tp (i + k)) from if_pos (by omega)]
    unfold wX3_withSign
    rintro _ rfl
    rw [nI_1, nI_l (by omega), show lN (c128 tp i k) * 128 = lN (c128 tp i k * 128) from lN_mul _ 128, lN_add]
    exact hR2 _ rfl
  · rintro s rfl R
    show wX7_codeOf_L5 1 (nI i) (nI e) R (nI e) (lN (c128 tp i (e - i))) (nI (i + (e - i))) st Qj
    unfold wX7_codeOf_L5
    rw [show i + (e - i) = e from by omega]
    exact ⟨fun _ => hq, fun q => absurd (nI_le (Nat.le_refl _) (by omega)) q⟩
theorem cnum_lt {i : Nat} : ∀ {k : Nat}, (∀ j, j < k → 48 ≤ tp (i + j) ∧ tp (i + j) ≤ 57) → cnum tp i k < 10 ^ k := by
  intro k
  induction k with
  | zero => intro _; show 0 < 1; omega
  | succ k ih =>
    intro hl
    have h := ih (fun j hj => hl j (by omega))
    have hk := hl k (by omega)
    show cnum tp i k * 10 + tp (i + k) - 48 < 10 ^ (k + 1)
    rw [Nat.pow_succ]
    omega
theorem c_val {i e : Nat} (h : TpC st n tp) (he : e ≤ n) (hie : i ≤ e) (hd : ∀ j, j < e - i → 48 ≤ tp (i + j) ∧ tp (i + j) ≤ 57) (hq : Q (nI (cnum tp i (e - i))) st) : wX7_valueOf 1 (nI i) (nI e) st Q := by
  unfold wX7_valueOf
  have h2 := h.2.1
  refine lp_inv (n := e - i) (I := fun k s => s = (nI e, nI (cnum tp i k), nI (i + k), st)) ?_ ?_ rfl
  · rintro k s hk rfl R hR2
    show wX7_valueOf_L5 1 (nI i) (nI e) R (nI e) (nI (cnum tp i k)) (nI (i + k)) st Q
    unfold wX7_valueOf_L5
    refine ⟨fun q => absurd ((nI_leI (by omega) (by omega)).mp q) (by omega), fun _ => c_byte h (by omega) ?_⟩
    have hb := hd k hk
    rw [show bAt n tp (i + k) = nI (tp (i + k)) from if_pos (by omega)]
    rintro _ rfl _ rfl
    rw [nI_1, show nI (cnum tp i k) * 10 = nI (cnum tp i k * 10) from pk_mul _ 10, nI_add, show nI (cnum tp i k * 10 + tp (i + k)) - 48 = nI (cnum tp i k * 10 + tp (i + k) - 48) from pk_sub (b := 48) (by omega)]
    exact hR2 _ rfl
  · rintro s rfl R
    show wX7_valueOf_L5 1 (nI i) (nI e) R (nI e) (nI (cnum tp i (e - i))) (nI (i + (e - i))) st Q
    unfold wX7_valueOf_L5
    rw [show i + (e - i) = e from by omega]
    exact ⟨fun _ => hq, fun q => absurd (nI_le (Nat.le_refl _) (by omega)) q⟩
theorem c_spelled {c : Int64} {o : Nat} (ho : o < 37) (hq : Qk (match fFind (fun k => decide (kCode k = c)) 37 with | some k => some k | none => some o) st) : wX3_spelled c (some o) st Qk := by
  unfold wX3_spelled
  refine lp_inv (n := 37) (I := fun k s => s = (c, some o, nI k, st) ∧ ∀ j, j < k → decide (kCode j = c) = false) ?_ ?_ ⟨rfl, fun j hj => absurd hj (by omega)⟩
  · rintro k s hk ⟨rfl, hno⟩ R hR2
    show wX3_spelled_L2 c (some o) R c (some o) (nI k) st Qk
    unfold wX3_spelled_L2
    refine ⟨fun q => absurd ((nI_leI (a := 37) (by omega) (by omega)).mp q) (by omega), fun _ => ⟨(vin_iff (by omega)).mpr hk, ?_⟩⟩
    rw [nI_clamp (by omega), lg_cmp_eq]
    refine ⟨fun q => ?_, fun q => ⟨(vin_iff (by omega)).mpr hk, ?_⟩⟩
    · rintro _ rfl
      rw [nI_1]
      refine hR2 _ ⟨rfl, fun j hj => ?_⟩
      by_cases e : j = k
      · subst e; exact decide_eq_false q
      · exact hno j (by omega)
    · rw [fFind_at hno (decide_eq_true q) hk] at hq
      exact hq
  · rintro s ⟨rfl, hno⟩ R
    show wX3_spelled_L2 c (some o) R c (some o) (nI 37) st Qk
    unfold wX3_spelled_L2
    rw [fFind_no hno] at hq
    exact ⟨fun _ => ⟨kin_l ho, hq⟩, fun q => absurd (nI_le (Nat.le_refl 37) (by omega)) q⟩
theorem fEd_word {i : Nat} (h : i < n) (hl : isL (tp i) = true) : i < fEd n tp i ∧ fEd n tp i ≤ n ∧ ∀ j, j < fEd n tp i - i → 97 ≤ tp (i + j) ∧ tp (i + j) ≤ 122 := by
  unfold fEd
  rw [if_pos ⟨h, hl⟩]
  have g1 := sk_ge (P := isL) (tp := tp) (n := n) (i := i + 1) (Nat.le_refl _)
  have g2 := sk_le (P := isL) (tp := tp) (n := n) (i := i + 1) (Nat.le_refl _)
  refine ⟨by omega, by omega, fun j hj => ?_⟩
  by_cases e : j = 0
  · subst e; exact isL_iff.mp hl
  · exact isL_iff.mp (sk_in (n := n) (i := i + 1) (Nat.le_refl _) (i + j) (by omega) (by omega))
theorem fEd_num {i : Nat} (h : i < n) (hl : isL (tp i) = false) (hd : isD (tp i) = true) : i < fEd n tp i ∧ fEd n tp i ≤ n ∧ ∀ j, j < fEd n tp i - i → 48 ≤ tp (i + j) ∧ tp (i + j) ≤ 57 := by
  unfold fEd
  rw [if_neg (fun z => by rw [hl] at z; cases z.2), if_pos ⟨h, hd⟩]
  have g1 := sk_ge (P := isD) (tp := tp) (n := n) (i := i + 1) (Nat.le_refl _)
  have g2 := sk_le (P := isD) (tp := tp) (n := n) (i := i + 1) (Nat.le_refl _)
  refine ⟨by omega, by omega, fun j hj => ?_⟩
  by_cases e : j = 0
  · subst e; exact isD_iff.mp hd
  · exact isD_iff.mp (sk_in (n := n) (i := i + 1) (Nat.le_refl _) (i + j) (by omega) (by omega))
theorem fEd_sign {i : Nat} (hl : isL (tp i) = false) (hd : isD (tp i) = false) : fEd n tp i = i + 1 := by
  unfold fEd
  rw [if_neg (fun z => by rw [hl] at z; cases z.2), if_neg (fun z => by rw [hd] at z; cases z.2)]
theorem c_kindOf {i : Nat} (h : TpC st n tp) (hi : i ≤ 3000) (hq : Qk (some (tkd0 n tp i)) st) : wX7_kindOf 1 (nI i) (nI (fEd n tp i)) st Qk := by
  unfold wX7_kindOf
  have h1 := h.1
  have h2 := h.2.1
  rw [h1]
  unfold tkd0 at hq
  refine ⟨fun q => ?_, fun q => ?_⟩
  · have hin : i < n := (nI_ltI (by omega) (by omega)).mp q
    rw [if_neg (by omega)] at hq
    have hb := h.2.2.2 i
    refine c_byte h (by omega) ?_
    rintro _ rfl
    refine c_let h.2.2.2 ?_
    rw [decide_eq_true hin, Bool.true_and]
    refine ⟨fun q2 => c_dig h.2.2.2 ?_, fun q2 => ?_⟩
    · have eL := bI0.mp q2
      rw [if_neg (by rw [eL]; decide)] at hq
      rw [decide_eq_true hin, Bool.true_and]
      refine ⟨fun q3 => ?_, fun q3 => ?_⟩
      · have eD := bI0.mp q3
        rw [if_neg (by rw [eD]; decide)] at hq
        rw [fEd_sign eL eD]
        refine c_code h (by omega) (by omega) ?_
        rw [show i + 1 - i = 0 + 1 from by omega]
        refine c_spelled (o := 1) (by omega) ?_
        have e1 : c128 tp i (0 + 1) = 128 + tp i := by show 1 * 128 + tp (i + 0) = _; rw [Nat.add_zero]
        rw [e1, sp_sign _ hb]
        exact hq
      · have eD := (Bool.not_eq_false _).mp (fun e => q3 (bI0.mpr e))
        obtain ⟨f1, f2, f3⟩ := fEd_num hin eL eD
        rw [if_pos eD] at hq
        rw [pk_sub (by omega)]
        refine ⟨fun q4 => ?_, fun q4 => ?_⟩
        · have := (nI_leI (b := 3) (by omega) (by omega)).mp q4
          rw [if_neg (by omega)] at hq; exact hq
        · rw [if_pos (Nat.lt_of_not_le (fun z => q4 (nI_le (b := 3) z (by omega))))] at hq; exact hq
    · have eL := (Bool.not_eq_false _).mp (fun e => q2 (bI0.mpr e))
      obtain ⟨f1, f2, f3⟩ := fEd_word hin eL
      rw [if_pos eL] at hq
      rw [pk_sub (by omega)]
      refine ⟨fun q4 => ?_, fun q4 => ?_⟩
      · have h8 := (nI_leI (b := 8) (by omega) (by omega)).mp q4
        rw [if_neg (by omega)] at hq
        obtain ⟨v1, v2, v3⟩ := vw_c (by omega) h8 f3
        refine c_code h f2 (by omega) (c_spelled (o := 2) (by omega) ?_)
        rw [← v3, sp_word v1 v2]
        exact hq
      · rw [if_pos (Nat.lt_of_not_le (fun z => q4 (nI_le (b := 8) z (by omega))))] at hq; exact hq
  · have : n ≤ i := Nat.le_of_not_lt (fun z => q (nI_lt z (by omega)))
    rw [if_pos this] at hq
    exact hq
end TC1

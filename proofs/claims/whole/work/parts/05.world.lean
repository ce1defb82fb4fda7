/-! THE STATE of the system (class, reference, the law's answer cell) as functions: cells by number, places in them. -/
abbrev St : Type := (Nat → Nat → Int32) × (Nat → Nat → Int64) × (Nat → Nat → Option Nat) × (Nat → Nat → Nat)
abbrev En0 : Type := va_G × (Nat → Nat) × (Nat → Nat) × (Nat → ClassId)
def gI (st : St) (c j : Nat) : Int32 := st.1 c j
def gJ (st : St) (c j : Nat) : Int64 := st.2.1 c j
def gK (st : St) (c j : Nat) : Option Nat := st.2.2.1 c j
def gR (st : St) (c j : Nat) : Nat := st.2.2.2 c j
def sw {α : Type} (f : Nat → Nat → α) (c : Nat) (g : Nat → α) : Nat → Nat → α := fun d => if d = c then g else f d
def sI (st : St) (c : Nat) (g : Nat → Int32) : St := (sw st.1 c g, st.2)
def sJ (st : St) (c : Nat) (g : Nat → Int64) : St := (st.1, sw st.2.1 c g, st.2.2)
def sK (st : St) (c : Nat) (g : Nat → Option Nat) : St := (st.1, st.2.1, sw st.2.2.1 c g, st.2.2.2)
def sR (st : St) (c : Nat) (g : Nat → Nat) : St := (st.1, st.2.1, st.2.2.1, sw st.2.2.2 c g)
def uI (st : St) (c j : Nat) (v : Int32) : St := sI st c (va_up (st.1 c) j v)
def uJ (st : St) (c j : Nat) (v : Int64) : St := sJ st c (va_up (st.2.1 c) j v)
def uK (st : St) (c j : Nat) (v : Option Nat) : St := sK st c (va_up (st.2.2.1 c) j v)
def uR (st : St) (c j : Nat) (v : Nat) : St := sR st c (va_up (st.2.2.2 c) j v)
def kdL : List Nat := [8, 5, 22, 3, 2, 20, 20, 20, 21, 20, 2, 20, 20, 20, 21, 20, 4, 20, 7, 20, 1, 23, 20, 20, 20, 23, 20, 20, 20, 20, 20, 20, 6, 24, 20, 20, 23, 1, 23, 20, 20, 20, 23, 20, 20, 20, 20, 20, 20, 6, 24, 20, 20, 23, 11, 22, 20, 20, 20, 20, 9, 20, 20, 20, 20, 20, 20, 23, 10, 23, 9, 20, 20, 20, 20, 20, 20, 20, 20]
def lnL : List Nat := [0, 0, 1600, 0, 0, 8, 8, 12, 12, 10, 0, 8, 8, 12, 12, 10, 0, 6, 0, 512, 0, 8, 8, 8, 12, 6, 6, 60, 60, 60, 60, 60, 0, 401, 401, 401, 401, 0, 8, 8, 8, 12, 6, 6, 60, 60, 60, 60, 60, 0, 401, 401, 401, 401, 0, 1600, 50, 50, 7, 512, 0, 9, 9, 13, 7, 1600, 1600, 1, 0, 16, 0, 9, 9, 13, 7, 1600, 1600, 5, 13]
def kd (c : Nat) : Nat := kdL.getD c 0
def Cov (lo hi : Nat) (L : List Nat) : Prop := ∀ c, lo ≤ c → c < hi → c ∈ L
theorem Cov.mo {lo hi lo2 hi2 : Nat} {L : List Nat} (h : Cov lo hi L) (h1 : lo ≤ lo2) (h2 : hi2 ≤ hi) : Cov lo2 hi2 L := fun c a b => h c (Nat.le_trans h1 a) (Nat.lt_of_lt_of_le b h2)
def ln (c : Nat) : Nat := lnL.getD c 0
theorem kd_lt {c k : Nat} (h : kd c = k) (hk : k ≠ 0) : c < 79 := by
  apply Nat.lt_of_not_le
  intro h2
  apply hk
  rw [← h]
  show kdL.getD c 0 = 0
  rw [List.getD_eq_getElem?_getD, List.getElem?_eq_none (by exact h2)]
  rfl
theorem kd_all {P : Nat → Prop} {c k : Nat} (h : kd c = k) (hk : k ≠ 0) (ha : ∀ d, d < 79 → kd d = k → P d) : P c := ha c (kd_lt h hk) h
def fl1 (E : En0) (c : Nat) (i : Nat → Int32) (j : Nat → Int64) (k : Nat → Option Nat) (r : Nat → Nat) : List Value := [.ref (E.2.1 (c + 12)), .ref (E.2.1 (c + 1)), .ref (E.2.1 (c + 2)), .ref (E.2.1 (c + 3)), .int (i 4), .ref (E.2.1 (c + 4)), .int (i 6), .ref (E.2.1 (c + 5)), .ref (E.2.1 (c + 6)), .int (i 9), .ref (E.2.1 (c + 7)), .ref (E.2.1 (c + 8)), .ref (E.2.1 (c + 9)), .ref (E.2.1 (c + 10)), .ref (E.2.1 (c + 11)), .int (i 15)]
def fl2 (E : En0) (c : Nat) (i : Nat → Int32) (j : Nat → Int64) (k : Nat → Option Nat) (r : Nat → Nat) : List Value := [.int (i 0), .ref (E.2.1 (c + 1)), .ref (E.2.1 (c + 2)), .int (i 3), .int (i 4), .ref (E.2.1 (c + 3)), .ref (E.2.1 (c + 4)), .int (i 7), .int (i 8), .int (i 9), .int (i 10), .int (i 11), .int (i 12), .int (i 13), .ref (E.2.1 (c + 5))]
def fl3 (E : En0) (c : Nat) (i : Nat → Int32) (j : Nat → Int64) (k : Nat → Option Nat) (r : Nat → Nat) : List Value := [.ref (E.2.1 (r 0)), .ref (E.2.1 (r 1)), .int (i 2), va_re E.2.2.1 (k 3), .int (i 4), .int (i 5)]
def fl4 (E : En0) (c : Nat) (i : Nat → Int32) (j : Nat → Int64) (k : Nat → Option Nat) (r : Nat → Nat) : List Value := [.ref (E.2.1 (r 0)), .ref (E.2.1 (r 1)), .ref (E.2.1 (c + 1)), .int (i 3), .int (i 4)]
def fl5 (E : En0) (c : Nat) (i : Nat → Int32) (j : Nat → Int64) (k : Nat → Option Nat) (r : Nat → Nat) : List Value := [.ref (E.2.1 (c + 1)), .int (i 1)]
def fl6 (E : En0) (c : Nat) (i : Nat → Int32) (j : Nat → Int64) (k : Nat → Option Nat) (r : Nat → Nat) : List Value := [.ref (E.2.1 (c + 1)), .ref (E.2.1 (c + 2)), .ref (E.2.1 (c + 3)), .ref (E.2.1 (c + 4)), .int (i 4)]
def fl7 (E : En0) (c : Nat) (i : Nat → Int32) (j : Nat → Int64) (k : Nat → Option Nat) (r : Nat → Nat) : List Value := [.ref (E.2.1 4), .ref (E.2.1 (c + 1)), .int (i 2)]
def fl8 (E : En0) (c : Nat) (i : Nat → Int32) (j : Nat → Int64) (k : Nat → Option Nat) (r : Nat → Nat) : List Value := [.ref (E.2.1 (c + 1)), .ref (E.2.1 (c + 3)), .ref (E.2.1 (c + 4)), .ref (E.2.1 (c + 10)), .ref (E.2.1 (c + 16)), .ref (E.2.1 (c + 18)), .ref (E.2.1 (r 6)), .ref (E.2.1 (r 7)), .int (i 8)]
def fl9 (E : En0) (c : Nat) (i : Nat → Int32) (j : Nat → Int64) (k : Nat → Option Nat) (r : Nat → Nat) : List Value := [.int (i 0), .int (i 1), .int (i 2), .int (i 3), .ref (E.2.1 (c + 1)), .ref (E.2.1 (c + 2)), .ref (E.2.1 (c + 3)), .ref (E.2.1 (c + 4)), .ref (E.2.1 (c + 5)), .int (i 9), .ref (E.2.1 (c + 6)), .int (i 11)]
def fl10 (E : En0) (c : Nat) (i : Nat → Int32) (j : Nat → Int64) (k : Nat → Option Nat) (r : Nat → Nat) : List Value := [.ref (E.2.1 (c + 2)), .ref (E.2.1 (c + 1)), .int (i 2), .int (i 3), .int (i 4), .int (i 5), .int (i 6), .int (i 7), .int (i 8), .long (j 9), .int (i 10), .int (i 11), .int (i 12), .int (i 13), .ref (E.2.1 54)]
def fl11 (E : En0) (c : Nat) (i : Nat → Int32) (j : Nat → Int64) (k : Nat → Option Nat) (r : Nat → Nat) : List Value := [.int (i 0), .ref (E.2.1 (c + 1)), .int (i 2), .int (i 3), .ref (E.2.1 60), .ref (E.2.1 (c + 2)), .ref (E.2.1 (c + 3)), .ref (E.2.1 (c + 4)), .ref (E.2.1 (c + 5))]
def ent (E : En0) (c : Nat) (i : Nat → Int32) (j : Nat → Int64) (k : Nat → Option Nat) (r : Nat → Nat) : va_E := match kd c with
  | 1 => .inr (0, fl1 E c i j k r)
  | 2 => .inr (1, fl2 E c i j k r)
  | 3 => .inr (2, fl3 E c i j k r)
  | 4 => .inr (3, fl4 E c i j k r)
  | 5 => .inr (4, fl5 E c i j k r)
  | 6 => .inr (5, fl6 E c i j k r)
  | 7 => .inr (6, fl7 E c i j k r)
  | 8 => .inr (7, fl8 E c i j k r)
  | 9 => .inr (8, fl9 E c i j k r)
  | 10 => .inr (9, fl10 E c i j k r)
  | 11 => .inr (10, fl11 E c i j k r)
  | 20 => .inl (E.2.2.2 0, ln c, .inl i)
  | 21 => .inl (E.2.2.2 1, ln c, .inl i)
  | 22 => .inl (E.2.2.2 2, ln c, .inl i)
  | 23 => .inl (E.2.2.2 3, ln c, .inr (.inl j))
  | 24 => .inl (E.2.2.2 4, ln c, .inr (.inr (.inr (.inr fun n => (k n).map E.2.2.1))))
  | _ => .inr (99, [])
def entS (E : En0) (st : St) (c : Nat) : va_E := ent E c (st.1 c) (st.2.1 c) (st.2.2.1 c) (st.2.2.2 c)
def wd (E : En0) (L : List Nat) (st : St) : va_W := L.map (fun c => (E.2.1 c, entS E st c))
def fA (E : En0) (L : List Nat) (sz : Nat) : Nat → Prop := fun q => (∃ c, c ∈ L ∧ E.2.1 c = q) ∨ sz ≤ q
def tyE (E : En0) : List (ClassId × FieldType) := [(E.2.2.2 0, .int), (E.2.2.2 1, .boolean), (E.2.2.2 2, .byte), (E.2.2.2 3, .long), (E.2.2.2 4, .object "PlankBridge$Kind")]
def EK (E : En0) (L : List Nat) : Prop := L.Nodup ∧ ∀ i, i ∈ L → ∀ j, j ∈ L → E.2.1 i = E.2.1 j → i = j
theorem e1 {E : En0} {st : St} {c : Nat} (h : kd c = 1) : entS E st c = .inr (0, fl1 E c (st.1 c) (st.2.1 c) (st.2.2.1 c) (st.2.2.2 c)) := by simp only [entS, ent, h]
theorem e2 {E : En0} {st : St} {c : Nat} (h : kd c = 2) : entS E st c = .inr (1, fl2 E c (st.1 c) (st.2.1 c) (st.2.2.1 c) (st.2.2.2 c)) := by simp only [entS, ent, h]
theorem e3 {E : En0} {st : St} {c : Nat} (h : kd c = 3) : entS E st c = .inr (2, fl3 E c (st.1 c) (st.2.1 c) (st.2.2.1 c) (st.2.2.2 c)) := by simp only [entS, ent, h]
theorem e4 {E : En0} {st : St} {c : Nat} (h : kd c = 4) : entS E st c = .inr (3, fl4 E c (st.1 c) (st.2.1 c) (st.2.2.1 c) (st.2.2.2 c)) := by simp only [entS, ent, h]
theorem e5 {E : En0} {st : St} {c : Nat} (h : kd c = 5) : entS E st c = .inr (4, fl5 E c (st.1 c) (st.2.1 c) (st.2.2.1 c) (st.2.2.2 c)) := by simp only [entS, ent, h]
theorem e6 {E : En0} {st : St} {c : Nat} (h : kd c = 6) : entS E st c = .inr (5, fl6 E c (st.1 c) (st.2.1 c) (st.2.2.1 c) (st.2.2.2 c)) := by simp only [entS, ent, h]
theorem e7 {E : En0} {st : St} {c : Nat} (h : kd c = 7) : entS E st c = .inr (6, fl7 E c (st.1 c) (st.2.1 c) (st.2.2.1 c) (st.2.2.2 c)) := by simp only [entS, ent, h]
theorem e8 {E : En0} {st : St} {c : Nat} (h : kd c = 8) : entS E st c = .inr (7, fl8 E c (st.1 c) (st.2.1 c) (st.2.2.1 c) (st.2.2.2 c)) := by simp only [entS, ent, h]
theorem e9 {E : En0} {st : St} {c : Nat} (h : kd c = 9) : entS E st c = .inr (8, fl9 E c (st.1 c) (st.2.1 c) (st.2.2.1 c) (st.2.2.2 c)) := by simp only [entS, ent, h]
theorem e10 {E : En0} {st : St} {c : Nat} (h : kd c = 10) : entS E st c = .inr (9, fl10 E c (st.1 c) (st.2.1 c) (st.2.2.1 c) (st.2.2.2 c)) := by simp only [entS, ent, h]
theorem e11 {E : En0} {st : St} {c : Nat} (h : kd c = 11) : entS E st c = .inr (10, fl11 E c (st.1 c) (st.2.1 c) (st.2.2.1 c) (st.2.2.2 c)) := by simp only [entS, ent, h]
theorem e20 {E : En0} {st : St} {c : Nat} (h : kd c = 20) : entS E st c = .inl (E.2.2.2 0, ln c, .inl (st.1 c)) := by simp only [entS, ent, h]
theorem e21 {E : En0} {st : St} {c : Nat} (h : kd c = 21) : entS E st c = .inl (E.2.2.2 1, ln c, .inl (st.1 c)) := by simp only [entS, ent, h]
theorem e22 {E : En0} {st : St} {c : Nat} (h : kd c = 22) : entS E st c = .inl (E.2.2.2 2, ln c, .inl (st.1 c)) := by simp only [entS, ent, h]
theorem e23 {E : En0} {st : St} {c : Nat} (h : kd c = 23) : entS E st c = .inl (E.2.2.2 3, ln c, .inr (.inl (st.2.1 c))) := by simp only [entS, ent, h]
theorem e24 {E : En0} {st : St} {c : Nat} (h : kd c = 24) : entS E st c = .inl (E.2.2.2 4, ln c, .inr (.inr (.inr (.inr fun n => (st.2.2.1 c n).map E.2.2.1)))) := by simp only [entS, ent, h]
theorem nd_inj {L : List Nat} (h : L.Nodup) : ∀ {i j c : Nat}, L[i]? = some c → L[j]? = some c → i = j := by
  induction L with
  | nil => intro i j c hi; simp at hi
  | cons a l ih =>
    have h2 := List.nodup_cons.mp h
    intro i j c hi hj
    cases i with
    | zero =>
      cases j with
      | zero => rfl
      | succ j =>
        simp only [List.getElem?_cons_zero, Option.some.injEq] at hi
        rw [List.getElem?_cons_succ] at hj
        exact absurd (List.mem_of_getElem? hj) (hi ▸ h2.1)
    | succ i =>
      cases j with
      | zero =>
        simp only [List.getElem?_cons_zero, Option.some.injEq] at hj
        rw [List.getElem?_cons_succ] at hi
        exact absurd (List.mem_of_getElem? hi) (hj ▸ h2.1)
      | succ j =>
        rw [List.getElem?_cons_succ] at hi hj
        rw [ih h2.2 hi hj]
theorem wd_at {E : En0} {L : List Nat} {st : St} {c : Nat} (hc : c ∈ L) {x : va_E} (hx : entS E st c = x) : ∃ q : Nat, L[q]? = some c ∧ (wd E L st)[q]? = some (E.2.1 c, x) := by
  obtain ⟨q, hq⟩ := List.getElem?_of_mem hc
  exact ⟨q, hq, by subst hx; simp [wd, List.getElem?_map, hq]⟩
theorem wd_set {E : En0} {L : List Nat} {st st' : St} {c q : Nat} (hL : L.Nodup) (hq : L[q]? = some c) {x : va_E} (hx : x = entS E st' c) (ho : ∀ d, d ≠ c → entS E st' d = entS E st d) : (wd E L st).set q (E.2.1 c, x) = wd E L st' := by
  subst hx
  apply List.ext_getElem?
  intro n
  have hql : q < L.length := (List.getElem?_eq_some_iff.mp hq).1
  by_cases hn : n = q
  · subst hn
    rw [List.getElem?_set_self (by simpa [wd] using hql)]
    simp [wd, List.getElem?_map, hq]
  · rw [List.getElem?_set_ne (Ne.symm hn)]
    simp only [wd, List.getElem?_map]
    cases hd : L[n]? with
    | none => rfl
    | some d =>
      have hdc : d ≠ c := by
        intro e
        subst e
        exact hn (nd_inj hL hd hq)
      simp [ho d hdc]
theorem wd_D {E : En0} {L : List Nat} {st : St} {sz : Nat} (h : EK E L) : va_D (fA E L sz) (wd E L st) := by
  have key : ∀ (i : Nat) (p : Nat × va_E), (wd E L st)[i]? = some p → ∃ c, L[i]? = some c ∧ p.1 = E.2.1 c := by
    intro i p hp
    simp only [wd, List.getElem?_map] at hp
    cases hd : L[i]? with
    | none => rw [hd] at hp; cases hp
    | some c => rw [hd] at hp; cases hp; exact ⟨c, rfl, rfl⟩
  refine ⟨fun i j p q hi hj e => ?_, fun k q hk => ?_⟩
  · obtain ⟨c, h1, h2⟩ := key i p hi
    obtain ⟨d, h3, h4⟩ := key j q hj
    have hcd : c = d := h.2 c (List.mem_of_getElem? h1) d (List.mem_of_getElem? h3) (by rw [← h2, ← h4, e])
    subst hcd
    exact nd_inj h.1 h1 h3
  · obtain ⟨c, h1, h2⟩ := key k q hk
    exact Or.inl ⟨c, List.mem_of_getElem? h1, h2.symm⟩
theorem sw_s {α : Type} {f : Nat → Nat → α} {c : Nat} {g : Nat → α} : sw f c g c = g := if_pos rfl
theorem sw_n {α : Type} {f : Nat → Nat → α} {c d : Nat} {g : Nat → α} (h : d ≠ c) : sw f c g d = f d := if_neg h
theorem up_s {α : Type} {f : Nat → α} {j : Nat} {v : α} : va_up f j v j = v := if_pos rfl
theorem up_n {α : Type} {f : Nat → α} {j i : Nat} {v : α} (h : i ≠ j) : va_up f j v i = f i := if_neg h
theorem sI_o {E : En0} {st : St} {c : Nat} {g : Nat → Int32} : ∀ d, d ≠ c → entS E (sI st c g) d = entS E st d := fun d h => by simp only [entS, sI, sw_n h]
theorem sJ_o {E : En0} {st : St} {c : Nat} {g : Nat → Int64} : ∀ d, d ≠ c → entS E (sJ st c g) d = entS E st d := fun d h => by simp only [entS, sJ, sw_n h]
theorem sK_o {E : En0} {st : St} {c : Nat} {g : Nat → Option Nat} : ∀ d, d ≠ c → entS E (sK st c g) d = entS E st d := fun d h => by simp only [entS, sK, sw_n h]
theorem sR_o {E : En0} {st : St} {c : Nat} {g : Nat → Nat} : ∀ d, d ≠ c → entS E (sR st c g) d = entS E st d := fun d h => by simp only [entS, sR, sw_n h]
theorem f1_0 {E : En0} {st : St} {c : Nat} : (fl1 E c (st.1 c) (st.2.1 c) (st.2.2.1 c) (st.2.2.2 c))[0]? = some (.ref (E.2.1 (c + 12))) := rfl
theorem f1_1 {E : En0} {st : St} {c : Nat} : (fl1 E c (st.1 c) (st.2.1 c) (st.2.2.1 c) (st.2.2.2 c))[1]? = some (.ref (E.2.1 (c + 1))) := rfl
theorem f1_2 {E : En0} {st : St} {c : Nat} : (fl1 E c (st.1 c) (st.2.1 c) (st.2.2.1 c) (st.2.2.2 c))[2]? = some (.ref (E.2.1 (c + 2))) := rfl
theorem f1_3 {E : En0} {st : St} {c : Nat} : (fl1 E c (st.1 c) (st.2.1 c) (st.2.2.1 c) (st.2.2.2 c))[3]? = some (.ref (E.2.1 (c + 3))) := rfl
theorem f1_4 {E : En0} {st : St} {c : Nat} : (fl1 E c (st.1 c) (st.2.1 c) (st.2.2.1 c) (st.2.2.2 c))[4]? = some (.int (gI st c 4)) := rfl
theorem s1_4 {E : En0} {st : St} {c : Nat} {v : Int32} : (fl1 E c (st.1 c) (st.2.1 c) (st.2.2.1 c) (st.2.2.2 c)).set 4 (.int v) = fl1 E c ((uI st c 4 v).1 c) ((uI st c 4 v).2.1 c) ((uI st c 4 v).2.2.1 c) ((uI st c 4 v).2.2.2 c) := by simp only [fl1, uI, sI, sw_s]; rfl
theorem f1_5 {E : En0} {st : St} {c : Nat} : (fl1 E c (st.1 c) (st.2.1 c) (st.2.2.1 c) (st.2.2.2 c))[5]? = some (.ref (E.2.1 (c + 4))) := rfl
theorem f1_6 {E : En0} {st : St} {c : Nat} : (fl1 E c (st.1 c) (st.2.1 c) (st.2.2.1 c) (st.2.2.2 c))[6]? = some (.int (gI st c 6)) := rfl
theorem s1_6 {E : En0} {st : St} {c : Nat} {v : Int32} : (fl1 E c (st.1 c) (st.2.1 c) (st.2.2.1 c) (st.2.2.2 c)).set 6 (.int v) = fl1 E c ((uI st c 6 v).1 c) ((uI st c 6 v).2.1 c) ((uI st c 6 v).2.2.1 c) ((uI st c 6 v).2.2.2 c) := by simp only [fl1, uI, sI, sw_s]; rfl
theorem f1_7 {E : En0} {st : St} {c : Nat} : (fl1 E c (st.1 c) (st.2.1 c) (st.2.2.1 c) (st.2.2.2 c))[7]? = some (.ref (E.2.1 (c + 5))) := rfl
theorem f1_8 {E : En0} {st : St} {c : Nat} : (fl1 E c (st.1 c) (st.2.1 c) (st.2.2.1 c) (st.2.2.2 c))[8]? = some (.ref (E.2.1 (c + 6))) := rfl
theorem f1_9 {E : En0} {st : St} {c : Nat} : (fl1 E c (st.1 c) (st.2.1 c) (st.2.2.1 c) (st.2.2.2 c))[9]? = some (.int (gI st c 9)) := rfl
theorem s1_9 {E : En0} {st : St} {c : Nat} {v : Int32} : (fl1 E c (st.1 c) (st.2.1 c) (st.2.2.1 c) (st.2.2.2 c)).set 9 (.int v) = fl1 E c ((uI st c 9 v).1 c) ((uI st c 9 v).2.1 c) ((uI st c 9 v).2.2.1 c) ((uI st c 9 v).2.2.2 c) := by simp only [fl1, uI, sI, sw_s]; rfl
theorem f1_10 {E : En0} {st : St} {c : Nat} : (fl1 E c (st.1 c) (st.2.1 c) (st.2.2.1 c) (st.2.2.2 c))[10]? = some (.ref (E.2.1 (c + 7))) := rfl
theorem f1_11 {E : En0} {st : St} {c : Nat} : (fl1 E c (st.1 c) (st.2.1 c) (st.2.2.1 c) (st.2.2.2 c))[11]? = some (.ref (E.2.1 (c + 8))) := rfl
theorem f1_12 {E : En0} {st : St} {c : Nat} : (fl1 E c (st.1 c) (st.2.1 c) (st.2.2.1 c) (st.2.2.2 c))[12]? = some (.ref (E.2.1 (c + 9))) := rfl
theorem f1_13 {E : En0} {st : St} {c : Nat} : (fl1 E c (st.1 c) (st.2.1 c) (st.2.2.1 c) (st.2.2.2 c))[13]? = some (.ref (E.2.1 (c + 10))) := rfl
theorem f1_14 {E : En0} {st : St} {c : Nat} : (fl1 E c (st.1 c) (st.2.1 c) (st.2.2.1 c) (st.2.2.2 c))[14]? = some (.ref (E.2.1 (c + 11))) := rfl
theorem f1_15 {E : En0} {st : St} {c : Nat} : (fl1 E c (st.1 c) (st.2.1 c) (st.2.2.1 c) (st.2.2.2 c))[15]? = some (.int (gI st c 15)) := rfl
theorem s1_15 {E : En0} {st : St} {c : Nat} {v : Int32} : (fl1 E c (st.1 c) (st.2.1 c) (st.2.2.1 c) (st.2.2.2 c)).set 15 (.int v) = fl1 E c ((uI st c 15 v).1 c) ((uI st c 15 v).2.1 c) ((uI st c 15 v).2.2.1 c) ((uI st c 15 v).2.2.2 c) := by simp only [fl1, uI, sI, sw_s]; rfl
theorem f2_0 {E : En0} {st : St} {c : Nat} : (fl2 E c (st.1 c) (st.2.1 c) (st.2.2.1 c) (st.2.2.2 c))[0]? = some (.int (gI st c 0)) := rfl
theorem s2_0 {E : En0} {st : St} {c : Nat} {v : Int32} : (fl2 E c (st.1 c) (st.2.1 c) (st.2.2.1 c) (st.2.2.2 c)).set 0 (.int v) = fl2 E c ((uI st c 0 v).1 c) ((uI st c 0 v).2.1 c) ((uI st c 0 v).2.2.1 c) ((uI st c 0 v).2.2.2 c) := by simp only [fl2, uI, sI, sw_s]; rfl
theorem f2_1 {E : En0} {st : St} {c : Nat} : (fl2 E c (st.1 c) (st.2.1 c) (st.2.2.1 c) (st.2.2.2 c))[1]? = some (.ref (E.2.1 (c + 1))) := rfl
theorem f2_2 {E : En0} {st : St} {c : Nat} : (fl2 E c (st.1 c) (st.2.1 c) (st.2.2.1 c) (st.2.2.2 c))[2]? = some (.ref (E.2.1 (c + 2))) := rfl
theorem f2_3 {E : En0} {st : St} {c : Nat} : (fl2 E c (st.1 c) (st.2.1 c) (st.2.2.1 c) (st.2.2.2 c))[3]? = some (.int (gI st c 3)) := rfl
theorem s2_3 {E : En0} {st : St} {c : Nat} {v : Int32} : (fl2 E c (st.1 c) (st.2.1 c) (st.2.2.1 c) (st.2.2.2 c)).set 3 (.int v) = fl2 E c ((uI st c 3 v).1 c) ((uI st c 3 v).2.1 c) ((uI st c 3 v).2.2.1 c) ((uI st c 3 v).2.2.2 c) := by simp only [fl2, uI, sI, sw_s]; rfl
theorem f2_4 {E : En0} {st : St} {c : Nat} : (fl2 E c (st.1 c) (st.2.1 c) (st.2.2.1 c) (st.2.2.2 c))[4]? = some (.int (gI st c 4)) := rfl
theorem s2_4 {E : En0} {st : St} {c : Nat} {v : Int32} : (fl2 E c (st.1 c) (st.2.1 c) (st.2.2.1 c) (st.2.2.2 c)).set 4 (.int v) = fl2 E c ((uI st c 4 v).1 c) ((uI st c 4 v).2.1 c) ((uI st c 4 v).2.2.1 c) ((uI st c 4 v).2.2.2 c) := by simp only [fl2, uI, sI, sw_s]; rfl
theorem f2_5 {E : En0} {st : St} {c : Nat} : (fl2 E c (st.1 c) (st.2.1 c) (st.2.2.1 c) (st.2.2.2 c))[5]? = some (.ref (E.2.1 (c + 3))) := rfl
theorem f2_6 {E : En0} {st : St} {c : Nat} : (fl2 E c (st.1 c) (st.2.1 c) (st.2.2.1 c) (st.2.2.2 c))[6]? = some (.ref (E.2.1 (c + 4))) := rfl
theorem f2_7 {E : En0} {st : St} {c : Nat} : (fl2 E c (st.1 c) (st.2.1 c) (st.2.2.1 c) (st.2.2.2 c))[7]? = some (.int (gI st c 7)) := rfl
theorem s2_7 {E : En0} {st : St} {c : Nat} {v : Int32} : (fl2 E c (st.1 c) (st.2.1 c) (st.2.2.1 c) (st.2.2.2 c)).set 7 (.int v) = fl2 E c ((uI st c 7 v).1 c) ((uI st c 7 v).2.1 c) ((uI st c 7 v).2.2.1 c) ((uI st c 7 v).2.2.2 c) := by simp only [fl2, uI, sI, sw_s]; rfl
theorem f2_8 {E : En0} {st : St} {c : Nat} : (fl2 E c (st.1 c) (st.2.1 c) (st.2.2.1 c) (st.2.2.2 c))[8]? = some (.int (gI st c 8)) := rfl
theorem s2_8 {E : En0} {st : St} {c : Nat} {v : Int32} : (fl2 E c (st.1 c) (st.2.1 c) (st.2.2.1 c) (st.2.2.2 c)).set 8 (.int v) = fl2 E c ((uI st c 8 v).1 c) ((uI st c 8 v).2.1 c) ((uI st c 8 v).2.2.1 c) ((uI st c 8 v).2.2.2 c) := by simp only [fl2, uI, sI, sw_s]; rfl
theorem f2_9 {E : En0} {st : St} {c : Nat} : (fl2 E c (st.1 c) (st.2.1 c) (st.2.2.1 c) (st.2.2.2 c))[9]? = some (.int (gI st c 9)) := rfl
theorem s2_9 {E : En0} {st : St} {c : Nat} {v : Int32} : (fl2 E c (st.1 c) (st.2.1 c) (st.2.2.1 c) (st.2.2.2 c)).set 9 (.int v) = fl2 E c ((uI st c 9 v).1 c) ((uI st c 9 v).2.1 c) ((uI st c 9 v).2.2.1 c) ((uI st c 9 v).2.2.2 c) := by simp only [fl2, uI, sI, sw_s]; rfl
theorem f2_10 {E : En0} {st : St} {c : Nat} : (fl2 E c (st.1 c) (st.2.1 c) (st.2.2.1 c) (st.2.2.2 c))[10]? = some (.int (gI st c 10)) := rfl
theorem s2_10 {E : En0} {st : St} {c : Nat} {v : Int32} : (fl2 E c (st.1 c) (st.2.1 c) (st.2.2.1 c) (st.2.2.2 c)).set 10 (.int v) = fl2 E c ((uI st c 10 v).1 c) ((uI st c 10 v).2.1 c) ((uI st c 10 v).2.2.1 c) ((uI st c 10 v).2.2.2 c) := by simp only [fl2, uI, sI, sw_s]; rfl
theorem f2_11 {E : En0} {st : St} {c : Nat} : (fl2 E c (st.1 c) (st.2.1 c) (st.2.2.1 c) (st.2.2.2 c))[11]? = some (.int (gI st c 11)) := rfl
theorem s2_11 {E : En0} {st : St} {c : Nat} {v : Int32} : (fl2 E c (st.1 c) (st.2.1 c) (st.2.2.1 c) (st.2.2.2 c)).set 11 (.int v) = fl2 E c ((uI st c 11 v).1 c) ((uI st c 11 v).2.1 c) ((uI st c 11 v).2.2.1 c) ((uI st c 11 v).2.2.2 c) := by simp only [fl2, uI, sI, sw_s]; rfl
theorem f2_12 {E : En0} {st : St} {c : Nat} : (fl2 E c (st.1 c) (st.2.1 c) (st.2.2.1 c) (st.2.2.2 c))[12]? = some (.int (gI st c 12)) := rfl
theorem s2_12 {E : En0} {st : St} {c : Nat} {v : Int32} : (fl2 E c (st.1 c) (st.2.1 c) (st.2.2.1 c) (st.2.2.2 c)).set 12 (.int v) = fl2 E c ((uI st c 12 v).1 c) ((uI st c 12 v).2.1 c) ((uI st c 12 v).2.2.1 c) ((uI st c 12 v).2.2.2 c) := by simp only [fl2, uI, sI, sw_s]; rfl
theorem f2_13 {E : En0} {st : St} {c : Nat} : (fl2 E c (st.1 c) (st.2.1 c) (st.2.2.1 c) (st.2.2.2 c))[13]? = some (.int (gI st c 13)) := rfl
theorem s2_13 {E : En0} {st : St} {c : Nat} {v : Int32} : (fl2 E c (st.1 c) (st.2.1 c) (st.2.2.1 c) (st.2.2.2 c)).set 13 (.int v) = fl2 E c ((uI st c 13 v).1 c) ((uI st c 13 v).2.1 c) ((uI st c 13 v).2.2.1 c) ((uI st c 13 v).2.2.2 c) := by simp only [fl2, uI, sI, sw_s]; rfl
theorem f2_14 {E : En0} {st : St} {c : Nat} : (fl2 E c (st.1 c) (st.2.1 c) (st.2.2.1 c) (st.2.2.2 c))[14]? = some (.ref (E.2.1 (c + 5))) := rfl
theorem f3_0 {E : En0} {st : St} {c : Nat} : (fl3 E c (st.1 c) (st.2.1 c) (st.2.2.1 c) (st.2.2.2 c))[0]? = some (.ref (E.2.1 (gR st c 0))) := rfl
theorem s3_0 {E : En0} {st : St} {c : Nat} {v : Nat} : (fl3 E c (st.1 c) (st.2.1 c) (st.2.2.1 c) (st.2.2.2 c)).set 0 (.ref (E.2.1 v)) = fl3 E c ((uR st c 0 v).1 c) ((uR st c 0 v).2.1 c) ((uR st c 0 v).2.2.1 c) ((uR st c 0 v).2.2.2 c) := by simp only [fl3, uR, sR, sw_s]; rfl
theorem f3_1 {E : En0} {st : St} {c : Nat} : (fl3 E c (st.1 c) (st.2.1 c) (st.2.2.1 c) (st.2.2.2 c))[1]? = some (.ref (E.2.1 (gR st c 1))) := rfl
theorem s3_1 {E : En0} {st : St} {c : Nat} {v : Nat} : (fl3 E c (st.1 c) (st.2.1 c) (st.2.2.1 c) (st.2.2.2 c)).set 1 (.ref (E.2.1 v)) = fl3 E c ((uR st c 1 v).1 c) ((uR st c 1 v).2.1 c) ((uR st c 1 v).2.2.1 c) ((uR st c 1 v).2.2.2 c) := by simp only [fl3, uR, sR, sw_s]; rfl
theorem f3_2 {E : En0} {st : St} {c : Nat} : (fl3 E c (st.1 c) (st.2.1 c) (st.2.2.1 c) (st.2.2.2 c))[2]? = some (.int (gI st c 2)) := rfl
theorem s3_2 {E : En0} {st : St} {c : Nat} {v : Int32} : (fl3 E c (st.1 c) (st.2.1 c) (st.2.2.1 c) (st.2.2.2 c)).set 2 (.int v) = fl3 E c ((uI st c 2 v).1 c) ((uI st c 2 v).2.1 c) ((uI st c 2 v).2.2.1 c) ((uI st c 2 v).2.2.2 c) := by simp only [fl3, uI, sI, sw_s]; rfl
theorem f3_3 {E : En0} {st : St} {c : Nat} : (fl3 E c (st.1 c) (st.2.1 c) (st.2.2.1 c) (st.2.2.2 c))[3]? = some (va_re E.2.2.1 (gK st c 3)) := rfl
theorem s3_3 {E : En0} {st : St} {c : Nat} {v : Option Nat} : (fl3 E c (st.1 c) (st.2.1 c) (st.2.2.1 c) (st.2.2.2 c)).set 3 (va_re E.2.2.1 v) = fl3 E c ((uK st c 3 v).1 c) ((uK st c 3 v).2.1 c) ((uK st c 3 v).2.2.1 c) ((uK st c 3 v).2.2.2 c) := by simp only [fl3, uK, sK, sw_s]; rfl
theorem f3_4 {E : En0} {st : St} {c : Nat} : (fl3 E c (st.1 c) (st.2.1 c) (st.2.2.1 c) (st.2.2.2 c))[4]? = some (.int (gI st c 4)) := rfl
theorem s3_4 {E : En0} {st : St} {c : Nat} {v : Int32} : (fl3 E c (st.1 c) (st.2.1 c) (st.2.2.1 c) (st.2.2.2 c)).set 4 (.int v) = fl3 E c ((uI st c 4 v).1 c) ((uI st c 4 v).2.1 c) ((uI st c 4 v).2.2.1 c) ((uI st c 4 v).2.2.2 c) := by simp only [fl3, uI, sI, sw_s]; rfl
theorem f3_5 {E : En0} {st : St} {c : Nat} : (fl3 E c (st.1 c) (st.2.1 c) (st.2.2.1 c) (st.2.2.2 c))[5]? = some (.int (gI st c 5)) := rfl
theorem s3_5 {E : En0} {st : St} {c : Nat} {v : Int32} : (fl3 E c (st.1 c) (st.2.1 c) (st.2.2.1 c) (st.2.2.2 c)).set 5 (.int v) = fl3 E c ((uI st c 5 v).1 c) ((uI st c 5 v).2.1 c) ((uI st c 5 v).2.2.1 c) ((uI st c 5 v).2.2.2 c) := by simp only [fl3, uI, sI, sw_s]; rfl
theorem f4_0 {E : En0} {st : St} {c : Nat} : (fl4 E c (st.1 c) (st.2.1 c) (st.2.2.1 c) (st.2.2.2 c))[0]? = some (.ref (E.2.1 (gR st c 0))) := rfl
theorem s4_0 {E : En0} {st : St} {c : Nat} {v : Nat} : (fl4 E c (st.1 c) (st.2.1 c) (st.2.2.1 c) (st.2.2.2 c)).set 0 (.ref (E.2.1 v)) = fl4 E c ((uR st c 0 v).1 c) ((uR st c 0 v).2.1 c) ((uR st c 0 v).2.2.1 c) ((uR st c 0 v).2.2.2 c) := by simp only [fl4, uR, sR, sw_s]; rfl
theorem f4_1 {E : En0} {st : St} {c : Nat} : (fl4 E c (st.1 c) (st.2.1 c) (st.2.2.1 c) (st.2.2.2 c))[1]? = some (.ref (E.2.1 (gR st c 1))) := rfl
theorem s4_1 {E : En0} {st : St} {c : Nat} {v : Nat} : (fl4 E c (st.1 c) (st.2.1 c) (st.2.2.1 c) (st.2.2.2 c)).set 1 (.ref (E.2.1 v)) = fl4 E c ((uR st c 1 v).1 c) ((uR st c 1 v).2.1 c) ((uR st c 1 v).2.2.1 c) ((uR st c 1 v).2.2.2 c) := by simp only [fl4, uR, sR, sw_s]; rfl
theorem f4_2 {E : En0} {st : St} {c : Nat} : (fl4 E c (st.1 c) (st.2.1 c) (st.2.2.1 c) (st.2.2.2 c))[2]? = some (.ref (E.2.1 (c + 1))) := rfl
theorem f4_3 {E : En0} {st : St} {c : Nat} : (fl4 E c (st.1 c) (st.2.1 c) (st.2.2.1 c) (st.2.2.2 c))[3]? = some (.int (gI st c 3)) := rfl
theorem s4_3 {E : En0} {st : St} {c : Nat} {v : Int32} : (fl4 E c (st.1 c) (st.2.1 c) (st.2.2.1 c) (st.2.2.2 c)).set 3 (.int v) = fl4 E c ((uI st c 3 v).1 c) ((uI st c 3 v).2.1 c) ((uI st c 3 v).2.2.1 c) ((uI st c 3 v).2.2.2 c) := by simp only [fl4, uI, sI, sw_s]; rfl
theorem f4_4 {E : En0} {st : St} {c : Nat} : (fl4 E c (st.1 c) (st.2.1 c) (st.2.2.1 c) (st.2.2.2 c))[4]? = some (.int (gI st c 4)) := rfl
theorem s4_4 {E : En0} {st : St} {c : Nat} {v : Int32} : (fl4 E c (st.1 c) (st.2.1 c) (st.2.2.1 c) (st.2.2.2 c)).set 4 (.int v) = fl4 E c ((uI st c 4 v).1 c) ((uI st c 4 v).2.1 c) ((uI st c 4 v).2.2.1 c) ((uI st c 4 v).2.2.2 c) := by simp only [fl4, uI, sI, sw_s]; rfl
theorem f5_0 {E : En0} {st : St} {c : Nat} : (fl5 E c (st.1 c) (st.2.1 c) (st.2.2.1 c) (st.2.2.2 c))[0]? = some (.ref (E.2.1 (c + 1))) := rfl
theorem f5_1 {E : En0} {st : St} {c : Nat} : (fl5 E c (st.1 c) (st.2.1 c) (st.2.2.1 c) (st.2.2.2 c))[1]? = some (.int (gI st c 1)) := rfl
theorem s5_1 {E : En0} {st : St} {c : Nat} {v : Int32} : (fl5 E c (st.1 c) (st.2.1 c) (st.2.2.1 c) (st.2.2.2 c)).set 1 (.int v) = fl5 E c ((uI st c 1 v).1 c) ((uI st c 1 v).2.1 c) ((uI st c 1 v).2.2.1 c) ((uI st c 1 v).2.2.2 c) := by simp only [fl5, uI, sI, sw_s]; rfl
theorem f6_0 {E : En0} {st : St} {c : Nat} : (fl6 E c (st.1 c) (st.2.1 c) (st.2.2.1 c) (st.2.2.2 c))[0]? = some (.ref (E.2.1 (c + 1))) := rfl
theorem f6_1 {E : En0} {st : St} {c : Nat} : (fl6 E c (st.1 c) (st.2.1 c) (st.2.2.1 c) (st.2.2.2 c))[1]? = some (.ref (E.2.1 (c + 2))) := rfl
theorem f6_2 {E : En0} {st : St} {c : Nat} : (fl6 E c (st.1 c) (st.2.1 c) (st.2.2.1 c) (st.2.2.2 c))[2]? = some (.ref (E.2.1 (c + 3))) := rfl
theorem f6_3 {E : En0} {st : St} {c : Nat} : (fl6 E c (st.1 c) (st.2.1 c) (st.2.2.1 c) (st.2.2.2 c))[3]? = some (.ref (E.2.1 (c + 4))) := rfl
theorem f6_4 {E : En0} {st : St} {c : Nat} : (fl6 E c (st.1 c) (st.2.1 c) (st.2.2.1 c) (st.2.2.2 c))[4]? = some (.int (gI st c 4)) := rfl
theorem s6_4 {E : En0} {st : St} {c : Nat} {v : Int32} : (fl6 E c (st.1 c) (st.2.1 c) (st.2.2.1 c) (st.2.2.2 c)).set 4 (.int v) = fl6 E c ((uI st c 4 v).1 c) ((uI st c 4 v).2.1 c) ((uI st c 4 v).2.2.1 c) ((uI st c 4 v).2.2.2 c) := by simp only [fl6, uI, sI, sw_s]; rfl
theorem f7_0 {E : En0} {st : St} {c : Nat} : (fl7 E c (st.1 c) (st.2.1 c) (st.2.2.1 c) (st.2.2.2 c))[0]? = some (.ref (E.2.1 4)) := rfl
theorem f7_1 {E : En0} {st : St} {c : Nat} : (fl7 E c (st.1 c) (st.2.1 c) (st.2.2.1 c) (st.2.2.2 c))[1]? = some (.ref (E.2.1 (c + 1))) := rfl
theorem f7_2 {E : En0} {st : St} {c : Nat} : (fl7 E c (st.1 c) (st.2.1 c) (st.2.2.1 c) (st.2.2.2 c))[2]? = some (.int (gI st c 2)) := rfl
theorem s7_2 {E : En0} {st : St} {c : Nat} {v : Int32} : (fl7 E c (st.1 c) (st.2.1 c) (st.2.2.1 c) (st.2.2.2 c)).set 2 (.int v) = fl7 E c ((uI st c 2 v).1 c) ((uI st c 2 v).2.1 c) ((uI st c 2 v).2.2.1 c) ((uI st c 2 v).2.2.2 c) := by simp only [fl7, uI, sI, sw_s]; rfl
theorem f8_0 {E : En0} {st : St} {c : Nat} : (fl8 E c (st.1 c) (st.2.1 c) (st.2.2.1 c) (st.2.2.2 c))[0]? = some (.ref (E.2.1 (c + 1))) := rfl
theorem f8_1 {E : En0} {st : St} {c : Nat} : (fl8 E c (st.1 c) (st.2.1 c) (st.2.2.1 c) (st.2.2.2 c))[1]? = some (.ref (E.2.1 (c + 3))) := rfl
theorem f8_2 {E : En0} {st : St} {c : Nat} : (fl8 E c (st.1 c) (st.2.1 c) (st.2.2.1 c) (st.2.2.2 c))[2]? = some (.ref (E.2.1 (c + 4))) := rfl
theorem f8_3 {E : En0} {st : St} {c : Nat} : (fl8 E c (st.1 c) (st.2.1 c) (st.2.2.1 c) (st.2.2.2 c))[3]? = some (.ref (E.2.1 (c + 10))) := rfl
theorem f8_4 {E : En0} {st : St} {c : Nat} : (fl8 E c (st.1 c) (st.2.1 c) (st.2.2.1 c) (st.2.2.2 c))[4]? = some (.ref (E.2.1 (c + 16))) := rfl
theorem f8_5 {E : En0} {st : St} {c : Nat} : (fl8 E c (st.1 c) (st.2.1 c) (st.2.2.1 c) (st.2.2.2 c))[5]? = some (.ref (E.2.1 (c + 18))) := rfl
theorem f8_6 {E : En0} {st : St} {c : Nat} : (fl8 E c (st.1 c) (st.2.1 c) (st.2.2.1 c) (st.2.2.2 c))[6]? = some (.ref (E.2.1 (gR st c 6))) := rfl
theorem s8_6 {E : En0} {st : St} {c : Nat} {v : Nat} : (fl8 E c (st.1 c) (st.2.1 c) (st.2.2.1 c) (st.2.2.2 c)).set 6 (.ref (E.2.1 v)) = fl8 E c ((uR st c 6 v).1 c) ((uR st c 6 v).2.1 c) ((uR st c 6 v).2.2.1 c) ((uR st c 6 v).2.2.2 c) := by simp only [fl8, uR, sR, sw_s]; rfl
theorem f8_7 {E : En0} {st : St} {c : Nat} : (fl8 E c (st.1 c) (st.2.1 c) (st.2.2.1 c) (st.2.2.2 c))[7]? = some (.ref (E.2.1 (gR st c 7))) := rfl
theorem s8_7 {E : En0} {st : St} {c : Nat} {v : Nat} : (fl8 E c (st.1 c) (st.2.1 c) (st.2.2.1 c) (st.2.2.2 c)).set 7 (.ref (E.2.1 v)) = fl8 E c ((uR st c 7 v).1 c) ((uR st c 7 v).2.1 c) ((uR st c 7 v).2.2.1 c) ((uR st c 7 v).2.2.2 c) := by simp only [fl8, uR, sR, sw_s]; rfl
theorem f8_8 {E : En0} {st : St} {c : Nat} : (fl8 E c (st.1 c) (st.2.1 c) (st.2.2.1 c) (st.2.2.2 c))[8]? = some (.int (gI st c 8)) := rfl
theorem s8_8 {E : En0} {st : St} {c : Nat} {v : Int32} : (fl8 E c (st.1 c) (st.2.1 c) (st.2.2.1 c) (st.2.2.2 c)).set 8 (.int v) = fl8 E c ((uI st c 8 v).1 c) ((uI st c 8 v).2.1 c) ((uI st c 8 v).2.2.1 c) ((uI st c 8 v).2.2.2 c) := by simp only [fl8, uI, sI, sw_s]; rfl
theorem f9_0 {E : En0} {st : St} {c : Nat} : (fl9 E c (st.1 c) (st.2.1 c) (st.2.2.1 c) (st.2.2.2 c))[0]? = some (.int (gI st c 0)) := rfl
theorem s9_0 {E : En0} {st : St} {c : Nat} {v : Int32} : (fl9 E c (st.1 c) (st.2.1 c) (st.2.2.1 c) (st.2.2.2 c)).set 0 (.int v) = fl9 E c ((uI st c 0 v).1 c) ((uI st c 0 v).2.1 c) ((uI st c 0 v).2.2.1 c) ((uI st c 0 v).2.2.2 c) := by simp only [fl9, uI, sI, sw_s]; rfl
theorem f9_1 {E : En0} {st : St} {c : Nat} : (fl9 E c (st.1 c) (st.2.1 c) (st.2.2.1 c) (st.2.2.2 c))[1]? = some (.int (gI st c 1)) := rfl
theorem s9_1 {E : En0} {st : St} {c : Nat} {v : Int32} : (fl9 E c (st.1 c) (st.2.1 c) (st.2.2.1 c) (st.2.2.2 c)).set 1 (.int v) = fl9 E c ((uI st c 1 v).1 c) ((uI st c 1 v).2.1 c) ((uI st c 1 v).2.2.1 c) ((uI st c 1 v).2.2.2 c) := by simp only [fl9, uI, sI, sw_s]; rfl
theorem f9_2 {E : En0} {st : St} {c : Nat} : (fl9 E c (st.1 c) (st.2.1 c) (st.2.2.1 c) (st.2.2.2 c))[2]? = some (.int (gI st c 2)) := rfl
theorem s9_2 {E : En0} {st : St} {c : Nat} {v : Int32} : (fl9 E c (st.1 c) (st.2.1 c) (st.2.2.1 c) (st.2.2.2 c)).set 2 (.int v) = fl9 E c ((uI st c 2 v).1 c) ((uI st c 2 v).2.1 c) ((uI st c 2 v).2.2.1 c) ((uI st c 2 v).2.2.2 c) := by simp only [fl9, uI, sI, sw_s]; rfl
theorem f9_3 {E : En0} {st : St} {c : Nat} : (fl9 E c (st.1 c) (st.2.1 c) (st.2.2.1 c) (st.2.2.2 c))[3]? = some (.int (gI st c 3)) := rfl
theorem s9_3 {E : En0} {st : St} {c : Nat} {v : Int32} : (fl9 E c (st.1 c) (st.2.1 c) (st.2.2.1 c) (st.2.2.2 c)).set 3 (.int v) = fl9 E c ((uI st c 3 v).1 c) ((uI st c 3 v).2.1 c) ((uI st c 3 v).2.2.1 c) ((uI st c 3 v).2.2.2 c) := by simp only [fl9, uI, sI, sw_s]; rfl
theorem f9_4 {E : En0} {st : St} {c : Nat} : (fl9 E c (st.1 c) (st.2.1 c) (st.2.2.1 c) (st.2.2.2 c))[4]? = some (.ref (E.2.1 (c + 1))) := rfl
theorem f9_5 {E : En0} {st : St} {c : Nat} : (fl9 E c (st.1 c) (st.2.1 c) (st.2.2.1 c) (st.2.2.2 c))[5]? = some (.ref (E.2.1 (c + 2))) := rfl
theorem f9_6 {E : En0} {st : St} {c : Nat} : (fl9 E c (st.1 c) (st.2.1 c) (st.2.2.1 c) (st.2.2.2 c))[6]? = some (.ref (E.2.1 (c + 3))) := rfl
theorem f9_7 {E : En0} {st : St} {c : Nat} : (fl9 E c (st.1 c) (st.2.1 c) (st.2.2.1 c) (st.2.2.2 c))[7]? = some (.ref (E.2.1 (c + 4))) := rfl
theorem f9_8 {E : En0} {st : St} {c : Nat} : (fl9 E c (st.1 c) (st.2.1 c) (st.2.2.1 c) (st.2.2.2 c))[8]? = some (.ref (E.2.1 (c + 5))) := rfl
theorem f9_9 {E : En0} {st : St} {c : Nat} : (fl9 E c (st.1 c) (st.2.1 c) (st.2.2.1 c) (st.2.2.2 c))[9]? = some (.int (gI st c 9)) := rfl
theorem s9_9 {E : En0} {st : St} {c : Nat} {v : Int32} : (fl9 E c (st.1 c) (st.2.1 c) (st.2.2.1 c) (st.2.2.2 c)).set 9 (.int v) = fl9 E c ((uI st c 9 v).1 c) ((uI st c 9 v).2.1 c) ((uI st c 9 v).2.2.1 c) ((uI st c 9 v).2.2.2 c) := by simp only [fl9, uI, sI, sw_s]; rfl
theorem f9_10 {E : En0} {st : St} {c : Nat} : (fl9 E c (st.1 c) (st.2.1 c) (st.2.2.1 c) (st.2.2.2 c))[10]? = some (.ref (E.2.1 (c + 6))) := rfl
theorem f9_11 {E : En0} {st : St} {c : Nat} : (fl9 E c (st.1 c) (st.2.1 c) (st.2.2.1 c) (st.2.2.2 c))[11]? = some (.int (gI st c 11)) := rfl
theorem s9_11 {E : En0} {st : St} {c : Nat} {v : Int32} : (fl9 E c (st.1 c) (st.2.1 c) (st.2.2.1 c) (st.2.2.2 c)).set 11 (.int v) = fl9 E c ((uI st c 11 v).1 c) ((uI st c 11 v).2.1 c) ((uI st c 11 v).2.2.1 c) ((uI st c 11 v).2.2.2 c) := by simp only [fl9, uI, sI, sw_s]; rfl
theorem f10_0 {E : En0} {st : St} {c : Nat} : (fl10 E c (st.1 c) (st.2.1 c) (st.2.2.1 c) (st.2.2.2 c))[0]? = some (.ref (E.2.1 (c + 2))) := rfl
theorem f10_1 {E : En0} {st : St} {c : Nat} : (fl10 E c (st.1 c) (st.2.1 c) (st.2.2.1 c) (st.2.2.2 c))[1]? = some (.ref (E.2.1 (c + 1))) := rfl
theorem f10_2 {E : En0} {st : St} {c : Nat} : (fl10 E c (st.1 c) (st.2.1 c) (st.2.2.1 c) (st.2.2.2 c))[2]? = some (.int (gI st c 2)) := rfl
theorem s10_2 {E : En0} {st : St} {c : Nat} {v : Int32} : (fl10 E c (st.1 c) (st.2.1 c) (st.2.2.1 c) (st.2.2.2 c)).set 2 (.int v) = fl10 E c ((uI st c 2 v).1 c) ((uI st c 2 v).2.1 c) ((uI st c 2 v).2.2.1 c) ((uI st c 2 v).2.2.2 c) := by simp only [fl10, uI, sI, sw_s]; rfl
theorem f10_3 {E : En0} {st : St} {c : Nat} : (fl10 E c (st.1 c) (st.2.1 c) (st.2.2.1 c) (st.2.2.2 c))[3]? = some (.int (gI st c 3)) := rfl
theorem s10_3 {E : En0} {st : St} {c : Nat} {v : Int32} : (fl10 E c (st.1 c) (st.2.1 c) (st.2.2.1 c) (st.2.2.2 c)).set 3 (.int v) = fl10 E c ((uI st c 3 v).1 c) ((uI st c 3 v).2.1 c) ((uI st c 3 v).2.2.1 c) ((uI st c 3 v).2.2.2 c) := by simp only [fl10, uI, sI, sw_s]; rfl
theorem f10_4 {E : En0} {st : St} {c : Nat} : (fl10 E c (st.1 c) (st.2.1 c) (st.2.2.1 c) (st.2.2.2 c))[4]? = some (.int (gI st c 4)) := rfl
theorem s10_4 {E : En0} {st : St} {c : Nat} {v : Int32} : (fl10 E c (st.1 c) (st.2.1 c) (st.2.2.1 c) (st.2.2.2 c)).set 4 (.int v) = fl10 E c ((uI st c 4 v).1 c) ((uI st c 4 v).2.1 c) ((uI st c 4 v).2.2.1 c) ((uI st c 4 v).2.2.2 c) := by simp only [fl10, uI, sI, sw_s]; rfl
theorem f10_5 {E : En0} {st : St} {c : Nat} : (fl10 E c (st.1 c) (st.2.1 c) (st.2.2.1 c) (st.2.2.2 c))[5]? = some (.int (gI st c 5)) := rfl
theorem s10_5 {E : En0} {st : St} {c : Nat} {v : Int32} : (fl10 E c (st.1 c) (st.2.1 c) (st.2.2.1 c) (st.2.2.2 c)).set 5 (.int v) = fl10 E c ((uI st c 5 v).1 c) ((uI st c 5 v).2.1 c) ((uI st c 5 v).2.2.1 c) ((uI st c 5 v).2.2.2 c) := by simp only [fl10, uI, sI, sw_s]; rfl
theorem f10_6 {E : En0} {st : St} {c : Nat} : (fl10 E c (st.1 c) (st.2.1 c) (st.2.2.1 c) (st.2.2.2 c))[6]? = some (.int (gI st c 6)) := rfl
theorem s10_6 {E : En0} {st : St} {c : Nat} {v : Int32} : (fl10 E c (st.1 c) (st.2.1 c) (st.2.2.1 c) (st.2.2.2 c)).set 6 (.int v) = fl10 E c ((uI st c 6 v).1 c) ((uI st c 6 v).2.1 c) ((uI st c 6 v).2.2.1 c) ((uI st c 6 v).2.2.2 c) := by simp only [fl10, uI, sI, sw_s]; rfl
theorem f10_7 {E : En0} {st : St} {c : Nat} : (fl10 E c (st.1 c) (st.2.1 c) (st.2.2.1 c) (st.2.2.2 c))[7]? = some (.int (gI st c 7)) := rfl
theorem s10_7 {E : En0} {st : St} {c : Nat} {v : Int32} : (fl10 E c (st.1 c) (st.2.1 c) (st.2.2.1 c) (st.2.2.2 c)).set 7 (.int v) = fl10 E c ((uI st c 7 v).1 c) ((uI st c 7 v).2.1 c) ((uI st c 7 v).2.2.1 c) ((uI st c 7 v).2.2.2 c) := by simp only [fl10, uI, sI, sw_s]; rfl
theorem f10_8 {E : En0} {st : St} {c : Nat} : (fl10 E c (st.1 c) (st.2.1 c) (st.2.2.1 c) (st.2.2.2 c))[8]? = some (.int (gI st c 8)) := rfl
theorem s10_8 {E : En0} {st : St} {c : Nat} {v : Int32} : (fl10 E c (st.1 c) (st.2.1 c) (st.2.2.1 c) (st.2.2.2 c)).set 8 (.int v) = fl10 E c ((uI st c 8 v).1 c) ((uI st c 8 v).2.1 c) ((uI st c 8 v).2.2.1 c) ((uI st c 8 v).2.2.2 c) := by simp only [fl10, uI, sI, sw_s]; rfl
theorem f10_9 {E : En0} {st : St} {c : Nat} : (fl10 E c (st.1 c) (st.2.1 c) (st.2.2.1 c) (st.2.2.2 c))[9]? = some (.long (gJ st c 9)) := rfl
theorem s10_9 {E : En0} {st : St} {c : Nat} {v : Int64} : (fl10 E c (st.1 c) (st.2.1 c) (st.2.2.1 c) (st.2.2.2 c)).set 9 (.long v) = fl10 E c ((uJ st c 9 v).1 c) ((uJ st c 9 v).2.1 c) ((uJ st c 9 v).2.2.1 c) ((uJ st c 9 v).2.2.2 c) := by simp only [fl10, uJ, sJ, sw_s]; rfl
theorem f10_10 {E : En0} {st : St} {c : Nat} : (fl10 E c (st.1 c) (st.2.1 c) (st.2.2.1 c) (st.2.2.2 c))[10]? = some (.int (gI st c 10)) := rfl
theorem s10_10 {E : En0} {st : St} {c : Nat} {v : Int32} : (fl10 E c (st.1 c) (st.2.1 c) (st.2.2.1 c) (st.2.2.2 c)).set 10 (.int v) = fl10 E c ((uI st c 10 v).1 c) ((uI st c 10 v).2.1 c) ((uI st c 10 v).2.2.1 c) ((uI st c 10 v).2.2.2 c) := by simp only [fl10, uI, sI, sw_s]; rfl
theorem f10_11 {E : En0} {st : St} {c : Nat} : (fl10 E c (st.1 c) (st.2.1 c) (st.2.2.1 c) (st.2.2.2 c))[11]? = some (.int (gI st c 11)) := rfl
theorem s10_11 {E : En0} {st : St} {c : Nat} {v : Int32} : (fl10 E c (st.1 c) (st.2.1 c) (st.2.2.1 c) (st.2.2.2 c)).set 11 (.int v) = fl10 E c ((uI st c 11 v).1 c) ((uI st c 11 v).2.1 c) ((uI st c 11 v).2.2.1 c) ((uI st c 11 v).2.2.2 c) := by simp only [fl10, uI, sI, sw_s]; rfl
theorem f10_12 {E : En0} {st : St} {c : Nat} : (fl10 E c (st.1 c) (st.2.1 c) (st.2.2.1 c) (st.2.2.2 c))[12]? = some (.int (gI st c 12)) := rfl
theorem s10_12 {E : En0} {st : St} {c : Nat} {v : Int32} : (fl10 E c (st.1 c) (st.2.1 c) (st.2.2.1 c) (st.2.2.2 c)).set 12 (.int v) = fl10 E c ((uI st c 12 v).1 c) ((uI st c 12 v).2.1 c) ((uI st c 12 v).2.2.1 c) ((uI st c 12 v).2.2.2 c) := by simp only [fl10, uI, sI, sw_s]; rfl
theorem f10_13 {E : En0} {st : St} {c : Nat} : (fl10 E c (st.1 c) (st.2.1 c) (st.2.2.1 c) (st.2.2.2 c))[13]? = some (.int (gI st c 13)) := rfl
theorem s10_13 {E : En0} {st : St} {c : Nat} {v : Int32} : (fl10 E c (st.1 c) (st.2.1 c) (st.2.2.1 c) (st.2.2.2 c)).set 13 (.int v) = fl10 E c ((uI st c 13 v).1 c) ((uI st c 13 v).2.1 c) ((uI st c 13 v).2.2.1 c) ((uI st c 13 v).2.2.2 c) := by simp only [fl10, uI, sI, sw_s]; rfl
theorem f10_14 {E : En0} {st : St} {c : Nat} : (fl10 E c (st.1 c) (st.2.1 c) (st.2.2.1 c) (st.2.2.2 c))[14]? = some (.ref (E.2.1 54)) := rfl
theorem f11_0 {E : En0} {st : St} {c : Nat} : (fl11 E c (st.1 c) (st.2.1 c) (st.2.2.1 c) (st.2.2.2 c))[0]? = some (.int (gI st c 0)) := rfl
theorem s11_0 {E : En0} {st : St} {c : Nat} {v : Int32} : (fl11 E c (st.1 c) (st.2.1 c) (st.2.2.1 c) (st.2.2.2 c)).set 0 (.int v) = fl11 E c ((uI st c 0 v).1 c) ((uI st c 0 v).2.1 c) ((uI st c 0 v).2.2.1 c) ((uI st c 0 v).2.2.2 c) := by simp only [fl11, uI, sI, sw_s]; rfl
theorem f11_1 {E : En0} {st : St} {c : Nat} : (fl11 E c (st.1 c) (st.2.1 c) (st.2.2.1 c) (st.2.2.2 c))[1]? = some (.ref (E.2.1 (c + 1))) := rfl
theorem f11_2 {E : En0} {st : St} {c : Nat} : (fl11 E c (st.1 c) (st.2.1 c) (st.2.2.1 c) (st.2.2.2 c))[2]? = some (.int (gI st c 2)) := rfl
theorem s11_2 {E : En0} {st : St} {c : Nat} {v : Int32} : (fl11 E c (st.1 c) (st.2.1 c) (st.2.2.1 c) (st.2.2.2 c)).set 2 (.int v) = fl11 E c ((uI st c 2 v).1 c) ((uI st c 2 v).2.1 c) ((uI st c 2 v).2.2.1 c) ((uI st c 2 v).2.2.2 c) := by simp only [fl11, uI, sI, sw_s]; rfl
theorem f11_3 {E : En0} {st : St} {c : Nat} : (fl11 E c (st.1 c) (st.2.1 c) (st.2.2.1 c) (st.2.2.2 c))[3]? = some (.int (gI st c 3)) := rfl
theorem s11_3 {E : En0} {st : St} {c : Nat} {v : Int32} : (fl11 E c (st.1 c) (st.2.1 c) (st.2.2.1 c) (st.2.2.2 c)).set 3 (.int v) = fl11 E c ((uI st c 3 v).1 c) ((uI st c 3 v).2.1 c) ((uI st c 3 v).2.2.1 c) ((uI st c 3 v).2.2.2 c) := by simp only [fl11, uI, sI, sw_s]; rfl
theorem f11_4 {E : En0} {st : St} {c : Nat} : (fl11 E c (st.1 c) (st.2.1 c) (st.2.2.1 c) (st.2.2.2 c))[4]? = some (.ref (E.2.1 60)) := rfl
theorem f11_5 {E : En0} {st : St} {c : Nat} : (fl11 E c (st.1 c) (st.2.1 c) (st.2.2.1 c) (st.2.2.2 c))[5]? = some (.ref (E.2.1 (c + 2))) := rfl
theorem f11_6 {E : En0} {st : St} {c : Nat} : (fl11 E c (st.1 c) (st.2.1 c) (st.2.2.1 c) (st.2.2.2 c))[6]? = some (.ref (E.2.1 (c + 3))) := rfl
theorem f11_7 {E : En0} {st : St} {c : Nat} : (fl11 E c (st.1 c) (st.2.1 c) (st.2.2.1 c) (st.2.2.2 c))[7]? = some (.ref (E.2.1 (c + 4))) := rfl
theorem f11_8 {E : En0} {st : St} {c : Nat} : (fl11 E c (st.1 c) (st.2.1 c) (st.2.2.1 c) (st.2.2.2 c))[8]? = some (.ref (E.2.1 (c + 5))) := rfl
theorem k1_1 {b : Nat} (h : kd b = 1) : kd (b + 1) = 23 := kd_all (P := fun b => kd (b + 1) = 23) h (by decide) (by decide +kernel)
theorem l1_1 {b : Nat} (h : kd b = 1) : ln (b + 1) = 8 := kd_all (P := fun b => ln (b + 1) = 8) h (by decide) (by decide +kernel)
theorem m1_1 {b : Nat} {L : List Nat} (h : kd b = 1) (hL : Cov 0 54 L) : b + 1 ∈ L := hL _ (kd_all (P := fun b => 0 ≤ b + 1) h (by decide) (by decide +kernel)) (kd_all (P := fun b => b + 1 < 54) h (by decide) (by decide +kernel))
theorem k1_2 {b : Nat} (h : kd b = 1) : kd (b + 2) = 20 := kd_all (P := fun b => kd (b + 2) = 20) h (by decide) (by decide +kernel)
theorem l1_2 {b : Nat} (h : kd b = 1) : ln (b + 2) = 8 := kd_all (P := fun b => ln (b + 2) = 8) h (by decide) (by decide +kernel)
theorem m1_2 {b : Nat} {L : List Nat} (h : kd b = 1) (hL : Cov 0 54 L) : b + 2 ∈ L := hL _ (kd_all (P := fun b => 0 ≤ b + 2) h (by decide) (by decide +kernel)) (kd_all (P := fun b => b + 2 < 54) h (by decide) (by decide +kernel))
theorem k1_3 {b : Nat} (h : kd b = 1) : kd (b + 3) = 20 := kd_all (P := fun b => kd (b + 3) = 20) h (by decide) (by decide +kernel)
theorem l1_3 {b : Nat} (h : kd b = 1) : ln (b + 3) = 8 := kd_all (P := fun b => ln (b + 3) = 8) h (by decide) (by decide +kernel)
theorem m1_3 {b : Nat} {L : List Nat} (h : kd b = 1) (hL : Cov 0 54 L) : b + 3 ∈ L := hL _ (kd_all (P := fun b => 0 ≤ b + 3) h (by decide) (by decide +kernel)) (kd_all (P := fun b => b + 3 < 54) h (by decide) (by decide +kernel))
theorem k1_4 {b : Nat} (h : kd b = 1) : kd (b + 4) = 20 := kd_all (P := fun b => kd (b + 4) = 20) h (by decide) (by decide +kernel)
theorem l1_4 {b : Nat} (h : kd b = 1) : ln (b + 4) = 12 := kd_all (P := fun b => ln (b + 4) = 12) h (by decide) (by decide +kernel)
theorem m1_4 {b : Nat} {L : List Nat} (h : kd b = 1) (hL : Cov 0 54 L) : b + 4 ∈ L := hL _ (kd_all (P := fun b => 0 ≤ b + 4) h (by decide) (by decide +kernel)) (kd_all (P := fun b => b + 4 < 54) h (by decide) (by decide +kernel))
theorem k1_5 {b : Nat} (h : kd b = 1) : kd (b + 5) = 23 := kd_all (P := fun b => kd (b + 5) = 23) h (by decide) (by decide +kernel)
theorem l1_5 {b : Nat} (h : kd b = 1) : ln (b + 5) = 6 := kd_all (P := fun b => ln (b + 5) = 6) h (by decide) (by decide +kernel)
theorem m1_5 {b : Nat} {L : List Nat} (h : kd b = 1) (hL : Cov 0 54 L) : b + 5 ∈ L := hL _ (kd_all (P := fun b => 0 ≤ b + 5) h (by decide) (by decide +kernel)) (kd_all (P := fun b => b + 5 < 54) h (by decide) (by decide +kernel))
theorem k1_6 {b : Nat} (h : kd b = 1) : kd (b + 6) = 20 := kd_all (P := fun b => kd (b + 6) = 20) h (by decide) (by decide +kernel)
theorem l1_6 {b : Nat} (h : kd b = 1) : ln (b + 6) = 6 := kd_all (P := fun b => ln (b + 6) = 6) h (by decide) (by decide +kernel)
theorem m1_6 {b : Nat} {L : List Nat} (h : kd b = 1) (hL : Cov 0 54 L) : b + 6 ∈ L := hL _ (kd_all (P := fun b => 0 ≤ b + 6) h (by decide) (by decide +kernel)) (kd_all (P := fun b => b + 6 < 54) h (by decide) (by decide +kernel))
theorem k1_7 {b : Nat} (h : kd b = 1) : kd (b + 7) = 20 := kd_all (P := fun b => kd (b + 7) = 20) h (by decide) (by decide +kernel)
theorem l1_7 {b : Nat} (h : kd b = 1) : ln (b + 7) = 60 := kd_all (P := fun b => ln (b + 7) = 60) h (by decide) (by decide +kernel)
theorem m1_7 {b : Nat} {L : List Nat} (h : kd b = 1) (hL : Cov 0 54 L) : b + 7 ∈ L := hL _ (kd_all (P := fun b => 0 ≤ b + 7) h (by decide) (by decide +kernel)) (kd_all (P := fun b => b + 7 < 54) h (by decide) (by decide +kernel))
theorem k1_8 {b : Nat} (h : kd b = 1) : kd (b + 8) = 20 := kd_all (P := fun b => kd (b + 8) = 20) h (by decide) (by decide +kernel)
theorem l1_8 {b : Nat} (h : kd b = 1) : ln (b + 8) = 60 := kd_all (P := fun b => ln (b + 8) = 60) h (by decide) (by decide +kernel)
theorem m1_8 {b : Nat} {L : List Nat} (h : kd b = 1) (hL : Cov 0 54 L) : b + 8 ∈ L := hL _ (kd_all (P := fun b => 0 ≤ b + 8) h (by decide) (by decide +kernel)) (kd_all (P := fun b => b + 8 < 54) h (by decide) (by decide +kernel))
theorem k1_9 {b : Nat} (h : kd b = 1) : kd (b + 9) = 20 := kd_all (P := fun b => kd (b + 9) = 20) h (by decide) (by decide +kernel)
theorem l1_9 {b : Nat} (h : kd b = 1) : ln (b + 9) = 60 := kd_all (P := fun b => ln (b + 9) = 60) h (by decide) (by decide +kernel)
theorem m1_9 {b : Nat} {L : List Nat} (h : kd b = 1) (hL : Cov 0 54 L) : b + 9 ∈ L := hL _ (kd_all (P := fun b => 0 ≤ b + 9) h (by decide) (by decide +kernel)) (kd_all (P := fun b => b + 9 < 54) h (by decide) (by decide +kernel))
theorem k1_10 {b : Nat} (h : kd b = 1) : kd (b + 10) = 20 := kd_all (P := fun b => kd (b + 10) = 20) h (by decide) (by decide +kernel)
theorem l1_10 {b : Nat} (h : kd b = 1) : ln (b + 10) = 60 := kd_all (P := fun b => ln (b + 10) = 60) h (by decide) (by decide +kernel)
theorem m1_10 {b : Nat} {L : List Nat} (h : kd b = 1) (hL : Cov 0 54 L) : b + 10 ∈ L := hL _ (kd_all (P := fun b => 0 ≤ b + 10) h (by decide) (by decide +kernel)) (kd_all (P := fun b => b + 10 < 54) h (by decide) (by decide +kernel))
theorem k1_11 {b : Nat} (h : kd b = 1) : kd (b + 11) = 20 := kd_all (P := fun b => kd (b + 11) = 20) h (by decide) (by decide +kernel)
theorem l1_11 {b : Nat} (h : kd b = 1) : ln (b + 11) = 60 := kd_all (P := fun b => ln (b + 11) = 60) h (by decide) (by decide +kernel)
theorem m1_11 {b : Nat} {L : List Nat} (h : kd b = 1) (hL : Cov 0 54 L) : b + 11 ∈ L := hL _ (kd_all (P := fun b => 0 ≤ b + 11) h (by decide) (by decide +kernel)) (kd_all (P := fun b => b + 11 < 54) h (by decide) (by decide +kernel))
theorem k1_12 {b : Nat} (h : kd b = 1) : kd (b + 12) = 6 := kd_all (P := fun b => kd (b + 12) = 6) h (by decide) (by decide +kernel)
theorem m1_12 {b : Nat} {L : List Nat} (h : kd b = 1) (hL : Cov 0 54 L) : b + 12 ∈ L := hL _ (kd_all (P := fun b => 0 ≤ b + 12) h (by decide) (by decide +kernel)) (kd_all (P := fun b => b + 12 < 54) h (by decide) (by decide +kernel))
theorem m1 {b : Nat} {L : List Nat} (h : kd b = 1) (hL : Cov 0 54 L) : b ∈ L := hL _ (kd_all (P := fun b => 0 ≤ b) h (by decide) (by decide +kernel)) (kd_all (P := fun b => b < 54) h (by decide) (by decide +kernel))
theorem k2_1 {b : Nat} (h : kd b = 2) : kd (b + 1) = 20 := kd_all (P := fun b => kd (b + 1) = 20) h (by decide) (by decide +kernel)
theorem l2_1 {b : Nat} (h : kd b = 2) : ln (b + 1) = 8 := kd_all (P := fun b => ln (b + 1) = 8) h (by decide) (by decide +kernel)
theorem m2_1 {b : Nat} {L : List Nat} (h : kd b = 2) (hL : Cov 0 54 L) : b + 1 ∈ L := hL _ (kd_all (P := fun b => 0 ≤ b + 1) h (by decide) (by decide +kernel)) (kd_all (P := fun b => b + 1 < 54) h (by decide) (by decide +kernel))
theorem k2_2 {b : Nat} (h : kd b = 2) : kd (b + 2) = 20 := kd_all (P := fun b => kd (b + 2) = 20) h (by decide) (by decide +kernel)
theorem l2_2 {b : Nat} (h : kd b = 2) : ln (b + 2) = 8 := kd_all (P := fun b => ln (b + 2) = 8) h (by decide) (by decide +kernel)
theorem m2_2 {b : Nat} {L : List Nat} (h : kd b = 2) (hL : Cov 0 54 L) : b + 2 ∈ L := hL _ (kd_all (P := fun b => 0 ≤ b + 2) h (by decide) (by decide +kernel)) (kd_all (P := fun b => b + 2 < 54) h (by decide) (by decide +kernel))
theorem k2_3 {b : Nat} (h : kd b = 2) : kd (b + 3) = 20 := kd_all (P := fun b => kd (b + 3) = 20) h (by decide) (by decide +kernel)
theorem l2_3 {b : Nat} (h : kd b = 2) : ln (b + 3) = 12 := kd_all (P := fun b => ln (b + 3) = 12) h (by decide) (by decide +kernel)
theorem m2_3 {b : Nat} {L : List Nat} (h : kd b = 2) (hL : Cov 0 54 L) : b + 3 ∈ L := hL _ (kd_all (P := fun b => 0 ≤ b + 3) h (by decide) (by decide +kernel)) (kd_all (P := fun b => b + 3 < 54) h (by decide) (by decide +kernel))
theorem k2_4 {b : Nat} (h : kd b = 2) : kd (b + 4) = 21 := kd_all (P := fun b => kd (b + 4) = 21) h (by decide) (by decide +kernel)
theorem l2_4 {b : Nat} (h : kd b = 2) : ln (b + 4) = 12 := kd_all (P := fun b => ln (b + 4) = 12) h (by decide) (by decide +kernel)
theorem m2_4 {b : Nat} {L : List Nat} (h : kd b = 2) (hL : Cov 0 54 L) : b + 4 ∈ L := hL _ (kd_all (P := fun b => 0 ≤ b + 4) h (by decide) (by decide +kernel)) (kd_all (P := fun b => b + 4 < 54) h (by decide) (by decide +kernel))
theorem k2_5 {b : Nat} (h : kd b = 2) : kd (b + 5) = 20 := kd_all (P := fun b => kd (b + 5) = 20) h (by decide) (by decide +kernel)
theorem l2_5 {b : Nat} (h : kd b = 2) : ln (b + 5) = 10 := kd_all (P := fun b => ln (b + 5) = 10) h (by decide) (by decide +kernel)
theorem m2_5 {b : Nat} {L : List Nat} (h : kd b = 2) (hL : Cov 0 54 L) : b + 5 ∈ L := hL _ (kd_all (P := fun b => 0 ≤ b + 5) h (by decide) (by decide +kernel)) (kd_all (P := fun b => b + 5 < 54) h (by decide) (by decide +kernel))
theorem m2 {b : Nat} {L : List Nat} (h : kd b = 2) (hL : Cov 0 54 L) : b ∈ L := hL _ (kd_all (P := fun b => 0 ≤ b) h (by decide) (by decide +kernel)) (kd_all (P := fun b => b < 54) h (by decide) (by decide +kernel))
theorem m3 {b : Nat} {L : List Nat} (h : kd b = 3) (hL : Cov 0 54 L) : b ∈ L := hL _ (kd_all (P := fun b => 0 ≤ b) h (by decide) (by decide +kernel)) (kd_all (P := fun b => b < 54) h (by decide) (by decide +kernel))
theorem k4_1 {b : Nat} (h : kd b = 4) : kd (b + 1) = 20 := kd_all (P := fun b => kd (b + 1) = 20) h (by decide) (by decide +kernel)
theorem l4_1 {b : Nat} (h : kd b = 4) : ln (b + 1) = 6 := kd_all (P := fun b => ln (b + 1) = 6) h (by decide) (by decide +kernel)
theorem m4_1 {b : Nat} {L : List Nat} (h : kd b = 4) (hL : Cov 0 54 L) : b + 1 ∈ L := hL _ (kd_all (P := fun b => 0 ≤ b + 1) h (by decide) (by decide +kernel)) (kd_all (P := fun b => b + 1 < 54) h (by decide) (by decide +kernel))
theorem m4 {b : Nat} {L : List Nat} (h : kd b = 4) (hL : Cov 0 54 L) : b ∈ L := hL _ (kd_all (P := fun b => 0 ≤ b) h (by decide) (by decide +kernel)) (kd_all (P := fun b => b < 54) h (by decide) (by decide +kernel))
theorem k5_1 {b : Nat} (h : kd b = 5) : kd (b + 1) = 22 := kd_all (P := fun b => kd (b + 1) = 22) h (by decide) (by decide +kernel)
theorem l5_1 {b : Nat} (h : kd b = 5) : ln (b + 1) = 1600 := kd_all (P := fun b => ln (b + 1) = 1600) h (by decide) (by decide +kernel)
theorem m5_1 {b : Nat} {L : List Nat} (h : kd b = 5) (hL : Cov 0 54 L) : b + 1 ∈ L := hL _ (kd_all (P := fun b => 0 ≤ b + 1) h (by decide) (by decide +kernel)) (kd_all (P := fun b => b + 1 < 54) h (by decide) (by decide +kernel))
theorem m5 {b : Nat} {L : List Nat} (h : kd b = 5) (hL : Cov 0 54 L) : b ∈ L := hL _ (kd_all (P := fun b => 0 ≤ b) h (by decide) (by decide +kernel)) (kd_all (P := fun b => b < 54) h (by decide) (by decide +kernel))
theorem k6_1 {b : Nat} (h : kd b = 6) : kd (b + 1) = 24 := kd_all (P := fun b => kd (b + 1) = 24) h (by decide) (by decide +kernel)
theorem l6_1 {b : Nat} (h : kd b = 6) : ln (b + 1) = 401 := kd_all (P := fun b => ln (b + 1) = 401) h (by decide) (by decide +kernel)
theorem m6_1 {b : Nat} {L : List Nat} (h : kd b = 6) (hL : Cov 0 54 L) : b + 1 ∈ L := hL _ (kd_all (P := fun b => 0 ≤ b + 1) h (by decide) (by decide +kernel)) (kd_all (P := fun b => b + 1 < 54) h (by decide) (by decide +kernel))
theorem k6_2 {b : Nat} (h : kd b = 6) : kd (b + 2) = 20 := kd_all (P := fun b => kd (b + 2) = 20) h (by decide) (by decide +kernel)
theorem l6_2 {b : Nat} (h : kd b = 6) : ln (b + 2) = 401 := kd_all (P := fun b => ln (b + 2) = 401) h (by decide) (by decide +kernel)
theorem m6_2 {b : Nat} {L : List Nat} (h : kd b = 6) (hL : Cov 0 54 L) : b + 2 ∈ L := hL _ (kd_all (P := fun b => 0 ≤ b + 2) h (by decide) (by decide +kernel)) (kd_all (P := fun b => b + 2 < 54) h (by decide) (by decide +kernel))
theorem k6_3 {b : Nat} (h : kd b = 6) : kd (b + 3) = 20 := kd_all (P := fun b => kd (b + 3) = 20) h (by decide) (by decide +kernel)
theorem l6_3 {b : Nat} (h : kd b = 6) : ln (b + 3) = 401 := kd_all (P := fun b => ln (b + 3) = 401) h (by decide) (by decide +kernel)
theorem m6_3 {b : Nat} {L : List Nat} (h : kd b = 6) (hL : Cov 0 54 L) : b + 3 ∈ L := hL _ (kd_all (P := fun b => 0 ≤ b + 3) h (by decide) (by decide +kernel)) (kd_all (P := fun b => b + 3 < 54) h (by decide) (by decide +kernel))
theorem k6_4 {b : Nat} (h : kd b = 6) : kd (b + 4) = 23 := kd_all (P := fun b => kd (b + 4) = 23) h (by decide) (by decide +kernel)
theorem l6_4 {b : Nat} (h : kd b = 6) : ln (b + 4) = 401 := kd_all (P := fun b => ln (b + 4) = 401) h (by decide) (by decide +kernel)
theorem m6_4 {b : Nat} {L : List Nat} (h : kd b = 6) (hL : Cov 0 54 L) : b + 4 ∈ L := hL _ (kd_all (P := fun b => 0 ≤ b + 4) h (by decide) (by decide +kernel)) (kd_all (P := fun b => b + 4 < 54) h (by decide) (by decide +kernel))
theorem m6 {b : Nat} {L : List Nat} (h : kd b = 6) (hL : Cov 0 54 L) : b ∈ L := hL _ (kd_all (P := fun b => 0 ≤ b) h (by decide) (by decide +kernel)) (kd_all (P := fun b => b < 54) h (by decide) (by decide +kernel))
theorem k7_1 {b : Nat} (h : kd b = 7) : kd (b + 1) = 20 := kd_all (P := fun b => kd (b + 1) = 20) h (by decide) (by decide +kernel)
theorem l7_1 {b : Nat} (h : kd b = 7) : ln (b + 1) = 512 := kd_all (P := fun b => ln (b + 1) = 512) h (by decide) (by decide +kernel)
theorem m7_1 {b : Nat} {L : List Nat} (h : kd b = 7) (hL : Cov 0 54 L) : b + 1 ∈ L := hL _ (kd_all (P := fun b => 0 ≤ b + 1) h (by decide) (by decide +kernel)) (kd_all (P := fun b => b + 1 < 54) h (by decide) (by decide +kernel))
theorem m7 {b : Nat} {L : List Nat} (h : kd b = 7) (hL : Cov 0 54 L) : b ∈ L := hL _ (kd_all (P := fun b => 0 ≤ b) h (by decide) (by decide +kernel)) (kd_all (P := fun b => b < 54) h (by decide) (by decide +kernel))
theorem k8_1 {b : Nat} (h : kd b = 8) : kd (b + 1) = 5 := kd_all (P := fun b => kd (b + 1) = 5) h (by decide) (by decide +kernel)
theorem m8_1 {b : Nat} {L : List Nat} (h : kd b = 8) (hL : Cov 0 54 L) : b + 1 ∈ L := hL _ (kd_all (P := fun b => 0 ≤ b + 1) h (by decide) (by decide +kernel)) (kd_all (P := fun b => b + 1 < 54) h (by decide) (by decide +kernel))
theorem k8_3 {b : Nat} (h : kd b = 8) : kd (b + 3) = 3 := kd_all (P := fun b => kd (b + 3) = 3) h (by decide) (by decide +kernel)
theorem m8_3 {b : Nat} {L : List Nat} (h : kd b = 8) (hL : Cov 0 54 L) : b + 3 ∈ L := hL _ (kd_all (P := fun b => 0 ≤ b + 3) h (by decide) (by decide +kernel)) (kd_all (P := fun b => b + 3 < 54) h (by decide) (by decide +kernel))
theorem k8_4 {b : Nat} (h : kd b = 8) : kd (b + 4) = 2 := kd_all (P := fun b => kd (b + 4) = 2) h (by decide) (by decide +kernel)
theorem m8_4 {b : Nat} {L : List Nat} (h : kd b = 8) (hL : Cov 0 54 L) : b + 4 ∈ L := hL _ (kd_all (P := fun b => 0 ≤ b + 4) h (by decide) (by decide +kernel)) (kd_all (P := fun b => b + 4 < 54) h (by decide) (by decide +kernel))
theorem k8_10 {b : Nat} (h : kd b = 8) : kd (b + 10) = 2 := kd_all (P := fun b => kd (b + 10) = 2) h (by decide) (by decide +kernel)
theorem m8_10 {b : Nat} {L : List Nat} (h : kd b = 8) (hL : Cov 0 54 L) : b + 10 ∈ L := hL _ (kd_all (P := fun b => 0 ≤ b + 10) h (by decide) (by decide +kernel)) (kd_all (P := fun b => b + 10 < 54) h (by decide) (by decide +kernel))
theorem k8_16 {b : Nat} (h : kd b = 8) : kd (b + 16) = 4 := kd_all (P := fun b => kd (b + 16) = 4) h (by decide) (by decide +kernel)
theorem m8_16 {b : Nat} {L : List Nat} (h : kd b = 8) (hL : Cov 0 54 L) : b + 16 ∈ L := hL _ (kd_all (P := fun b => 0 ≤ b + 16) h (by decide) (by decide +kernel)) (kd_all (P := fun b => b + 16 < 54) h (by decide) (by decide +kernel))
theorem k8_18 {b : Nat} (h : kd b = 8) : kd (b + 18) = 7 := kd_all (P := fun b => kd (b + 18) = 7) h (by decide) (by decide +kernel)
theorem m8_18 {b : Nat} {L : List Nat} (h : kd b = 8) (hL : Cov 0 54 L) : b + 18 ∈ L := hL _ (kd_all (P := fun b => 0 ≤ b + 18) h (by decide) (by decide +kernel)) (kd_all (P := fun b => b + 18 < 54) h (by decide) (by decide +kernel))
theorem m8 {b : Nat} {L : List Nat} (h : kd b = 8) (hL : Cov 0 54 L) : b ∈ L := hL _ (kd_all (P := fun b => 0 ≤ b) h (by decide) (by decide +kernel)) (kd_all (P := fun b => b < 54) h (by decide) (by decide +kernel))
theorem k9_1 {b : Nat} (h : kd b = 9) : kd (b + 1) = 20 := kd_all (P := fun b => kd (b + 1) = 20) h (by decide) (by decide +kernel)
theorem l9_1 {b : Nat} (h : kd b = 9) : ln (b + 1) = 9 := kd_all (P := fun b => ln (b + 1) = 9) h (by decide) (by decide +kernel)
theorem m9_1 {b : Nat} {L : List Nat} (h : kd b = 9) (hL : Cov 54 77 L) : b + 1 ∈ L := hL _ (kd_all (P := fun b => 54 ≤ b + 1) h (by decide) (by decide +kernel)) (kd_all (P := fun b => b + 1 < 77) h (by decide) (by decide +kernel))
theorem k9_2 {b : Nat} (h : kd b = 9) : kd (b + 2) = 20 := kd_all (P := fun b => kd (b + 2) = 20) h (by decide) (by decide +kernel)
theorem l9_2 {b : Nat} (h : kd b = 9) : ln (b + 2) = 9 := kd_all (P := fun b => ln (b + 2) = 9) h (by decide) (by decide +kernel)
theorem m9_2 {b : Nat} {L : List Nat} (h : kd b = 9) (hL : Cov 54 77 L) : b + 2 ∈ L := hL _ (kd_all (P := fun b => 54 ≤ b + 2) h (by decide) (by decide +kernel)) (kd_all (P := fun b => b + 2 < 77) h (by decide) (by decide +kernel))
theorem k9_3 {b : Nat} (h : kd b = 9) : kd (b + 3) = 20 := kd_all (P := fun b => kd (b + 3) = 20) h (by decide) (by decide +kernel)
theorem l9_3 {b : Nat} (h : kd b = 9) : ln (b + 3) = 13 := kd_all (P := fun b => ln (b + 3) = 13) h (by decide) (by decide +kernel)
theorem m9_3 {b : Nat} {L : List Nat} (h : kd b = 9) (hL : Cov 54 77 L) : b + 3 ∈ L := hL _ (kd_all (P := fun b => 54 ≤ b + 3) h (by decide) (by decide +kernel)) (kd_all (P := fun b => b + 3 < 77) h (by decide) (by decide +kernel))
theorem k9_4 {b : Nat} (h : kd b = 9) : kd (b + 4) = 20 := kd_all (P := fun b => kd (b + 4) = 20) h (by decide) (by decide +kernel)
theorem l9_4 {b : Nat} (h : kd b = 9) : ln (b + 4) = 7 := kd_all (P := fun b => ln (b + 4) = 7) h (by decide) (by decide +kernel)
theorem m9_4 {b : Nat} {L : List Nat} (h : kd b = 9) (hL : Cov 54 77 L) : b + 4 ∈ L := hL _ (kd_all (P := fun b => 54 ≤ b + 4) h (by decide) (by decide +kernel)) (kd_all (P := fun b => b + 4 < 77) h (by decide) (by decide +kernel))
theorem k9_5 {b : Nat} (h : kd b = 9) : kd (b + 5) = 20 := kd_all (P := fun b => kd (b + 5) = 20) h (by decide) (by decide +kernel)
theorem l9_5 {b : Nat} (h : kd b = 9) : ln (b + 5) = 1600 := kd_all (P := fun b => ln (b + 5) = 1600) h (by decide) (by decide +kernel)
theorem m9_5 {b : Nat} {L : List Nat} (h : kd b = 9) (hL : Cov 54 77 L) : b + 5 ∈ L := hL _ (kd_all (P := fun b => 54 ≤ b + 5) h (by decide) (by decide +kernel)) (kd_all (P := fun b => b + 5 < 77) h (by decide) (by decide +kernel))
theorem k9_6 {b : Nat} (h : kd b = 9) : kd (b + 6) = 20 := kd_all (P := fun b => kd (b + 6) = 20) h (by decide) (by decide +kernel)
theorem l9_6 {b : Nat} (h : kd b = 9) : ln (b + 6) = 1600 := kd_all (P := fun b => ln (b + 6) = 1600) h (by decide) (by decide +kernel)
theorem m9_6 {b : Nat} {L : List Nat} (h : kd b = 9) (hL : Cov 54 77 L) : b + 6 ∈ L := hL _ (kd_all (P := fun b => 54 ≤ b + 6) h (by decide) (by decide +kernel)) (kd_all (P := fun b => b + 6 < 77) h (by decide) (by decide +kernel))
theorem m9 {b : Nat} {L : List Nat} (h : kd b = 9) (hL : Cov 54 77 L) : b ∈ L := hL _ (kd_all (P := fun b => 54 ≤ b) h (by decide) (by decide +kernel)) (kd_all (P := fun b => b < 77) h (by decide) (by decide +kernel))
theorem k10_1 {b : Nat} (h : kd b = 10) : kd (b + 1) = 23 := kd_all (P := fun b => kd (b + 1) = 23) h (by decide) (by decide +kernel)
theorem l10_1 {b : Nat} (h : kd b = 10) : ln (b + 1) = 16 := kd_all (P := fun b => ln (b + 1) = 16) h (by decide) (by decide +kernel)
theorem m10_1 {b : Nat} {L : List Nat} (h : kd b = 10) (hL : Cov 54 77 L) : b + 1 ∈ L := hL _ (kd_all (P := fun b => 54 ≤ b + 1) h (by decide) (by decide +kernel)) (kd_all (P := fun b => b + 1 < 77) h (by decide) (by decide +kernel))
theorem k10_2 {b : Nat} (h : kd b = 10) : kd (b + 2) = 9 := kd_all (P := fun b => kd (b + 2) = 9) h (by decide) (by decide +kernel)
theorem m10_2 {b : Nat} {L : List Nat} (h : kd b = 10) (hL : Cov 54 77 L) : b + 2 ∈ L := hL _ (kd_all (P := fun b => 54 ≤ b + 2) h (by decide) (by decide +kernel)) (kd_all (P := fun b => b + 2 < 77) h (by decide) (by decide +kernel))
theorem m10 {b : Nat} {L : List Nat} (h : kd b = 10) (hL : Cov 54 77 L) : b ∈ L := hL _ (kd_all (P := fun b => 54 ≤ b) h (by decide) (by decide +kernel)) (kd_all (P := fun b => b < 77) h (by decide) (by decide +kernel))
theorem k11_1 {b : Nat} (h : kd b = 11) : kd (b + 1) = 22 := kd_all (P := fun b => kd (b + 1) = 22) h (by decide) (by decide +kernel)
theorem l11_1 {b : Nat} (h : kd b = 11) : ln (b + 1) = 1600 := kd_all (P := fun b => ln (b + 1) = 1600) h (by decide) (by decide +kernel)
theorem m11_1 {b : Nat} {L : List Nat} (h : kd b = 11) (hL : Cov 54 67 L) : b + 1 ∈ L := hL _ (kd_all (P := fun b => 54 ≤ b + 1) h (by decide) (by decide +kernel)) (kd_all (P := fun b => b + 1 < 67) h (by decide) (by decide +kernel))
theorem k11_2 {b : Nat} (h : kd b = 11) : kd (b + 2) = 20 := kd_all (P := fun b => kd (b + 2) = 20) h (by decide) (by decide +kernel)
theorem l11_2 {b : Nat} (h : kd b = 11) : ln (b + 2) = 50 := kd_all (P := fun b => ln (b + 2) = 50) h (by decide) (by decide +kernel)
theorem m11_2 {b : Nat} {L : List Nat} (h : kd b = 11) (hL : Cov 54 67 L) : b + 2 ∈ L := hL _ (kd_all (P := fun b => 54 ≤ b + 2) h (by decide) (by decide +kernel)) (kd_all (P := fun b => b + 2 < 67) h (by decide) (by decide +kernel))
theorem k11_3 {b : Nat} (h : kd b = 11) : kd (b + 3) = 20 := kd_all (P := fun b => kd (b + 3) = 20) h (by decide) (by decide +kernel)
theorem l11_3 {b : Nat} (h : kd b = 11) : ln (b + 3) = 50 := kd_all (P := fun b => ln (b + 3) = 50) h (by decide) (by decide +kernel)
theorem m11_3 {b : Nat} {L : List Nat} (h : kd b = 11) (hL : Cov 54 67 L) : b + 3 ∈ L := hL _ (kd_all (P := fun b => 54 ≤ b + 3) h (by decide) (by decide +kernel)) (kd_all (P := fun b => b + 3 < 67) h (by decide) (by decide +kernel))
theorem k11_4 {b : Nat} (h : kd b = 11) : kd (b + 4) = 20 := kd_all (P := fun b => kd (b + 4) = 20) h (by decide) (by decide +kernel)
theorem l11_4 {b : Nat} (h : kd b = 11) : ln (b + 4) = 7 := kd_all (P := fun b => ln (b + 4) = 7) h (by decide) (by decide +kernel)
theorem m11_4 {b : Nat} {L : List Nat} (h : kd b = 11) (hL : Cov 54 67 L) : b + 4 ∈ L := hL _ (kd_all (P := fun b => 54 ≤ b + 4) h (by decide) (by decide +kernel)) (kd_all (P := fun b => b + 4 < 67) h (by decide) (by decide +kernel))
theorem k11_5 {b : Nat} (h : kd b = 11) : kd (b + 5) = 20 := kd_all (P := fun b => kd (b + 5) = 20) h (by decide) (by decide +kernel)
theorem l11_5 {b : Nat} (h : kd b = 11) : ln (b + 5) = 512 := kd_all (P := fun b => ln (b + 5) = 512) h (by decide) (by decide +kernel)
theorem m11_5 {b : Nat} {L : List Nat} (h : kd b = 11) (hL : Cov 54 67 L) : b + 5 ∈ L := hL _ (kd_all (P := fun b => 54 ≤ b + 5) h (by decide) (by decide +kernel)) (kd_all (P := fun b => b + 5 < 67) h (by decide) (by decide +kernel))
theorem m11 {b : Nat} {L : List Nat} (h : kd b = 11) (hL : Cov 54 67 L) : b ∈ L := hL _ (kd_all (P := fun b => 54 ≤ b) h (by decide) (by decide +kernel)) (kd_all (P := fun b => b < 67) h (by decide) (by decide +kernel))

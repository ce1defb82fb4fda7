theorem swl1 {E : En0} {a2 : Nat → Nat} {c : Nat} (hc : c < 68) (h : kd c = 1) (h1 : ∀ d, d < 68 → a2 d = E.2.1 d) {i : Nat → Int32} {j : Nat → Int64} {k : Nat → Option Nat} {r : Nat → Nat} (hr : ∀ n, r n < 60) : fl1 (E.1, a2, E.2.2) c i j k r = fl1 E c i j k r := by
  simp only [fl1, h1 (c + 1) (kd_all (P := fun c => c < 68 → c + 1 < 68) h (by decide) (by decide +kernel) hc), h1 (c + 2) (kd_all (P := fun c => c < 68 → c + 2 < 68) h (by decide) (by decide +kernel) hc), h1 (c + 3) (kd_all (P := fun c => c < 68 → c + 3 < 68) h (by decide) (by decide +kernel) hc), h1 (c + 4) (kd_all (P := fun c => c < 68 → c + 4 < 68) h (by decide) (by decide +kernel) hc), h1 (c + 5) (kd_all (P := fun c => c < 68 → c + 5 < 68) h (by decide) (by decide +kernel) hc), h1 (c + 6) (kd_all (P := fun c => c < 68 → c + 6 < 68) h (by decide) (by decide +kernel) hc), h1 (c + 7) (kd_all (P := fun c => c < 68 → c + 7 < 68) h (by decide) (by decide +kernel) hc), h1 (c + 8) (kd_all (P := fun c => c < 68 → c + 8 < 68) h (by decide) (by decide +kernel) hc), h1 (c + 9) (kd_all (P := fun c => c < 68 → c + 9 < 68) h (by decide) (by decide +kernel) hc), h1 (c + 10) (kd_all (P := fun c => c < 68 → c + 10 < 68) h (by decide) (by decide +kernel) hc), h1 (c + 11) (kd_all (P := fun c => c < 68 → c + 11 < 68) h (by decide) (by decide +kernel) hc), h1 (c + 12) (kd_all (P := fun c => c < 68 → c + 12 < 68) h (by decide) (by decide +kernel) hc)]
theorem swl2 {E : En0} {a2 : Nat → Nat} {c : Nat} (hc : c < 68) (h : kd c = 2) (h1 : ∀ d, d < 68 → a2 d = E.2.1 d) {i : Nat → Int32} {j : Nat → Int64} {k : Nat → Option Nat} {r : Nat → Nat} (hr : ∀ n, r n < 60) : fl2 (E.1, a2, E.2.2) c i j k r = fl2 E c i j k r := by
  simp only [fl2, h1 (c + 1) (kd_all (P := fun c => c < 68 → c + 1 < 68) h (by decide) (by decide +kernel) hc), h1 (c + 2) (kd_all (P := fun c => c < 68 → c + 2 < 68) h (by decide) (by decide +kernel) hc), h1 (c + 3) (kd_all (P := fun c => c < 68 → c + 3 < 68) h (by decide) (by decide +kernel) hc), h1 (c + 4) (kd_all (P := fun c => c < 68 → c + 4 < 68) h (by decide) (by decide +kernel) hc), h1 (c + 5) (kd_all (P := fun c => c < 68 → c + 5 < 68) h (by decide) (by decide +kernel) hc)]
theorem swl3 {E : En0} {a2 : Nat → Nat} {c : Nat} (hc : c < 68) (h : kd c = 3) (h1 : ∀ d, d < 68 → a2 d = E.2.1 d) {i : Nat → Int32} {j : Nat → Int64} {k : Nat → Option Nat} {r : Nat → Nat} (hr : ∀ n, r n < 60) : fl3 (E.1, a2, E.2.2) c i j k r = fl3 E c i j k r := by
  simp only [fl3, h1 (r 0) (by have := hr 0; omega), h1 (r 1) (by have := hr 1; omega)]
theorem swl4 {E : En0} {a2 : Nat → Nat} {c : Nat} (hc : c < 68) (h : kd c = 4) (h1 : ∀ d, d < 68 → a2 d = E.2.1 d) {i : Nat → Int32} {j : Nat → Int64} {k : Nat → Option Nat} {r : Nat → Nat} (hr : ∀ n, r n < 60) : fl4 (E.1, a2, E.2.2) c i j k r = fl4 E c i j k r := by
  simp only [fl4, h1 (c + 1) (kd_all (P := fun c => c < 68 → c + 1 < 68) h (by decide) (by decide +kernel) hc), h1 (r 0) (by have := hr 0; omega), h1 (r 1) (by have := hr 1; omega)]
theorem swl5 {E : En0} {a2 : Nat → Nat} {c : Nat} (hc : c < 68) (h : kd c = 5) (h1 : ∀ d, d < 68 → a2 d = E.2.1 d) {i : Nat → Int32} {j : Nat → Int64} {k : Nat → Option Nat} {r : Nat → Nat} (hr : ∀ n, r n < 60) : fl5 (E.1, a2, E.2.2) c i j k r = fl5 E c i j k r := by
  simp only [fl5, h1 (c + 1) (kd_all (P := fun c => c < 68 → c + 1 < 68) h (by decide) (by decide +kernel) hc)]
theorem swl6 {E : En0} {a2 : Nat → Nat} {c : Nat} (hc : c < 68) (h : kd c = 6) (h1 : ∀ d, d < 68 → a2 d = E.2.1 d) {i : Nat → Int32} {j : Nat → Int64} {k : Nat → Option Nat} {r : Nat → Nat} (hr : ∀ n, r n < 60) : fl6 (E.1, a2, E.2.2) c i j k r = fl6 E c i j k r := by
  simp only [fl6, h1 (c + 1) (kd_all (P := fun c => c < 68 → c + 1 < 68) h (by decide) (by decide +kernel) hc), h1 (c + 2) (kd_all (P := fun c => c < 68 → c + 2 < 68) h (by decide) (by decide +kernel) hc), h1 (c + 3) (kd_all (P := fun c => c < 68 → c + 3 < 68) h (by decide) (by decide +kernel) hc), h1 (c + 4) (kd_all (P := fun c => c < 68 → c + 4 < 68) h (by decide) (by decide +kernel) hc)]
theorem swl7 {E : En0} {a2 : Nat → Nat} {c : Nat} (hc : c < 68) (h : kd c = 7) (h1 : ∀ d, d < 68 → a2 d = E.2.1 d) {i : Nat → Int32} {j : Nat → Int64} {k : Nat → Option Nat} {r : Nat → Nat} (hr : ∀ n, r n < 60) : fl7 (E.1, a2, E.2.2) c i j k r = fl7 E c i j k r := by
  simp only [fl7, h1 (c + 1) (kd_all (P := fun c => c < 68 → c + 1 < 68) h (by decide) (by decide +kernel) hc), h1 4 (by decide)]
theorem swl8 {E : En0} {a2 : Nat → Nat} {c : Nat} (hc : c < 68) (h : kd c = 8) (h1 : ∀ d, d < 68 → a2 d = E.2.1 d) {i : Nat → Int32} {j : Nat → Int64} {k : Nat → Option Nat} {r : Nat → Nat} (hr : ∀ n, r n < 60) : fl8 (E.1, a2, E.2.2) c i j k r = fl8 E c i j k r := by
  simp only [fl8, h1 (c + 1) (kd_all (P := fun c => c < 68 → c + 1 < 68) h (by decide) (by decide +kernel) hc), h1 (c + 3) (kd_all (P := fun c => c < 68 → c + 3 < 68) h (by decide) (by decide +kernel) hc), h1 (c + 4) (kd_all (P := fun c => c < 68 → c + 4 < 68) h (by decide) (by decide +kernel) hc), h1 (c + 10) (kd_all (P := fun c => c < 68 → c + 10 < 68) h (by decide) (by decide +kernel) hc), h1 (c + 16) (kd_all (P := fun c => c < 68 → c + 16 < 68) h (by decide) (by decide +kernel) hc), h1 (c + 18) (kd_all (P := fun c => c < 68 → c + 18 < 68) h (by decide) (by decide +kernel) hc), h1 (r 6) (by have := hr 6; omega), h1 (r 7) (by have := hr 7; omega)]
theorem swl9 {E : En0} {a2 : Nat → Nat} {c : Nat} (hc : c < 68) (h : kd c = 9) (h1 : ∀ d, d < 68 → a2 d = E.2.1 d) {i : Nat → Int32} {j : Nat → Int64} {k : Nat → Option Nat} {r : Nat → Nat} (hr : ∀ n, r n < 60) : fl9 (E.1, a2, E.2.2) c i j k r = fl9 E c i j k r := by
  simp only [fl9, h1 (c + 1) (kd_all (P := fun c => c < 68 → c + 1 < 68) h (by decide) (by decide +kernel) hc), h1 (c + 2) (kd_all (P := fun c => c < 68 → c + 2 < 68) h (by decide) (by decide +kernel) hc), h1 (c + 3) (kd_all (P := fun c => c < 68 → c + 3 < 68) h (by decide) (by decide +kernel) hc), h1 (c + 4) (kd_all (P := fun c => c < 68 → c + 4 < 68) h (by decide) (by decide +kernel) hc), h1 (c + 5) (kd_all (P := fun c => c < 68 → c + 5 < 68) h (by decide) (by decide +kernel) hc), h1 (c + 6) (kd_all (P := fun c => c < 68 → c + 6 < 68) h (by decide) (by decide +kernel) hc)]
theorem swl11 {E : En0} {a2 : Nat → Nat} {c : Nat} (hc : c < 68) (h : kd c = 11) (h1 : ∀ d, d < 68 → a2 d = E.2.1 d) {i : Nat → Int32} {j : Nat → Int64} {k : Nat → Option Nat} {r : Nat → Nat} (hr : ∀ n, r n < 60) : fl11 (E.1, a2, E.2.2) c i j k r = fl11 E c i j k r := by
  simp only [fl11, h1 (c + 1) (kd_all (P := fun c => c < 68 → c + 1 < 68) h (by decide) (by decide +kernel) hc), h1 (c + 2) (kd_all (P := fun c => c < 68 → c + 2 < 68) h (by decide) (by decide +kernel) hc), h1 (c + 3) (kd_all (P := fun c => c < 68 → c + 3 < 68) h (by decide) (by decide +kernel) hc), h1 (c + 4) (kd_all (P := fun c => c < 68 → c + 4 < 68) h (by decide) (by decide +kernel) hc), h1 (c + 5) (kd_all (P := fun c => c < 68 → c + 5 < 68) h (by decide) (by decide +kernel) hc), h1 60 (by decide)]
theorem swl_ent {E : En0} {a2 : Nat → Nat} {c : Nat} (hc : c < 68) (h1 : ∀ d, d < 68 → a2 d = E.2.1 d) {st : St} (hr : rOK st) : entS (E.1, a2, E.2.2) st c = entS E st c := by
  have hrr : ∀ n, st.2.2.2 c n < 60 := fun n => hr c n
  have key : ∀ n, kd c = n → entS (E.1, a2, E.2.2) st c = entS E st c := by
    intro n hn
    by_cases h101 : n = 1
    · subst h101; rw [e1 hn, e1 hn, swl1 hc hn h1 hrr]
    by_cases h102 : n = 2
    · subst h102; rw [e2 hn, e2 hn, swl2 hc hn h1 hrr]
    by_cases h103 : n = 3
    · subst h103; rw [e3 hn, e3 hn, swl3 hc hn h1 hrr]
    by_cases h104 : n = 4
    · subst h104; rw [e4 hn, e4 hn, swl4 hc hn h1 hrr]
    by_cases h105 : n = 5
    · subst h105; rw [e5 hn, e5 hn, swl5 hc hn h1 hrr]
    by_cases h106 : n = 6
    · subst h106; rw [e6 hn, e6 hn, swl6 hc hn h1 hrr]
    by_cases h107 : n = 7
    · subst h107; rw [e7 hn, e7 hn, swl7 hc hn h1 hrr]
    by_cases h108 : n = 8
    · subst h108; rw [e8 hn, e8 hn, swl8 hc hn h1 hrr]
    by_cases h109 : n = 9
    · subst h109; rw [e9 hn, e9 hn, swl9 hc hn h1 hrr]
    by_cases h111 : n = 11
    · subst h111; rw [e11 hn, e11 hn, swl11 hc hn h1 hrr]
    by_cases h120 : n = 20
    · subst h120; rw [e20 hn, e20 hn]
    by_cases h121 : n = 21
    · subst h121; rw [e21 hn, e21 hn]
    by_cases h122 : n = 22
    · subst h122; rw [e22 hn, e22 hn]
    by_cases h123 : n = 23
    · subst h123; rw [e23 hn, e23 hn]
    by_cases h124 : n = 24
    · subst h124; rw [e24 hn, e24 hn]
    exfalso
    have h : ∀ d, d < 68 → kd d ∈ [1, 2, 3, 4, 5, 6, 7, 8, 9, 11, 20, 21, 22, 23, 24] := by decide +kernel
    have h := h c hc
    rw [hn] at h
    simp at h
    omega
  exact key _ rfl
/-- the cells of a new Reader of the reference, beside a state -/
def stR (st : St) : St := (fun c j => if 68 ≤ c ∧ c < 77 then (if c = 68 then (if j = 12 then -1 else if j = 13 then -1 else 0) else 0) else st.1 c j, fun c j => if 68 ≤ c ∧ c < 77 then 0 else st.2.1 c j, st.2.2)
/-- the Reader's book in the model's book's place -/
def stB (st : St) : St := (fun c => if 60 ≤ c ∧ c < 67 then st.1 (c + 10) else st.1 c, st.2)
theorem stR_lo {E : En0} {st : St} {c : Nat} (h : c < 68) : entS E (stR st) c = entS E st c := by
  have h1 : ¬ (68 ≤ c ∧ c < 77) := fun q => by omega
  simp only [entS, stR, if_neg h1]
theorem va_nd_range : ∀ n : Nat, n ≤ 80 → va_nd (List.range n) = true := by decide +kernel
theorem tail_R {w : va_W} {x : va_W} : (List.range w.length).map (fun i => (w ++ x)[i]?) = w.map some := by
  apply List.ext_getElem?
  intro i
  simp only [List.getElem?_map]
  by_cases hi : i < w.length
  · rw [List.getElem?_range hi, List.getElem?_eq_getElem hi]
    simp [List.getElem?_append_left hi]
  · rw [List.getElem?_eq_none (by simpa using hi), List.getElem?_eq_none (by simpa using hi)]
    rfl
theorem tail_D {A : Nat → Prop} {w r r' : va_W} (hD : va_D A (w ++ r)) (is : List Nat) (hn : va_nd is = true) (hs : is.map (fun i => r[i]?) = r'.map some) : va_D A (w ++ r') := by
  have hin : ∀ (k : Nat) (p : Nat × va_E), (w ++ r')[k]? = some p → ∃ j, (w ++ r)[j]? = some p ∧ ((k < w.length ∧ j = k) ∨ (w.length ≤ k ∧ ∃ i, is[k - w.length]? = some i ∧ j = w.length + i)) := by
    intro k p hk
    by_cases hl : k < w.length
    · rw [List.getElem?_append_left hl] at hk
      exact ⟨k, by rw [List.getElem?_append_left hl]; exact hk, Or.inl ⟨hl, rfl⟩⟩
    · rw [List.getElem?_append_right (by omega)] at hk
      have h1 : (r'.map some)[k - w.length]? = some (some p) := by rw [List.getElem?_map, hk]; rfl
      rw [← hs, List.getElem?_map] at h1
      cases hi : is[k - w.length]? with
      | none => rw [hi] at h1; cases h1
      | some i =>
        rw [hi] at h1
        have h2 : r[i]? = some p := Option.some.inj h1
        refine ⟨w.length + i, ?_, Or.inr ⟨by omega, i, rfl, rfl⟩⟩
        rw [List.getElem?_append_right (by omega), Nat.add_sub_cancel_left]
        exact h2
  refine ⟨fun i j p q hi hj e => ?_, fun k q hk => ?_⟩
  · obtain ⟨i', h1, h2⟩ := hin i p hi
    obtain ⟨j', h3, h4⟩ := hin j q hj
    have h5 := hD.1 i' j' p q h1 h3 e
    rcases h2 with ⟨a1, a2⟩ | ⟨a1, x, a2, a3⟩ <;> rcases h4 with ⟨b1, b2⟩ | ⟨b1, y, b2, b3⟩
    · omega
    · have := (List.getElem?_eq_some_iff.mp h1).1; omega
    · have := (List.getElem?_eq_some_iff.mp h1).1; omega
    · have hxy : x = y := by omega
      subst hxy
      have := va_nd_inj is hn _ _ _ a2 b2
      omega
  · obtain ⟨j, h1, -⟩ := hin k q hk
    exact hD.2 j q h1
theorem tail_P {D : va_G} {cl : List vw_C} {w r r' : va_W} {H : Heap} (hP : va_P D cl (w ++ r) H) (is : List Nat) (hs : is.map (fun i => r[i]?) = r'.map some) : va_P D cl (w ++ r') H := by
  intro k p hk
  by_cases hl : k < w.length
  · rw [List.getElem?_append_left hl] at hk
    exact hP k p (by rw [List.getElem?_append_left hl]; exact hk)
  · rw [List.getElem?_append_right (by omega)] at hk
    have h1 : (r'.map some)[k - w.length]? = some (some p) := by rw [List.getElem?_map, hk]; rfl
    rw [← hs, List.getElem?_map] at h1
    cases hi : is[k - w.length]? with
    | none => rw [hi] at h1; cases h1
    | some i =>
      rw [hi] at h1
      have h2 : r[i]? = some p := Option.some.inj h1
      exact hP (w.length + i) p (by rw [List.getElem?_append_right (by omega), Nat.add_sub_cancel_left]; exact h2)
def L68 : List Nat := List.range 68
def L77 : List Nat := List.range 77
def zPcA (E : En0) (L : List Nat) (av : List Value) (st : St) (sz : Nat) : Array Value → State → Prop := fun v U => zPc E L av st sz v U ∧ va_AO "PlankBridge$Kind" U
/-- what teach says at its end: the cells 60 to 66 may be new ones -/
def zT (E : En0) (Q : Int32 → St → Prop) (A : Nat → Prop) : Array Value → State → Outcome → State → Prop :=
  va_Qi (fun (r : Int32) (u : (Nat → Nat) × St) => Q r u.2 ∧ ∀ c, c < 60 ∨ c = 67 → u.1 c = E.2.1 c) (fun u t => va_P E.1 vwCl (wd (E.1, u.1, E.2.2) L68 u.2) t.heap ∧ EK (E.1, u.1, E.2.2) L68 ∧ ∀ c, c ∈ L68 → A (u.1 c)) A
section ZTE
variable {p : Program} {l : Launch} {e : Env} {R : Room} {s : State} {m : MethodId} {args : Array Value} {below : List Frame} {meth : Method} {c : Code} {H : Heap} {locs : List Loc} {cells slots : Nat} {Q : State → Prop}
variable {E : En0} {L : List Nat} {own : String} {cc : ByteArray} {nL : Nat} {st : St} {pc : Nat} {ls : Array Slot} {rest : List Value} {A : Nat → Prop}
theorem Cx.y (C : Cx E L own cc nL p s m args c) (hAO : va_AO "PlankBridge$Kind" s) : yCx E (fA E L s.heap.size) own cc nL p s m args c := ⟨C.1, C.2.1, C.2.2.1, C.2.2.2.1, C.2.2.2.2.1, C.2.2.2.2.2.1, C.K, C.NE9, hAO, fun q h => Or.inr h⟩
theorem z_rt {post : Int32 → St → Prop} {v : Int32} {a2 : Nat → Nat} {E2 : En0} {L2 : List Nat} (hx : p.tables.exec = Jvm.exec) (hb : c.code = cc) (hEK : EK E2 L2) (hE2 : E2 = (E.1, a2, E.2.2)) (hsub : ∀ d, d ∈ L68 → d ∈ L2) (hr : meth.sig.returnType = some .int) (hlk : meth.locks = false) (hP : va_P E2.1 vwCl (wd E2 L2 st) H) (hlo : ∀ d, d ∈ L68 → ∃ q : Nat, (wd E2 L2 st)[q]? = some (a2 d, entS E2 st d)) (hfA : ∀ q, fA E2 L2 s.heap.size q → A q) (hS : va_S A s.heap H locs) (hsame : ∀ c, c < 60 ∨ c = 67 → a2 c = E.2.1 c) (h : post v st) (hdg : decode cc pc = .ok (.ireturn, 1)) :
    W p l e R s m args below meth c H locs cells slots (MQ below (zT E post A) args s cells slots A) (F0 m pc ls [.int v]) := by
  refine W.zret (v := v) hx hb hr rfl (fun t ht hW => ⟨⟨v, (a2, st), rfl, ⟨h, hsame⟩, ?_, ?_, ?_⟩, hS.F ht⟩) hS.2.2 hdg hlk
  · subst hE2
    intro k y hk
    simp only [wd, List.getElem?_map] at hk
    cases hd : L68[k]? with
    | none => rw [hd] at hk; cases hk
    | some d =>
      rw [hd] at hk
      cases hk
      obtain ⟨q, hq⟩ := hlo d (List.mem_of_getElem? hd)
      rw [ht]
      exact hP q _ hq
  · subst hE2
    exact ⟨List.nodup_range, fun i hi j hj e0 => hEK.2 i (hsub i hi) j (hsub j hj) e0⟩
  · intro d hd
    subst hE2
    exact hfA _ (Or.inl ⟨d, hsub d hd, rfl⟩)
theorem z_Sback {E2 : En0} {L2 : List Nat} (hfA : ∀ q, fA E2 L2 s.heap.size q → A q) (hS : va_S (fA E2 L2 s.heap.size) s.heap H locs) : va_S A s.heap H locs := ⟨hS.1, fun q h1 h2 => hS.2.1 q h1 (fun h3 => h2 (hfA q h3)), fun z hz => hfA _ (hS.2.2 z hz)⟩
end ZTE
def rmX12_teach : Room := { frames := 24, cells := 9, slots := 3281, locals := 532 }
def wX12_teach9 (st : St) (Q : Int32 → St → Prop) : Prop := rOK st ∧ ∀ st1, st1 = stB st → wX12_begin 54 st1 (fun u => Q 0 u)
def wX12_teach (st : St) (Q : Int32 → St → Prop) : Prop :=
  ∀ st1, st1 = uI st 54 0 0 → rOK st1 ∧ ∀ st2, st2 = stR st1 → (wX11_book 68 st2 (fun r2 st1 => (∀ st3, st3 = uI st1 54 2 0 → ((r2 = 0 → ((r2 = 0 → (∀ st4, st4 = uI st3 54 3 (gI st3 68 13) → (((1 : Int32) = 0 → wX12_teach9 st4 Q) ∧ (¬ (1 : Int32) = 0 → (rOK st4 ∧ Q 1 st4))))) ∧ (¬ r2 = 0 → (∀ st5, st5 = uI st3 54 3 (gI st3 68 12) → (((1 : Int32) = 0 → wX12_teach9 st5 Q) ∧ (¬ (1 : Int32) = 0 → (rOK st5 ∧ Q 1 st5))))))) ∧ (¬ r2 = 0 → (∀ x6 : Int32, x6 = (gI st3 68 11) → ((r2 = 0 → (∀ st7, st7 = uI st3 54 3 (gI st3 68 13) → ((x6 = 0 → wX12_teach9 st7 Q) ∧ (¬ x6 = 0 → (rOK st7 ∧ Q x6 st7))))) ∧ (¬ r2 = 0 → (∀ st8, st8 = uI st3 54 3 (gI st3 68 12) → ((x6 = 0 → wX12_teach9 st8 Q) ∧ (¬ x6 = 0 → (rOK st8 ∧ Q x6 st8))))))))))))
theorem swm1 {E E2 : En0} {c : Nat} (h : kd c = 1) (hK : E2.2.2.1 = E.2.2.1) (h1 : ∀ d, d < 60 → E2.2.1 d = E.2.1 d) {i : Nat → Int32} {j : Nat → Int64} {k : Nat → Option Nat} {r : Nat → Nat} (hr : ∀ n, r n < 60) : fl1 E2 c i j k r = fl1 E c i j k r := by
  simp only [fl1, h1 (c + 1) (Nat.lt_of_lt_of_le (kd_all (P := fun c => c + 1 < 54) h (by decide) (by decide +kernel)) (by decide)), h1 (c + 2) (Nat.lt_of_lt_of_le (kd_all (P := fun c => c + 2 < 54) h (by decide) (by decide +kernel)) (by decide)), h1 (c + 3) (Nat.lt_of_lt_of_le (kd_all (P := fun c => c + 3 < 54) h (by decide) (by decide +kernel)) (by decide)), h1 (c + 4) (Nat.lt_of_lt_of_le (kd_all (P := fun c => c + 4 < 54) h (by decide) (by decide +kernel)) (by decide)), h1 (c + 5) (Nat.lt_of_lt_of_le (kd_all (P := fun c => c + 5 < 54) h (by decide) (by decide +kernel)) (by decide)), h1 (c + 6) (Nat.lt_of_lt_of_le (kd_all (P := fun c => c + 6 < 54) h (by decide) (by decide +kernel)) (by decide)), h1 (c + 7) (Nat.lt_of_lt_of_le (kd_all (P := fun c => c + 7 < 54) h (by decide) (by decide +kernel)) (by decide)), h1 (c + 8) (Nat.lt_of_lt_of_le (kd_all (P := fun c => c + 8 < 54) h (by decide) (by decide +kernel)) (by decide)), h1 (c + 9) (Nat.lt_of_lt_of_le (kd_all (P := fun c => c + 9 < 54) h (by decide) (by decide +kernel)) (by decide)), h1 (c + 10) (Nat.lt_of_lt_of_le (kd_all (P := fun c => c + 10 < 54) h (by decide) (by decide +kernel)) (by decide)), h1 (c + 11) (Nat.lt_of_lt_of_le (kd_all (P := fun c => c + 11 < 54) h (by decide) (by decide +kernel)) (by decide)), h1 (c + 12) (Nat.lt_of_lt_of_le (kd_all (P := fun c => c + 12 < 54) h (by decide) (by decide +kernel)) (by decide))]
theorem swm2 {E E2 : En0} {c : Nat} (h : kd c = 2) (hK : E2.2.2.1 = E.2.2.1) (h1 : ∀ d, d < 60 → E2.2.1 d = E.2.1 d) {i : Nat → Int32} {j : Nat → Int64} {k : Nat → Option Nat} {r : Nat → Nat} (hr : ∀ n, r n < 60) : fl2 E2 c i j k r = fl2 E c i j k r := by
  simp only [fl2, h1 (c + 1) (Nat.lt_of_lt_of_le (kd_all (P := fun c => c + 1 < 54) h (by decide) (by decide +kernel)) (by decide)), h1 (c + 2) (Nat.lt_of_lt_of_le (kd_all (P := fun c => c + 2 < 54) h (by decide) (by decide +kernel)) (by decide)), h1 (c + 3) (Nat.lt_of_lt_of_le (kd_all (P := fun c => c + 3 < 54) h (by decide) (by decide +kernel)) (by decide)), h1 (c + 4) (Nat.lt_of_lt_of_le (kd_all (P := fun c => c + 4 < 54) h (by decide) (by decide +kernel)) (by decide)), h1 (c + 5) (Nat.lt_of_lt_of_le (kd_all (P := fun c => c + 5 < 54) h (by decide) (by decide +kernel)) (by decide))]
theorem swm3 {E E2 : En0} {c : Nat} (h : kd c = 3) (hK : E2.2.2.1 = E.2.2.1) (h1 : ∀ d, d < 60 → E2.2.1 d = E.2.1 d) {i : Nat → Int32} {j : Nat → Int64} {k : Nat → Option Nat} {r : Nat → Nat} (hr : ∀ n, r n < 60) : fl3 E2 c i j k r = fl3 E c i j k r := by
  simp only [fl3, h1 (r 0) (hr 0), h1 (r 1) (hr 1)]
  rw [hK]
theorem swm4 {E E2 : En0} {c : Nat} (h : kd c = 4) (hK : E2.2.2.1 = E.2.2.1) (h1 : ∀ d, d < 60 → E2.2.1 d = E.2.1 d) {i : Nat → Int32} {j : Nat → Int64} {k : Nat → Option Nat} {r : Nat → Nat} (hr : ∀ n, r n < 60) : fl4 E2 c i j k r = fl4 E c i j k r := by
  simp only [fl4, h1 (c + 1) (Nat.lt_of_lt_of_le (kd_all (P := fun c => c + 1 < 54) h (by decide) (by decide +kernel)) (by decide)), h1 (r 0) (hr 0), h1 (r 1) (hr 1)]
theorem swm5 {E E2 : En0} {c : Nat} (h : kd c = 5) (hK : E2.2.2.1 = E.2.2.1) (h1 : ∀ d, d < 60 → E2.2.1 d = E.2.1 d) {i : Nat → Int32} {j : Nat → Int64} {k : Nat → Option Nat} {r : Nat → Nat} (hr : ∀ n, r n < 60) : fl5 E2 c i j k r = fl5 E c i j k r := by
  simp only [fl5, h1 (c + 1) (Nat.lt_of_lt_of_le (kd_all (P := fun c => c + 1 < 54) h (by decide) (by decide +kernel)) (by decide))]
theorem swm6 {E E2 : En0} {c : Nat} (h : kd c = 6) (hK : E2.2.2.1 = E.2.2.1) (h1 : ∀ d, d < 60 → E2.2.1 d = E.2.1 d) {i : Nat → Int32} {j : Nat → Int64} {k : Nat → Option Nat} {r : Nat → Nat} (hr : ∀ n, r n < 60) : fl6 E2 c i j k r = fl6 E c i j k r := by
  simp only [fl6, h1 (c + 1) (Nat.lt_of_lt_of_le (kd_all (P := fun c => c + 1 < 54) h (by decide) (by decide +kernel)) (by decide)), h1 (c + 2) (Nat.lt_of_lt_of_le (kd_all (P := fun c => c + 2 < 54) h (by decide) (by decide +kernel)) (by decide)), h1 (c + 3) (Nat.lt_of_lt_of_le (kd_all (P := fun c => c + 3 < 54) h (by decide) (by decide +kernel)) (by decide)), h1 (c + 4) (Nat.lt_of_lt_of_le (kd_all (P := fun c => c + 4 < 54) h (by decide) (by decide +kernel)) (by decide))]
theorem swm7 {E E2 : En0} {c : Nat} (h : kd c = 7) (hK : E2.2.2.1 = E.2.2.1) (h1 : ∀ d, d < 60 → E2.2.1 d = E.2.1 d) {i : Nat → Int32} {j : Nat → Int64} {k : Nat → Option Nat} {r : Nat → Nat} (hr : ∀ n, r n < 60) : fl7 E2 c i j k r = fl7 E c i j k r := by
  simp only [fl7, h1 (c + 1) (Nat.lt_of_lt_of_le (kd_all (P := fun c => c + 1 < 54) h (by decide) (by decide +kernel)) (by decide)), h1 4 (by decide)]
theorem swm8 {E E2 : En0} {c : Nat} (h : kd c = 8) (hK : E2.2.2.1 = E.2.2.1) (h1 : ∀ d, d < 60 → E2.2.1 d = E.2.1 d) {i : Nat → Int32} {j : Nat → Int64} {k : Nat → Option Nat} {r : Nat → Nat} (hr : ∀ n, r n < 60) : fl8 E2 c i j k r = fl8 E c i j k r := by
  simp only [fl8, h1 (c + 1) (Nat.lt_of_lt_of_le (kd_all (P := fun c => c + 1 < 54) h (by decide) (by decide +kernel)) (by decide)), h1 (c + 3) (Nat.lt_of_lt_of_le (kd_all (P := fun c => c + 3 < 54) h (by decide) (by decide +kernel)) (by decide)), h1 (c + 4) (Nat.lt_of_lt_of_le (kd_all (P := fun c => c + 4 < 54) h (by decide) (by decide +kernel)) (by decide)), h1 (c + 10) (Nat.lt_of_lt_of_le (kd_all (P := fun c => c + 10 < 54) h (by decide) (by decide +kernel)) (by decide)), h1 (c + 16) (Nat.lt_of_lt_of_le (kd_all (P := fun c => c + 16 < 54) h (by decide) (by decide +kernel)) (by decide)), h1 (c + 18) (Nat.lt_of_lt_of_le (kd_all (P := fun c => c + 18 < 54) h (by decide) (by decide +kernel)) (by decide)), h1 (r 6) (hr 6), h1 (r 7) (hr 7)]
theorem swm_ent {E : En0} {a3 a2 : Nat → Nat} {c : Nat} (hc : c < 68) (hn54 : c ≠ 54) (hn60 : ¬ (60 ≤ c ∧ c < 67)) (h1 : ∀ d, d < 60 → a3 d = a2 d) {st : St} (hr : rOK st) : entS (E.1, a3, E.2.2) (stB st) c = entS (E.1, a2, E.2.2) st c := by
  have hrr : ∀ n, st.2.2.2 c n < 60 := fun n => hr c n
  have hst : entS (E.1, a3, E.2.2) (stB st) c = entS (E.1, a3, E.2.2) st c := by simp only [entS, stB, if_neg hn60]
  rw [hst]
  have key : ∀ n, kd c = n → entS (E.1, a3, E.2.2) st c = entS (E.1, a2, E.2.2) st c := by
    intro n hn
    by_cases h101 : n = 1
    · subst h101; rw [e1 hn, e1 hn, swm1 (E := (E.1, a2, E.2.2)) (E2 := (E.1, a3, E.2.2)) hn rfl h1 hrr]
    by_cases h102 : n = 2
    · subst h102; rw [e2 hn, e2 hn, swm2 (E := (E.1, a2, E.2.2)) (E2 := (E.1, a3, E.2.2)) hn rfl h1 hrr]
    by_cases h103 : n = 3
    · subst h103; rw [e3 hn, e3 hn, swm3 (E := (E.1, a2, E.2.2)) (E2 := (E.1, a3, E.2.2)) hn rfl h1 hrr]
    by_cases h104 : n = 4
    · subst h104; rw [e4 hn, e4 hn, swm4 (E := (E.1, a2, E.2.2)) (E2 := (E.1, a3, E.2.2)) hn rfl h1 hrr]
    by_cases h105 : n = 5
    · subst h105; rw [e5 hn, e5 hn, swm5 (E := (E.1, a2, E.2.2)) (E2 := (E.1, a3, E.2.2)) hn rfl h1 hrr]
    by_cases h106 : n = 6
    · subst h106; rw [e6 hn, e6 hn, swm6 (E := (E.1, a2, E.2.2)) (E2 := (E.1, a3, E.2.2)) hn rfl h1 hrr]
    by_cases h107 : n = 7
    · subst h107; rw [e7 hn, e7 hn, swm7 (E := (E.1, a2, E.2.2)) (E2 := (E.1, a3, E.2.2)) hn rfl h1 hrr]
    by_cases h108 : n = 8
    · subst h108; rw [e8 hn, e8 hn, swm8 (E := (E.1, a2, E.2.2)) (E2 := (E.1, a3, E.2.2)) hn rfl h1 hrr]
    by_cases h120 : n = 20
    · subst h120; rw [e20 hn, e20 hn]
    by_cases h121 : n = 21
    · subst h121; rw [e21 hn, e21 hn]
    by_cases h122 : n = 22
    · subst h122; rw [e22 hn, e22 hn]
    by_cases h123 : n = 23
    · subst h123; rw [e23 hn, e23 hn]
    by_cases h124 : n = 24
    · subst h124; rw [e24 hn, e24 hn]
    exfalso
    have h : ∀ d, d < 68 → d ≠ 54 → ¬ (60 ≤ d ∧ d < 67) → kd d ∈ [1, 2, 3, 4, 5, 6, 7, 8, 20, 21, 22, 23, 24] := by decide +kernel
    have h := h c hc hn54 hn60
    rw [hn] at h
    simp at h
    omega
  exact key _ rfl
set_option maxHeartbeats 4000000 in
set_option maxRecDepth 100000 in
theorem t_suc {p : Program} {l : Launch} {e : Env} {s : State} {m : MethodId} {args : Array Value} {below : List Frame} {meth : Method} {c : Code} {H : Heap} {locs : List Loc} {cells slots : Nat} {E E2 : En0} {a2 : Nat → Nat} {st : St} {ls : Array Slot} {post : Int32 → St → Prop}
    (C1 : Cx E L68 "PlankBridgeModel" cX12_teach 4 p s m args c) (C : Cx E2 L77 "PlankBridgeModel" cX12_teach 4 p s m args c) (hE2 : E2 = (E.1, a2, E.2.2)) (halo : ∀ d, d < 68 → a2 d = E.2.1 d) (hfA : ∀ q, fA E2 L77 s.heap.size q → fA E L68 s.heap.size q) (hS : va_S (fA E2 L77 s.heap.size) s.heap H locs)
    (hr : meth.sig.returnType = some .int) (hlk : meth.locks = false) (hP : va_P E2.1 vwCl (wd E2 L77 st) H) (hl : lv_has ls 4 [(0, .ref (E2.2.1 54)), (1, .ref (E2.2.1 68))]) (hc : cells ≤ rmX12_teach.cells) (hs : slots ≤ rmX12_teach.slots) (h : wX12_teach9 st post) :
    W p l e rmX12_teach s m args below meth c H locs cells slots (MQ below (zT E post (fA E L68 s.heap.size)) args s rmX12_teach.cells rmX12_teach.slots (fA E L68 s.heap.size)) (F0 m 62 ls []) := by
  obtain ⟨hrk, h⟩ := h
  refine lv_aload_n C.1 C.2.1 dX12_teach_62 rfl (lv_at hl 0 rfl) ?_
  refine lv_aload_n C.1 C.2.1 dX12_teach_63 rfl (lv_at hl 1 rfl) ?_
  refine gn10_0 C hP (show kd 68 = 10 from rfl) (by decide) q1439 dX12_teach_64 ?_
  obtain ⟨p54, hp54, he54⟩ := wd_at (E := E2) (L := L77) (st := st) (c := 54) (by decide) (e11 (show kd 54 = 11 from rfl))
  refine va_put (D := E2.1) (ci := 10) (v := .ref (E2.2.1 (68 + 2))) (ty := .object "PlankBridgeModel$Book") (C := RX12) (T := TX12) (N := 9) C.1 C.2.1 C.2.2.2.2.1 in11 tyX12 tyX12_ok nmX12 C.2.2.2.1 C.2.2.2.2.2.1 hP C.D hS p54 he54 rfl 4 (by decide) (C.T q1383) (fun _ h => h) rfl (by decide +kernel) rfl rfl (Nat.le_of_ble_eq_true rfl) dX12_teach_67 (fun H locs hP1 hD1 hS => ?_)
  obtain ⟨a3, ha3⟩ : ∃ z : Nat → Nat, z = fun d => if 60 ≤ d ∧ d < 67 then a2 (d + 10) else a2 d := ⟨_, rfl⟩
  have h3n : ∀ d, ¬ (60 ≤ d ∧ d < 67) → a3 d = a2 d := fun d hd => by rw [ha3]; exact if_neg hd
  have h3y : ∀ d, 60 ≤ d → d < 67 → a3 d = a2 (d + 10) := fun d hd hd2 => by rw [ha3]; exact if_pos ⟨hd, hd2⟩
  obtain ⟨E3, hE3⟩ : ∃ z : En0, z = (E.1, a3, E.2.2) := ⟨_, rfl⟩
  have hsrc : ∀ d : Nat, d ∈ L77 → d ≠ 54 → ∃ k : Nat, ((wd E2 L77 st).set p54 (E2.2.1 54, (.inr (10, (fl11 E2 54 (st.1 54) (st.2.1 54) (st.2.2.1 54) (st.2.2.2 54)).set 4 (.ref (E2.2.1 (68 + 2)))) : va_E)))[k]? = some (E2.2.1 d, entS E2 st d) := by
    intro d hd hne
    obtain ⟨k, hk, hw⟩ := wd_at (E := E2) (st := st) hd rfl
    refine ⟨k, ?_⟩
    rw [List.getElem?_set_ne (fun e0 => hne (by rw [← e0] at hk; exact Option.some.inj (hk.symm.trans hp54)))]
    exact hw
  have hP3 : va_P E3.1 vwCl (wd E3 L68 (stB st)) H := by
    subst hE3; subst hE2
    intro k y hk
    simp only [wd, List.getElem?_map] at hk
    cases hd : L68[k]? with
    | none => rw [hd] at hk; cases hk
    | some d =>
      rw [hd] at hk
      have hk : (a3 d, entS (E.1, a3, E.2.2) (stB st) d) = y := Option.some.inj hk
      subst hk
      have hd68 : d < 68 := List.mem_range.mp (List.mem_of_getElem? hd)
      by_cases h54 : d = 54
      · subst h54
        have hg := hP1 p54 _ (List.getElem?_set_self (List.getElem?_eq_some_iff.mp he54).1)
        have he : (a3 54, entS (E.1, a3, E.2.2) (stB st) 54) = (a2 54, (.inr (10, (fl11 (E.1, a2, E.2.2) 54 (st.1 54) (st.2.1 54) (st.2.2.1 54) (st.2.2.2 54)).set 4 (.ref (a2 (68 + 2)))) : va_E)) := by
          rw [h3n 54 (by omega), e11 (show kd 54 = 11 from rfl)]
          have g1 : a3 60 = a2 70 := h3y 60 (by omega) (by omega)
          have g2 : ∀ d, d < 60 → a3 d = a2 d := fun d hd => h3n d (by omega)
          simp only [fl11, g1, g2 (54 + 1) (by omega), g2 (54 + 2) (by omega), g2 (54 + 3) (by omega), g2 (54 + 4) (by omega), g2 (54 + 5) (by omega)]
          rfl
        rw [he]
        exact hg
      · by_cases h60 : 60 ≤ d ∧ d < 67
        · obtain ⟨k2, hk2⟩ := hsrc (d + 10) (List.mem_range.mpr (by omega)) (by omega)
          have hg := hP1 k2 _ hk2
          have he : (a3 d, entS (E.1, a3, E.2.2) (stB st) d) = (a2 (d + 10), entS (E.1, a2, E.2.2) st (d + 10)) := by
            rw [h3y d h60.1 h60.2]
            congr 1
            have hcase : d = 60 ∨ d = 61 ∨ d = 62 ∨ d = 63 ∨ d = 64 ∨ d = 65 ∨ d = 66 := by omega
            rcases hcase with rfl | rfl | rfl | rfl | rfl | rfl | rfl
            · rw [e9 (show kd 60 = 9 from rfl), e9 (show kd (60 + 10) = 9 from rfl)]
              have g2 : ∀ d, 60 ≤ d → d < 67 → a3 d = a2 (d + 10) := h3y
              simp only [fl9, g2 (60 + 1) (by omega) (by omega), g2 (60 + 2) (by omega) (by omega), g2 (60 + 3) (by omega) (by omega), g2 (60 + 4) (by omega) (by omega), g2 (60 + 5) (by omega) (by omega), g2 (60 + 6) (by omega) (by omega)]
              rfl
            all_goals rfl
          rw [he]
          exact hg
        · obtain ⟨k2, hk2⟩ := hsrc d (List.mem_range.mpr (by omega)) h54
          have hg := hP1 k2 _ hk2
          rw [swm_ent (a2 := a2) hd68 h54 h60 (fun x hx => h3n x (by omega)) hrk, h3n d h60]
          exact hg
  have hEK2 := C.2.2.2.2.2.2.1
  have hEK3 : EK E3 L68 := by
    subst hE3; subst hE2
    refine ⟨List.nodup_range, fun i hi j hj e0 => ?_⟩
    have hi := List.mem_range.mp hi
    have hj := List.mem_range.mp hj
    have e0 : a3 i = a3 j := e0
    by_cases h1 : 60 ≤ i ∧ i < 67 <;> by_cases h2 : 60 ≤ j ∧ j < 67
    · rw [h3y i h1.1 h1.2, h3y j h2.1 h2.2] at e0
      have := hEK2.2 (i + 10) (List.mem_range.mpr (by omega)) (j + 10) (List.mem_range.mpr (by omega)) e0
      omega
    · rw [h3y i h1.1 h1.2, h3n j h2] at e0
      have := hEK2.2 (i + 10) (List.mem_range.mpr (by omega)) j (List.mem_range.mpr (by omega)) e0
      omega
    · rw [h3n i h1, h3y j h2.1 h2.2] at e0
      have := hEK2.2 i (List.mem_range.mpr (by omega)) (j + 10) (List.mem_range.mpr (by omega)) e0
      omega
    · rw [h3n i h1, h3n j h2] at e0
      exact hEK2.2 i (List.mem_range.mpr (by omega)) j (List.mem_range.mpr (by omega)) e0
  have hA3 : ∀ q, fA E3 L68 s.heap.size q → fA E L68 s.heap.size q := by
    intro q hq
    refine hfA q ?_
    rcases hq with ⟨d, hd, he⟩ | hq
    · subst hE3; subst hE2
      have hd := List.mem_range.mp hd
      by_cases h1 : 60 ≤ d ∧ d < 67
      · exact Or.inl ⟨d + 10, List.mem_range.mpr (by omega), (h3y d h1.1 h1.2).symm.trans he⟩
      · exact Or.inl ⟨d, List.mem_range.mpr (by omega), (h3n d h1).symm.trans he⟩
    · exact Or.inr hq
  have hSA := z_Sback hfA hS
  have h54e : E2.2.1 54 = E3.2.1 54 := by rw [hE3, hE2]; exact (h3n 54 (by omega)).symm
  rw [h54e] at hl
  have h := h (stB st) rfl
  refine lv_aload_n C.1 C.2.1 dX12_teach_70 rfl (lv_at hl 0 rfl) ?_
  have hA3H : ∀ q, fA E3 L68 H.size q → fA E L68 s.heap.size q := fun q hq => hA3 q (fA_up hSA.1 q hq)
  have hpre : ∀ U : State, U.heap = H → s.WarmedH U.vm → zPc E3 L68 [.ref (E3.2.1 54)] (stB st) H.size ([.ref (E3.2.1 54)] : List Value).toArray U := fun U hU hW => by
    refine ⟨rfl, by rw [hU], ?_, ?_, NE.warm hW C.NE9, by rw [hU]; exact hP3⟩
    · subst hE3; exact va_K.moved hW.alike C1.2.2.2.2.2.1
    · rw [hU]
      have hk := ((C1.K.kept (H1 := H) hSA.2.1).narrow hA3H).moved hW.alike
      subst hE3
      exact hk
  obtain ⟨q54, hq54, hw54⟩ := wd_at (E := E3) (L := L68) (st := stB st) (c := 54) (by decide) (e11 (show kd 54 = 11 from rfl))
  have hK3 : va_K E3.1 vwCl (tyE E3) s := by subst hE3; exact C1.2.2.2.2.2.1
  have hrun := va_runV (locs := locs) (meth := meth) (below := below) (e := e) (As := []) (rest := []) (g := F0 m 71 ls [.ref (E3.2.1 54)]) C.F (tX12_begin (l := l) hEK3 (fun c _ h2 => List.mem_range.mpr (by omega)) (show kd 54 = 11 from rfl) h H.size) (cwV 0 C.F.2.2.2.2 (gV q1372 q1374 q39 q116 q1375) rfl rfl rfl hdX12_begin ⟨Nat.le_of_ble_eq_true rfl, Nat.le_of_ble_eq_true rfl⟩) ⟨z_blind, va_recv hK3 hP3 rfl hw54, hpre⟩ rfl rfl hl.1 rfl (lv_room (Nat.le_of_ble_eq_true rfl)) dX12_teach_71 ⟨hc, hs⟩
  refine va_callv hrun hSA (fun q _ hq => hA3H q hq) hA3H (fun u t H1 locs1 ht _ hp hB _ _ hS1 => ?_)
  have hB : va_P E3.1 vwCl (wd E3 L68 u) H1 := by rw [← ht]; exact hB
  refine lv_iconst C.1 C.2.1 (v := 0) dX12_teach_74 rfl ?_
  refine W.widen (k := rmX12_teach.cells) (n := rmX12_teach.slots) hc hs ?_
  exact z_rt C.1 C.2.1 hEK3 hE3 (fun d hd => hd) hr hlk hB (fun d hd => by obtain ⟨q, _, hq⟩ := wd_at (E := E3) (L := L68) (st := u) hd rfl; rw [hE3] at hq; exact ⟨q, by rw [hE3]; exact hq⟩) hA3 hS1 (fun c hc => (h3n c (by omega)).trans (halo c (by omega))) hp dX12_teach_75
set_option maxHeartbeats 4000000 in
set_option maxRecDepth 100000 in
theorem tX12_teach {l : Launch} {E : En0} (hE : EK E L68) {st : St} {Q : Int32 → St → Prop} (h : wX12_teach st Q) (sz : Nat) : Met l yX12_teach (.code yX12_teach cX12_teach 4 (some .int) :: lw_g) rmX12_teach (zPcA E L68 [.ref (E.2.1 54)] st sz) (zT E Q (fA E L68 sz)) rmX12_teach.cells rmX12_teach.slots (fA E L68 sz) := by
  refine Met.ofW (cc := cX12_teach) (maxL := 4) (ret := some .int) (by decide) rfl ?_
  intro p e s m args below meth c s₁ B hml hv
  obtain ⟨⟨rfl, hsz, hK, hC, hNE, hP⟩, hAO⟩ := hv
  have hts := atoms_spec (ws := Cond.code yX12_teach cX12_teach 4 (some .int) :: lw_g) B.pre
  subst hsz
  have hl := lv_entry [.ref (E.2.1 54)] (n := 4) (Nat.le_of_ble_eq_true rfl)
  rw [lg_entry_eq]
  generalize (lg_sl ([.ref (E.2.1 54)]) ++ List.replicate (4 - (lg_sl ([.ref (E.2.1 54)])).length) Slot.unset).toArray = ls at hl ⊢
  replace hl : lv_has ls 4 [(0, .ref (E.2.1 54))] := hl
  have C : Cx E L68 "PlankBridgeModel" cX12_teach 4 p s m _ c := ⟨B.exec, B.bytes, hml, findClass_of_methodNamed B.named, fun w hw => hts w (List.mem_cons_of_mem _ hw), hK, hE, hC, hNE⟩
  have hr := B.returns
  have hlk := B.notSynchronized
  have hS : va_S (fA E L68 s.heap.size) s.heap s.heap [] := va_S.rf
  show W p l e rmX12_teach s m _ below meth c s.heap [] 0 0 (MQ below (zT E Q (fA E L68 s.heap.size)) _ s rmX12_teach.cells rmX12_teach.slots (fA E L68 s.heap.size)) _
  unfold wX12_teach at h
  refine lv_aload_n C.1 C.2.1 dX12_teach_0 rfl (lv_at hl 0 rfl) ?_
  refine lv_iconst C.1 C.2.1 (v := 0) dX12_teach_1 rfl ?_
  refine pf11_0 C hP hS (show kd 54 = 11 from rfl) (by decide) q1377 dX12_teach_2 (fun H locs hP hS => ?_)
  obtain ⟨st1, est1⟩ : ∃ z, z = uI st 54 0 0 := ⟨_, rfl⟩
  rw [← est1] at hP; have h := h st1 est1
  obtain ⟨hrk, h⟩ := h
  have Cy := C.y hAO
  have hD := C.D (st := st1)
  refine va_new (D := E.1) (ci := 9) (fs := [.null, .null, .int 0, .int 0, .int 0, .int 0, .int 0, .int 0, .int 0, .long 0, .int 0, .int 0, .int 0, .int 0, .null]) (C := RX11) (T := TX11) (N := 15) C.1 C.2.1 C.2.2.2.2.1 in10 tyX11 tyX11_ok C.2.2.2.1 (C.T q1430) (C.T q1431) (C.T q124) C.2.2.2.2.2.1 hP hD hS Cy.hA rfl (fun j hj => (show ∀ j, j < 15 → defaultValue (tyX11 j) = vp_V [.null, .null, .int 0, .int 0, .int 0, .int 0, .int 0, .int 0, .int 0, .long 0, .int 0, .int 0, .int 0, .int 0, .null] j by decide +kernel) j hj) (Nat.le_of_ble_eq_true rfl) (Nat.le_of_ble_eq_true rfl) dX12_teach_5 (fun q0 H hP hD hS => ?_)
  refine lv_dup C.1 C.2.1 dX12_teach_8 rfl ?_
  refine lv_aload_n C.1 C.2.1 dX12_teach_9 rfl (lv_at hl 0 rfl) ?_
  have hlen : (wd E L68 st1).length = 68 := by simp [wd, L68]
  have hC9 : [68].map (fun i => (wd E L68 st1 ++ [(q0, (.inr (9, [.null, .null, .int 0, .int 0, .int 0, .int 0, .int 0, .int 0, .int 0, .long 0, .int 0, .int 0, .int 0, .int 0, .null]) : va_E))])[i]?) = ([(q0, (.inr (9, [.null, .null, .int 0, .int 0, .int 0, .int 0, .int 0, .int 0, .int 0, .long 0, .int 0, .int 0, .int 0, .int 0, .null]) : va_E))] : va_W).map some := by
    have h9 : (wd E L68 st1 ++ [(q0, (.inr (9, [.null, .null, .int 0, .int 0, .int 0, .int 0, .int 0, .int 0, .int 0, .long 0, .int 0, .int 0, .int 0, .int 0, .null]) : va_E))])[68]? = some (q0, .inr (9, [.null, .null, .int 0, .int 0, .int 0, .int 0, .int 0, .int 0, .int 0, .long 0, .int 0, .int 0, .int 0, .int 0, .null])) := by rw [← hlen, List.getElem?_append_right (Nat.le_refl _), Nat.sub_self]; rfl
    simp only [List.map_cons, List.map_nil, h9]
  have hR9 : (List.range 68).map (fun i => (wd E L68 st1 ++ [(q0, (.inr (9, [.null, .null, .int 0, .int 0, .int 0, .int 0, .int 0, .int 0, .int 0, .long 0, .int 0, .int 0, .int 0, .int 0, .null]) : va_E))])[i]?) = (wd E L68 st1).map some := by rw [← hlen]; exact tail_R
  refine y_join (wc := [(q0, (.inr (9, [.null, .null, .int 0, .int 0, .int 0, .int 0, .int 0, .int 0, .int 0, .long 0, .int 0, .int 0, .int 0, .int 0, .null]) : va_E))]) (wr := wd E L68 st1) hP hD hS Cy.hA [68] (List.range 68) hC9 hR9 (va_nd_range 68 (by decide)) (by decide) (y_runIN (As := [.ref (E.2.1 54)]) (rest := [.ref q0]) Cy hP hD hS [68] hC9 (by decide) (iX11_init (l := l) (E := E)) q1432 q1433 q124 q1434 rfl hdX11_init ⟨(Nat.le_of_ble_eq_true rfl), (Nat.le_of_ble_eq_true rfl)⟩ ⟨(Nat.le_of_ble_eq_true rfl), (Nat.le_of_ble_eq_true rfl)⟩ rfl hl.1 rfl (lv_room (Nat.le_of_ble_eq_true rfl)) dX12_teach_10) (fun u H locs hP hD hS => ?_)
  obtain ⟨fin, hfin⟩ : ∃ z : va_W, z = [(q0, .inr (9, [.ref (u 0), .ref (u 7), .int 0, .int 0, .int 0, .int 0, .int 0, .int 0, .int 0, .long 0, .int 0, .int 0, .int (-1), .int (-1), .ref (E.2.1 54)])), (u 7, .inl (E.2.2.2 3, 16, .inr (.inl (fun _ => 0)))), (u 0, .inr (8, [.int 0, .int 0, .int 0, .int 0, .ref (u 1), .ref (u 2), .ref (u 3), .ref (u 4), .ref (u 5), .int 0, .ref (u 6), .int 0])), (u 1, .inl (E.2.2.2 0, 9, .inl (fun _ => 0))), (u 2, .inl (E.2.2.2 0, 9, .inl (fun _ => 0))), (u 3, .inl (E.2.2.2 0, 13, .inl (fun _ => 0))), (u 4, .inl (E.2.2.2 0, 7, .inl (fun _ => 0))), (u 5, .inl (E.2.2.2 0, 1600, .inl (fun _ => 0))), (u 6, .inl (E.2.2.2 0, 1600, .inl (fun _ => 0)))] := ⟨_, rfl⟩
  have hP9 := tail_P (r' := fin) hP [0, 8, 1, 2, 3, 4, 5, 6, 7] (by rw [hfin]; rfl)
  have hD9 := tail_D (r' := fin) hD [0, 8, 1, 2, 3, 4, 5, 6, 7] (by decide) (by rw [hfin]; rfl)
  obtain ⟨a2, ha2⟩ : ∃ z : Nat → Nat, z = fun d => if d < 68 then E.2.1 d else [q0, u 7, u 0, u 1, u 2, u 3, u 4, u 5, u 6].getD (d - 68) 0 := ⟨_, rfl⟩
  obtain ⟨E2, hE2⟩ : ∃ z : En0, z = (E.1, a2, E.2.2) := ⟨_, rfl⟩
  have halo : ∀ d, d < 68 → a2 d = E.2.1 d := fun d hd => by rw [ha2]; exact if_pos hd
  have hwd : wd E2 L77 (stR st1) = wd E L68 st1 ++ fin := by
    show (List.range 77).map _ = _
    rw [show List.range 77 = List.range 68 ++ [68, 69, 70, 71, 72, 73, 74, 75, 76] from by decide +kernel, List.map_append]
    congr 1
    · apply List.map_congr_left
      intro d hd
      have hd := List.mem_range.mp hd
      rw [stR_lo hd, hE2, swl_ent hd halo hrk, show (E.1, a2, E.2.2).2.1 d = E.2.1 d from halo d hd]
    · rw [hfin, hE2, ha2]
      rfl
  have hP2 : va_P E2.1 vwCl (wd E2 L77 (stR st1)) H := by rw [hwd, hE2]; exact hP9
  have hD2 : va_D (fA E L68 s.heap.size) (wd E2 L77 (stR st1)) := by rw [hwd]; exact hD9
  have hfA := y_fA (sz := s.heap.size) hD2 Cy.hA
  have hAf : ∀ q, fA E L68 s.heap.size q → fA E2 L77 s.heap.size q := by
    intro q hq
    rcases hq with ⟨d, hd, he⟩ | hq
    · have hd1 : d < 68 := List.mem_range.mp hd
      refine Or.inl ⟨d, List.mem_range.mpr (by omega), ?_⟩
      rw [hE2]
      exact (halo d hd1).trans he
    · exact Or.inr hq
  have C1 := C
  have hS1 := hS
  replace C := y_cx Cy hE2 (L := L77) List.nodup_range hD2
  replace hS := y_S hS hAf
  replace hP := hP2
  have hL : Cov 54 77 L77 := fun c _ h2 => List.mem_range.mpr h2
  have hE54 : E.2.1 54 = E2.2.1 54 := by rw [hE2]; exact (halo 54 (by decide)).symm
  have hE68 : q0 = E2.2.1 68 := by rw [hE2, ha2]; rfl
  rw [hE54] at hl
  rw [hE68]
  obtain ⟨st2, est2⟩ : ∃ z, z = stR st1 := ⟨_, rfl⟩
  rw [← est2] at hP; have h := h st2 est2
  refine lv_astore_n C.1 C.2.1 dX12_teach_13 rfl hl (Nat.le_of_ble_eq_true rfl) rfl (fun ls hl => ?_)
  have hl : lv_has ls 4 [(1, .ref (E2.2.1 68)), (0, .ref (E2.2.1 54))] := hl
  refine lv_aload_n C.1 C.2.1 dX12_teach_14 rfl (lv_at hl 0 rfl) ?_
  refine z_ki hS (z_runV (As := []) (rest := []) C hP hS (hL 68 (Nat.le_of_ble_eq_true rfl) (Nat.le_of_ble_eq_true rfl)) (e10 (show kd 68 = 10 from rfl)) rfl (tX11_book C.2.2.2.2.2.2.1 (hL.mo (Nat.le_of_ble_eq_true rfl) (Nat.le_of_ble_eq_true rfl)) (show kd 68 = 10 from rfl) h) q1488 q1489 q1490 q124 q1491 hdX11_book ⟨Nat.le_of_ble_eq_true rfl, Nat.le_of_ble_eq_true rfl⟩ ⟨Nat.le_of_ble_eq_true rfl, Nat.le_of_ble_eq_true rfl⟩ rfl hl.1 rfl (lv_room (Nat.le_of_ble_eq_true rfl)) dX12_teach_15) (fun r2 st1 H locs h hP hS => ?_)
  obtain ⟨hr2, h⟩ := h
  refine lv_istore_n C.1 C.2.1 dX12_teach_18 rfl hl (Nat.le_of_ble_eq_true rfl) rfl (fun ls hl => ?_)
  have hl : lv_has ls 4 [(2, .int r2), (1, .ref (E2.2.1 68)), (0, .ref (E2.2.1 54))] := hl
  refine lv_aload_n C.1 C.2.1 dX12_teach_19 rfl (lv_at hl 2 rfl) ?_
  refine lv_iconst C.1 C.2.1 (v := 0) dX12_teach_20 rfl ?_
  refine pf11_2 C hP hS (show kd 54 = 11 from rfl) (hL 54 (Nat.le_of_ble_eq_true rfl) (Nat.le_of_ble_eq_true rfl)) q1381 dX12_teach_21 (fun H locs hP hS => ?_)
  obtain ⟨st3, est3⟩ : ∃ z, z = uI st1 54 2 0 := ⟨_, rfl⟩
  rw [← est3] at hP; have h := h st3 est3
  refine lv_iload_n C.1 C.2.1 dX12_teach_24 rfl (lv_at hl 0 rfl) ?_
  refine lv_if_eq C.1 C.2.1 (tgt := 35) dX12_teach_25 (by decide) (fun hc => ?_) (fun hc => ?_)
  · have h := h.1 hc
    refine lv_iconst C.1 C.2.1 (v := 1) dX12_teach_35 rfl ?_
    refine lv_istore_n C.1 C.2.1 dX12_teach_36 rfl hl (Nat.le_of_ble_eq_true rfl) rfl (fun ls hl => ?_)
    have hl : lv_has ls 4 [(3, .int 1), (2, .int r2), (1, .ref (E2.2.1 68)), (0, .ref (E2.2.1 54))] := hl
    refine lv_aload_n C.1 C.2.1 dX12_teach_37 rfl (lv_at hl 3 rfl) ?_
    refine lv_iload_n C.1 C.2.1 dX12_teach_38 rfl (lv_at hl 1 rfl) ?_
    refine lv_if_eq C.1 C.2.1 (tgt := 49) dX12_teach_39 (by decide) (fun hc => ?_) (fun hc => ?_)
    · have h := h.1 hc
      refine lv_aload_n C.1 C.2.1 dX12_teach_49 rfl (lv_at hl 2 rfl) ?_
      refine gn10_13 C hP (show kd 68 = 10 from rfl) (hL 68 (Nat.le_of_ble_eq_true rfl) (Nat.le_of_ble_eq_true rfl)) q1455 dX12_teach_50 ?_
      refine pf11_3 C hP hS (show kd 54 = 11 from rfl) (hL 54 (Nat.le_of_ble_eq_true rfl) (Nat.le_of_ble_eq_true rfl)) q1382 dX12_teach_53 (fun H locs hP hS => ?_)
      obtain ⟨st4, est4⟩ : ∃ z, z = uI st3 54 3 (gI st3 68 13) := ⟨_, rfl⟩
      rw [← est4] at hP; have h := h st4 est4
      refine lv_iload_n C.1 C.2.1 dX12_teach_56 rfl (lv_at hl 0 rfl) ?_
      refine lv_if_eq C.1 C.2.1 (tgt := 62) dX12_teach_57 (by decide) (fun hc => ?_) (fun hc => ?_)
      · have h := h.1 hc
        exact t_suc C1 C hE2 halo hfA hS hr hlk hP (lv_sub hl [3, 2] rfl) (Nat.le_of_ble_eq_true rfl) (Nat.le_of_ble_eq_true rfl) h
      · have h := h.2 hc
        refine lv_iload_n C.1 C.2.1 dX12_teach_60 rfl (lv_at hl 0 rfl) ?_
        obtain ⟨hru, h⟩ := h
        refine W.widen (k := rmX12_teach.cells) (n := rmX12_teach.slots) (Nat.le_of_ble_eq_true rfl) (Nat.le_of_ble_eq_true rfl) ?_
        exact z_rt C.1 C.2.1 C.2.2.2.2.2.2.1 hE2 (fun d hd => List.mem_range.mpr (by have := List.mem_range.mp hd; omega)) hr hlk hP (fun d hd => by obtain ⟨q, _, hq⟩ := wd_at (E := E2) (L := L77) (st := st4) (show d ∈ L77 from List.mem_range.mpr (by have := List.mem_range.mp hd; omega)) rfl; rw [hE2] at hq; exact ⟨q, by rw [hE2]; exact hq⟩) hfA (z_Sback hfA hS) (fun c hc => halo c (by omega)) h dX12_teach_61
    · have h := h.2 hc
      refine lv_aload_n C.1 C.2.1 dX12_teach_42 rfl (lv_at hl 2 rfl) ?_
      refine gn10_12 C hP (show kd 68 = 10 from rfl) (hL 68 (Nat.le_of_ble_eq_true rfl) (Nat.le_of_ble_eq_true rfl)) q1453 dX12_teach_43 ?_
      refine lv_goto C.1 C.2.1 (tgt := 53) dX12_teach_46 (by decide) ?_
      refine pf11_3 C hP hS (show kd 54 = 11 from rfl) (hL 54 (Nat.le_of_ble_eq_true rfl) (Nat.le_of_ble_eq_true rfl)) q1382 dX12_teach_53 (fun H locs hP hS => ?_)
      obtain ⟨st5, est5⟩ : ∃ z, z = uI st3 54 3 (gI st3 68 12) := ⟨_, rfl⟩
      rw [← est5] at hP; have h := h st5 est5
      refine lv_iload_n C.1 C.2.1 dX12_teach_56 rfl (lv_at hl 0 rfl) ?_
      refine lv_if_eq C.1 C.2.1 (tgt := 62) dX12_teach_57 (by decide) (fun hc => ?_) (fun hc => ?_)
      · have h := h.1 hc
        exact t_suc C1 C hE2 halo hfA hS hr hlk hP (lv_sub hl [3, 2] rfl) (Nat.le_of_ble_eq_true rfl) (Nat.le_of_ble_eq_true rfl) h
      · have h := h.2 hc
        refine lv_iload_n C.1 C.2.1 dX12_teach_60 rfl (lv_at hl 0 rfl) ?_
        obtain ⟨hru, h⟩ := h
        refine W.widen (k := rmX12_teach.cells) (n := rmX12_teach.slots) (Nat.le_of_ble_eq_true rfl) (Nat.le_of_ble_eq_true rfl) ?_
        exact z_rt C.1 C.2.1 C.2.2.2.2.2.2.1 hE2 (fun d hd => List.mem_range.mpr (by have := List.mem_range.mp hd; omega)) hr hlk hP (fun d hd => by obtain ⟨q, _, hq⟩ := wd_at (E := E2) (L := L77) (st := st5) (show d ∈ L77 from List.mem_range.mpr (by have := List.mem_range.mp hd; omega)) rfl; rw [hE2] at hq; exact ⟨q, by rw [hE2]; exact hq⟩) hfA (z_Sback hfA hS) (fun c hc => halo c (by omega)) h dX12_teach_61
  · have h := h.2 hc
    refine lv_aload_n C.1 C.2.1 dX12_teach_28 rfl (lv_at hl 1 rfl) ?_
    refine gn10_11 C hP (show kd 68 = 10 from rfl) (hL 68 (Nat.le_of_ble_eq_true rfl) (Nat.le_of_ble_eq_true rfl)) q1451 dX12_teach_29 ?_
    refine lv_goto C.1 C.2.1 (tgt := 36) dX12_teach_32 (by decide) ?_
    refine lv_topi (fun x6 ex6 => ?_)
    have h := h x6 ex6
    refine lv_istore_n C.1 C.2.1 dX12_teach_36 rfl hl (Nat.le_of_ble_eq_true rfl) rfl (fun ls hl => ?_)
    have hl : lv_has ls 4 [(3, .int x6), (2, .int r2), (1, .ref (E2.2.1 68)), (0, .ref (E2.2.1 54))] := hl
    refine lv_aload_n C.1 C.2.1 dX12_teach_37 rfl (lv_at hl 3 rfl) ?_
    refine lv_iload_n C.1 C.2.1 dX12_teach_38 rfl (lv_at hl 1 rfl) ?_
    refine lv_if_eq C.1 C.2.1 (tgt := 49) dX12_teach_39 (by decide) (fun hc => ?_) (fun hc => ?_)
    · have h := h.1 hc
      refine lv_aload_n C.1 C.2.1 dX12_teach_49 rfl (lv_at hl 2 rfl) ?_
      refine gn10_13 C hP (show kd 68 = 10 from rfl) (hL 68 (Nat.le_of_ble_eq_true rfl) (Nat.le_of_ble_eq_true rfl)) q1455 dX12_teach_50 ?_
      refine pf11_3 C hP hS (show kd 54 = 11 from rfl) (hL 54 (Nat.le_of_ble_eq_true rfl) (Nat.le_of_ble_eq_true rfl)) q1382 dX12_teach_53 (fun H locs hP hS => ?_)
      obtain ⟨st7, est7⟩ : ∃ z, z = uI st3 54 3 (gI st3 68 13) := ⟨_, rfl⟩
      rw [← est7] at hP; have h := h st7 est7
      refine lv_iload_n C.1 C.2.1 dX12_teach_56 rfl (lv_at hl 0 rfl) ?_
      refine lv_if_eq C.1 C.2.1 (tgt := 62) dX12_teach_57 (by decide) (fun hc => ?_) (fun hc => ?_)
      · have h := h.1 hc
        exact t_suc C1 C hE2 halo hfA hS hr hlk hP (lv_sub hl [3, 2] rfl) (Nat.le_of_ble_eq_true rfl) (Nat.le_of_ble_eq_true rfl) h
      · have h := h.2 hc
        refine lv_iload_n C.1 C.2.1 dX12_teach_60 rfl (lv_at hl 0 rfl) ?_
        obtain ⟨hru, h⟩ := h
        refine W.widen (k := rmX12_teach.cells) (n := rmX12_teach.slots) (Nat.le_of_ble_eq_true rfl) (Nat.le_of_ble_eq_true rfl) ?_
        exact z_rt C.1 C.2.1 C.2.2.2.2.2.2.1 hE2 (fun d hd => List.mem_range.mpr (by have := List.mem_range.mp hd; omega)) hr hlk hP (fun d hd => by obtain ⟨q, _, hq⟩ := wd_at (E := E2) (L := L77) (st := st7) (show d ∈ L77 from List.mem_range.mpr (by have := List.mem_range.mp hd; omega)) rfl; rw [hE2] at hq; exact ⟨q, by rw [hE2]; exact hq⟩) hfA (z_Sback hfA hS) (fun c hc => halo c (by omega)) h dX12_teach_61
    · have h := h.2 hc
      refine lv_aload_n C.1 C.2.1 dX12_teach_42 rfl (lv_at hl 2 rfl) ?_
      refine gn10_12 C hP (show kd 68 = 10 from rfl) (hL 68 (Nat.le_of_ble_eq_true rfl) (Nat.le_of_ble_eq_true rfl)) q1453 dX12_teach_43 ?_
      refine lv_goto C.1 C.2.1 (tgt := 53) dX12_teach_46 (by decide) ?_
      refine pf11_3 C hP hS (show kd 54 = 11 from rfl) (hL 54 (Nat.le_of_ble_eq_true rfl) (Nat.le_of_ble_eq_true rfl)) q1382 dX12_teach_53 (fun H locs hP hS => ?_)
      obtain ⟨st8, est8⟩ : ∃ z, z = uI st3 54 3 (gI st3 68 12) := ⟨_, rfl⟩
      rw [← est8] at hP; have h := h st8 est8
      refine lv_iload_n C.1 C.2.1 dX12_teach_56 rfl (lv_at hl 0 rfl) ?_
      refine lv_if_eq C.1 C.2.1 (tgt := 62) dX12_teach_57 (by decide) (fun hc => ?_) (fun hc => ?_)
      · have h := h.1 hc
        exact t_suc C1 C hE2 halo hfA hS hr hlk hP (lv_sub hl [3, 2] rfl) (Nat.le_of_ble_eq_true rfl) (Nat.le_of_ble_eq_true rfl) h
      · have h := h.2 hc
        refine lv_iload_n C.1 C.2.1 dX12_teach_60 rfl (lv_at hl 0 rfl) ?_
        obtain ⟨hru, h⟩ := h
        refine W.widen (k := rmX12_teach.cells) (n := rmX12_teach.slots) (Nat.le_of_ble_eq_true rfl) (Nat.le_of_ble_eq_true rfl) ?_
        exact z_rt C.1 C.2.1 C.2.2.2.2.2.2.1 hE2 (fun d hd => List.mem_range.mpr (by have := List.mem_range.mp hd; omega)) hr hlk hP (fun d hd => by obtain ⟨q, _, hq⟩ := wd_at (E := E2) (L := L77) (st := st8) (show d ∈ L77 from List.mem_range.mpr (by have := List.mem_range.mp hd; omega)) rfl; rw [hE2] at hq; exact ⟨q, by rw [hE2]; exact hq⟩) hfA (z_Sback hfA hS) (fun c hc => halo c (by omega)) h dX12_teach_61

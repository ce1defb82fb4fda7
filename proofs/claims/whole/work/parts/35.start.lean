/-! the beginning of the law: two objects, one world -/
theorem swn1 {E : En0} {a2 : Nat → Nat} {c : Nat} (hc : c < 54) (h : kd c = 1) (h1 : ∀ d, d < 54 → a2 d = E.2.1 d) {i : Nat → Int32} {j : Nat → Int64} {k : Nat → Option Nat} {r : Nat → Nat} (hr : ∀ n, r n < 54) : fl1 (E.1, a2, E.2.2) c i j k r = fl1 E c i j k r := by
  simp only [fl1, h1 (c + 1) (kd_all (P := fun c => c < 54 → c + 1 < 54) h (by decide) (by decide +kernel) hc), h1 (c + 2) (kd_all (P := fun c => c < 54 → c + 2 < 54) h (by decide) (by decide +kernel) hc), h1 (c + 3) (kd_all (P := fun c => c < 54 → c + 3 < 54) h (by decide) (by decide +kernel) hc), h1 (c + 4) (kd_all (P := fun c => c < 54 → c + 4 < 54) h (by decide) (by decide +kernel) hc), h1 (c + 5) (kd_all (P := fun c => c < 54 → c + 5 < 54) h (by decide) (by decide +kernel) hc), h1 (c + 6) (kd_all (P := fun c => c < 54 → c + 6 < 54) h (by decide) (by decide +kernel) hc), h1 (c + 7) (kd_all (P := fun c => c < 54 → c + 7 < 54) h (by decide) (by decide +kernel) hc), h1 (c + 8) (kd_all (P := fun c => c < 54 → c + 8 < 54) h (by decide) (by decide +kernel) hc), h1 (c + 9) (kd_all (P := fun c => c < 54 → c + 9 < 54) h (by decide) (by decide +kernel) hc), h1 (c + 10) (kd_all (P := fun c => c < 54 → c + 10 < 54) h (by decide) (by decide +kernel) hc), h1 (c + 11) (kd_all (P := fun c => c < 54 → c + 11 < 54) h (by decide) (by decide +kernel) hc), h1 (c + 12) (kd_all (P := fun c => c < 54 → c + 12 < 54) h (by decide) (by decide +kernel) hc)]
theorem swn2 {E : En0} {a2 : Nat → Nat} {c : Nat} (hc : c < 54) (h : kd c = 2) (h1 : ∀ d, d < 54 → a2 d = E.2.1 d) {i : Nat → Int32} {j : Nat → Int64} {k : Nat → Option Nat} {r : Nat → Nat} (hr : ∀ n, r n < 54) : fl2 (E.1, a2, E.2.2) c i j k r = fl2 E c i j k r := by
  simp only [fl2, h1 (c + 1) (kd_all (P := fun c => c < 54 → c + 1 < 54) h (by decide) (by decide +kernel) hc), h1 (c + 2) (kd_all (P := fun c => c < 54 → c + 2 < 54) h (by decide) (by decide +kernel) hc), h1 (c + 3) (kd_all (P := fun c => c < 54 → c + 3 < 54) h (by decide) (by decide +kernel) hc), h1 (c + 4) (kd_all (P := fun c => c < 54 → c + 4 < 54) h (by decide) (by decide +kernel) hc), h1 (c + 5) (kd_all (P := fun c => c < 54 → c + 5 < 54) h (by decide) (by decide +kernel) hc)]
theorem swn3 {E : En0} {a2 : Nat → Nat} {c : Nat} (hc : c < 54) (h : kd c = 3) (h1 : ∀ d, d < 54 → a2 d = E.2.1 d) {i : Nat → Int32} {j : Nat → Int64} {k : Nat → Option Nat} {r : Nat → Nat} (hr : ∀ n, r n < 54) : fl3 (E.1, a2, E.2.2) c i j k r = fl3 E c i j k r := by
  simp only [fl3, h1 (r 0) (hr 0), h1 (r 1) (hr 1)]
theorem swn4 {E : En0} {a2 : Nat → Nat} {c : Nat} (hc : c < 54) (h : kd c = 4) (h1 : ∀ d, d < 54 → a2 d = E.2.1 d) {i : Nat → Int32} {j : Nat → Int64} {k : Nat → Option Nat} {r : Nat → Nat} (hr : ∀ n, r n < 54) : fl4 (E.1, a2, E.2.2) c i j k r = fl4 E c i j k r := by
  simp only [fl4, h1 (c + 1) (kd_all (P := fun c => c < 54 → c + 1 < 54) h (by decide) (by decide +kernel) hc), h1 (r 0) (hr 0), h1 (r 1) (hr 1)]
theorem swn5 {E : En0} {a2 : Nat → Nat} {c : Nat} (hc : c < 54) (h : kd c = 5) (h1 : ∀ d, d < 54 → a2 d = E.2.1 d) {i : Nat → Int32} {j : Nat → Int64} {k : Nat → Option Nat} {r : Nat → Nat} (hr : ∀ n, r n < 54) : fl5 (E.1, a2, E.2.2) c i j k r = fl5 E c i j k r := by
  simp only [fl5, h1 (c + 1) (kd_all (P := fun c => c < 54 → c + 1 < 54) h (by decide) (by decide +kernel) hc)]
theorem swn6 {E : En0} {a2 : Nat → Nat} {c : Nat} (hc : c < 54) (h : kd c = 6) (h1 : ∀ d, d < 54 → a2 d = E.2.1 d) {i : Nat → Int32} {j : Nat → Int64} {k : Nat → Option Nat} {r : Nat → Nat} (hr : ∀ n, r n < 54) : fl6 (E.1, a2, E.2.2) c i j k r = fl6 E c i j k r := by
  simp only [fl6, h1 (c + 1) (kd_all (P := fun c => c < 54 → c + 1 < 54) h (by decide) (by decide +kernel) hc), h1 (c + 2) (kd_all (P := fun c => c < 54 → c + 2 < 54) h (by decide) (by decide +kernel) hc), h1 (c + 3) (kd_all (P := fun c => c < 54 → c + 3 < 54) h (by decide) (by decide +kernel) hc), h1 (c + 4) (kd_all (P := fun c => c < 54 → c + 4 < 54) h (by decide) (by decide +kernel) hc)]
theorem swn7 {E : En0} {a2 : Nat → Nat} {c : Nat} (hc : c < 54) (h : kd c = 7) (h1 : ∀ d, d < 54 → a2 d = E.2.1 d) {i : Nat → Int32} {j : Nat → Int64} {k : Nat → Option Nat} {r : Nat → Nat} (hr : ∀ n, r n < 54) : fl7 (E.1, a2, E.2.2) c i j k r = fl7 E c i j k r := by
  simp only [fl7, h1 (c + 1) (kd_all (P := fun c => c < 54 → c + 1 < 54) h (by decide) (by decide +kernel) hc), h1 4 (by decide)]
theorem swn8 {E : En0} {a2 : Nat → Nat} {c : Nat} (hc : c < 54) (h : kd c = 8) (h1 : ∀ d, d < 54 → a2 d = E.2.1 d) {i : Nat → Int32} {j : Nat → Int64} {k : Nat → Option Nat} {r : Nat → Nat} (hr : ∀ n, r n < 54) : fl8 (E.1, a2, E.2.2) c i j k r = fl8 E c i j k r := by
  simp only [fl8, h1 (c + 1) (kd_all (P := fun c => c < 54 → c + 1 < 54) h (by decide) (by decide +kernel) hc), h1 (c + 3) (kd_all (P := fun c => c < 54 → c + 3 < 54) h (by decide) (by decide +kernel) hc), h1 (c + 4) (kd_all (P := fun c => c < 54 → c + 4 < 54) h (by decide) (by decide +kernel) hc), h1 (c + 10) (kd_all (P := fun c => c < 54 → c + 10 < 54) h (by decide) (by decide +kernel) hc), h1 (c + 16) (kd_all (P := fun c => c < 54 → c + 16 < 54) h (by decide) (by decide +kernel) hc), h1 (c + 18) (kd_all (P := fun c => c < 54 → c + 18 < 54) h (by decide) (by decide +kernel) hc), h1 (r 6) (hr 6), h1 (r 7) (hr 7)]
theorem swn9 {E : En0} {a2 : Nat → Nat} {c : Nat} (hc0 : 54 ≤ c) (hc : c < 67) (h : kd c = 9) (h1 : ∀ d, 54 ≤ d → d < 67 → a2 d = E.2.1 d) {i : Nat → Int32} {j : Nat → Int64} {k : Nat → Option Nat} {r : Nat → Nat} : fl9 (E.1, a2, E.2.2) c i j k r = fl9 E c i j k r := by
  simp only [fl9, h1 (c + 1) (by omega) (kd_all (P := fun c => c < 67 → c + 1 < 67) h (by decide) (by decide +kernel) hc), h1 (c + 2) (by omega) (kd_all (P := fun c => c < 67 → c + 2 < 67) h (by decide) (by decide +kernel) hc), h1 (c + 3) (by omega) (kd_all (P := fun c => c < 67 → c + 3 < 67) h (by decide) (by decide +kernel) hc), h1 (c + 4) (by omega) (kd_all (P := fun c => c < 67 → c + 4 < 67) h (by decide) (by decide +kernel) hc), h1 (c + 5) (by omega) (kd_all (P := fun c => c < 67 → c + 5 < 67) h (by decide) (by decide +kernel) hc), h1 (c + 6) (by omega) (kd_all (P := fun c => c < 67 → c + 6 < 67) h (by decide) (by decide +kernel) hc)]
theorem swn11 {E : En0} {a2 : Nat → Nat} {c : Nat} (hc0 : 54 ≤ c) (hc : c < 67) (h : kd c = 11) (h1 : ∀ d, 54 ≤ d → d < 67 → a2 d = E.2.1 d) {i : Nat → Int32} {j : Nat → Int64} {k : Nat → Option Nat} {r : Nat → Nat} : fl11 (E.1, a2, E.2.2) c i j k r = fl11 E c i j k r := by
  simp only [fl11, h1 (c + 1) (by omega) (kd_all (P := fun c => c < 67 → c + 1 < 67) h (by decide) (by decide +kernel) hc), h1 (c + 2) (by omega) (kd_all (P := fun c => c < 67 → c + 2 < 67) h (by decide) (by decide +kernel) hc), h1 (c + 3) (by omega) (kd_all (P := fun c => c < 67 → c + 3 < 67) h (by decide) (by decide +kernel) hc), h1 (c + 4) (by omega) (kd_all (P := fun c => c < 67 → c + 4 < 67) h (by decide) (by decide +kernel) hc), h1 (c + 5) (by omega) (kd_all (P := fun c => c < 67 → c + 5 < 67) h (by decide) (by decide +kernel) hc), h1 60 (by decide) (by decide)]
theorem swn_lo {E : En0} {a2 : Nat → Nat} {c : Nat} (hc : c < 54) (h1 : ∀ d, d < 54 → a2 d = E.2.1 d) {st : St} (hr : ∀ n, st.2.2.2 c n < 54) : entS (E.1, a2, E.2.2) st c = entS E st c := by
  have key : ∀ n, kd c = n → entS (E.1, a2, E.2.2) st c = entS E st c := by
    intro n hn
    by_cases h101 : n = 1
    · subst h101; rw [e1 hn, e1 hn, swn1 hc hn h1 hr]
    by_cases h102 : n = 2
    · subst h102; rw [e2 hn, e2 hn, swn2 hc hn h1 hr]
    by_cases h103 : n = 3
    · subst h103; rw [e3 hn, e3 hn, swn3 hc hn h1 hr]
    by_cases h104 : n = 4
    · subst h104; rw [e4 hn, e4 hn, swn4 hc hn h1 hr]
    by_cases h105 : n = 5
    · subst h105; rw [e5 hn, e5 hn, swn5 hc hn h1 hr]
    by_cases h106 : n = 6
    · subst h106; rw [e6 hn, e6 hn, swn6 hc hn h1 hr]
    by_cases h107 : n = 7
    · subst h107; rw [e7 hn, e7 hn, swn7 hc hn h1 hr]
    by_cases h108 : n = 8
    · subst h108; rw [e8 hn, e8 hn, swn8 hc hn h1 hr]
    by_cases h120 : n = 20
    · subst h120; rw [e20 hn, e20 hn]
    by_cases h121 : n = 21
    · subst h121; rw [e21 hn, e21 hn]
    by_cases h122 : n = 22
    · subst h122; rw [e22 hn, e22 hn]
    by_cases h123 : n = 23
    · subst h123; rw [e23 hn, e23 hn]
    by_cases h124 : n = 24
    · subst h124; rw [e24 hn, e24 hn]
    exfalso
    have h : ∀ d, d < 54 → kd d ∈ [1, 2, 3, 4, 5, 6, 7, 8, 20, 21, 22, 23, 24] := by decide +kernel
    have h := h c hc
    rw [hn] at h
    simp at h
    omega
  exact key _ rfl
theorem swn_hi {E : En0} {a2 : Nat → Nat} {c : Nat} (hc0 : 54 ≤ c) (hc : c < 67) (h1 : ∀ d, 54 ≤ d → d < 67 → a2 d = E.2.1 d) {st : St} : entS (E.1, a2, E.2.2) st c = entS E st c := by
  have key : ∀ n, kd c = n → entS (E.1, a2, E.2.2) st c = entS E st c := by
    intro n hn
    by_cases h109 : n = 9
    · subst h109; rw [e9 hn, e9 hn, swn9 hc0 hc hn h1]
    by_cases h111 : n = 11
    · subst h111; rw [e11 hn, e11 hn, swn11 hc0 hc hn h1]
    by_cases h120 : n = 20
    · subst h120; rw [e20 hn, e20 hn]
    by_cases h121 : n = 21
    · subst h121; rw [e21 hn, e21 hn]
    by_cases h122 : n = 22
    · subst h122; rw [e22 hn, e22 hn]
    by_cases h123 : n = 23
    · subst h123; rw [e23 hn, e23 hn]
    by_cases h124 : n = 24
    · subst h124; rw [e24 hn, e24 hn]
    exfalso
    have h : ∀ d, d < 67 → 54 ≤ d → kd d ∈ [9, 11, 20, 21, 22, 23, 24] := by decide +kernel
    have h := h c hc hc0
    rw [hn] at h
    simp at h
    omega
  exact key _ rfl
/-- the class's cells and the reference's, side by side -/
def jn (s1 s2 : St) : St := (fun c j => if c < 54 then s1.1 c j else if c < 67 then s2.1 c j else 0, fun c j => if c < 54 then s1.2.1 c j else if c < 67 then s2.2.1 c j else 0, fun c j => if c < 54 then s1.2.2.1 c j else if c < 67 then s2.2.2.1 c j else none, fun c j => if c < 54 then s1.2.2.2 c j else if c < 67 then s2.2.2.2 c j else 0)
theorem jn_lo {E : En0} {s1 s2 : St} {c : Nat} (h : c < 54) : entS E (jn s1 s2) c = entS E s1 c := by simp only [entS, jn, if_pos h]
theorem jn_hi {E : En0} {s1 s2 : St} {c : Nat} (h0 : 54 ≤ c) (h : c < 67) : entS E (jn s1 s2) c = entS E s2 c := by
  have h1 : ¬ c < 54 := by omega
  simp only [entS, jn, if_neg h1, if_pos h]
section YJW
variable {p : Program} {l : Launch} {e : Env} {R : Room} {s : State} {m : MethodId} {args : Array Value} {below : List Frame} {meth : Method} {c : Code} {H : Heap} {locs : List Loc} {cells slots : Nat} {Q : State → Prop} {E : En0} {A : Nat → Prop} {own : String} {cc bytes : ByteArray} {nL maxL index n b0 h0 : Nat} {ws : va_W} {pc : Nat} {ls : Array Slot} {rest st0 As : List Value} {y : MethodName} {rm : Room}
theorem y_joinW {a : Array Value} {wc wr : va_W} {mc ms : Nat} {L : List Nat} {Qp : St → Prop} (hP : va_P E.1 vwCl ws H) (hD : va_D A ws) (hS : va_S A s.heap H locs) (hA : ∀ q, s.heap.size ≤ q → A q) (isC isR : List Nat) (hC : isC.map (fun i => ws[i]?) = wc.map some) (hR : isR.map (fun i => ws[i]?) = wr.map some) (hnd : va_nd isR = true) (hdis : ∀ i ∈ isR, i ∉ isC)
    (hr : va_Run p l e R s m args below meth c H locs cells slots mc ms (F0 m pc ls st0) rest (va_Qv (fun u : (Nat → Nat) × St => Qp u.2 ∧ u.1 b0 = h0) (fun u t => va_P E.1 vwCl (wd (E.1, u.1, E.2.2) L u.2) t.heap ∧ va_D (va_A wc H.size) (wd (E.1, u.1, E.2.2) L u.2)) (va_A wc H.size) a) (va_A wc H.size))
    (kk : ∀ (u : Nat → Nat) (st : St) (H : Heap) (locs : List Loc), Qp st → u b0 = h0 → va_P E.1 vwCl (wr ++ wd (E.1, u, E.2.2) L st) H → va_D A (wr ++ wd (E.1, u, E.2.2) L st) → va_S A s.heap H locs → W p l e R s m args below meth c H locs (cells + mc) (slots + ms) Q (F0 m (pc + 3) ls rest)) : W p l e R s m args below meth c H locs cells slots Q (F0 m pc ls st0) := by
  have hFc := va_free (wc := wc) hD hS hA isC hC
  refine va_callv hr hS (fun q _ h => hFc q h) hFc (fun u t H1 locs1 ht _ hp hB _ hk1 hS1 => ?_)
  obtain ⟨hP1, hD1⟩ := hB
  rw [ht] at hP1
  obtain ⟨hP2, hD2⟩ := va_join (wr := wr) (w1 := wd (E.1, u.1, E.2.2) L u.2) hP hD isC isR hC hR hnd hdis hk1 hFc hP1 hD1
  exact kk u.1 u.2 H1 locs1 hp.1 hp.2 hP2 hD2 hS1
theorem y_runW {wc : va_W} {b : Nat} {L : List Nat} {Qp : St → Prop} (C : yCx E A own cc nL p s m args c) (hP : va_P E.1 vwCl ws H) (hD : va_D A ws) (hS : va_S A s.heap H locs) (isC : List Nat) (hC : isC.map (fun i => ws[i]?) = wc.map some) (hnd : va_nd isC = true)
    (hM : Myw l y bytes maxL rm E (.ref b :: As) wc L b0 h0 Qp) (h1 : Cond.methodLink own index y ∈ lw_tbl) (h2 : Cond.instanceMethod y ∈ lw_tbl) (h4 : Cond.initialized y.cls ∈ lw_tbl) (h5 : Cond.code y bytes maxL none ∈ lw_tbl) (hyn : y.name = "<init>")
    (hd : y.cls ≠ "java/lang/invoke/MethodHandle" ∧ y.cls ≠ "java/lang/invoke/VarHandle" ∧ (parseMethodDescriptor y.desc).map (fun d => d.parameters.length) = some n) (hR : rm.frames + 1 ≤ R.frames ∧ 8 + (maxL + 11) + rm.locals ≤ R.locals) (hf : cells + rm.cells ≤ R.cells ∧ slots + rm.slots ≤ R.slots)
    (hn : As.length = n) (hsz : ls.size = nL) (hst : st0 = As.reverse ++ .ref b :: rest) (hW : 2 * (F0 m pc ls st0).monitorRoom + (rest.map fun v => v.category).sum ≤ 8) (hdg : decode cc pc = .ok (.invokespecial index, 3)) :
    va_Run p l e R s m args below meth c H locs cells slots rm.cells rm.slots (F0 m pc ls st0) rest (va_Qv (fun u : (Nat → Nat) × St => Qp u.2 ∧ u.1 b0 = h0) (fun u t => va_P E.1 vwCl (wd (E.1, u.1, E.2.2) L u.2) t.heap ∧ va_D (va_A wc H.size) (wd (E.1, u.1, E.2.2) L u.2)) (va_A wc H.size) (.ref b :: As).toArray) (va_A wc H.size) :=
  va_runI C.F (hM H.size) (cwI n C.F.2.2.2.2 (gC h5) rfl rfl rfl (C.T h4) (C.T h1) (C.T h2) hyn hd hR) ⟨y_blind, y_pre C hP hD hS isC hC hnd _⟩ rfl hn hsz hst hW hdg hf
end YJW
set_option maxHeartbeats 8000000 in
set_option maxRecDepth 100000 in
theorem law_start {p : Program} {l : Launch} {e : Env} {s : State} {m : MethodId} {args : Array Value} {below : List Frame} {meth : Method} {c : Code} {Q : State → Prop} {b0 n : Nat} {xs : Nat → Int32} {ls : Array Slot} {PC PM : St → Prop} {Inv : Nat → St → Prop} (h9 : wX9_init stC0 PC) (h12 : wX12_init stM0 PM) (hPC : ∀ st, PC st → ∀ c, c < 54 → ∀ j, gR st c j < 54) (hJ : ∀ s1 s2, PC s1 → PM s2 → Inv 0 (jn s1 s2)) (hI : LawCases Inv)
    (hfl : l.stackTraces = false) (hX : va_X b0 n xs s s.heap) (hbl : b0 < s.heap.size) (hn : n ≤ 3072) (hend : ∀ (H : Heap) (ls : Array Slot), W p l e room_1 s m args below meth c H [] 601024 7293034 Q (F0 m 1921 ls [.int 1]))
    {E : En0} (hLX : LX E p s m args c) (hl : lv_has ls 9 [(0, .ref b0)]) : W p l e room_1 s m args below meth c s.heap [] 0 0 Q (F0 m 0 ls []) := by
  obtain ⟨A, hAe⟩ : ∃ A : Nat → Prop, A = (fun q => s.heap.size ≤ q) := ⟨_, rfl⟩
  have C : yCx E A "PlankBridgeLaw" cL_law 9 p s m args c := ⟨hLX.1, hLX.2.1, hLX.2.2.1, hLX.2.2.2.1, hLX.2.2.2.2.1, hLX.2.2.2.2.2.1, hAe ▸ hLX.2.2.2.2.2.2.1, hLX.2.2.2.2.2.2.2.1, hLX.2.2.2.2.2.2.2.2.2, fun q h => hAe ▸ h⟩
  have hP : va_P E.1 vwCl [] s.heap := fun k q h => by cases h
  have hD : va_D A [] := ⟨fun i j p q h => (by cases h), fun k q h => by cases h⟩
  have hS : va_S A s.heap s.heap [] := ⟨Nat.le_refl _, fun _ _ _ => rfl, fun _ h => absurd h List.not_mem_nil⟩
  refine va_new (D := E.1) (ci := 7) (fs := [.null, .null, .null, .null, .null, .null, .null, .null, .int 0]) (C := RX9) (T := TX9) (N := 9) C.1 C.2.1 C.2.2.2.2.1 in8 tyX9 tyX9_ok C.2.2.2.1 (C.T q133) (C.T q134) (C.T q105) C.2.2.2.2.2.1 hP hD hS C.hA rfl (fun j hj => (show ∀ j, j < 9 → defaultValue (tyX9 j) = vp_V [.null, .null, .null, .null, .null, .null, .null, .null, .int 0] j by decide +kernel) j hj) (Nat.le_of_ble_eq_true rfl) (Nat.le_of_ble_eq_true rfl) dL_law_0 (fun h0 H hP hD hS => ?_)
  replace hP : va_P E.1 vwCl [(h0, (.inr (7, [.null, .null, .null, .null, .null, .null, .null, .null, .int 0]) : va_E))] H := hP
  replace hD : va_D A [(h0, (.inr (7, [.null, .null, .null, .null, .null, .null, .null, .null, .int 0]) : va_E))] := hD
  refine lv_dup C.1 C.2.1 dL_law_3 rfl ?_
  refine y_joinW (wc := [(h0, (.inr (7, [.null, .null, .null, .null, .null, .null, .null, .null, .int 0]) : va_E))]) (wr := []) hP hD hS C.hA [0] [] rfl rfl rfl (fun i hi => absurd hi List.not_mem_nil) (y_runW (As := []) (rest := [.ref h0]) C hP hD hS [0] rfl rfl (iX9_init (l := l) (E := E) h9) q135 q136 q105 q137 rfl hdX9_init ⟨(Nat.le_of_ble_eq_true rfl), (Nat.le_of_ble_eq_true rfl)⟩ ⟨(Nat.le_of_ble_eq_true rfl), (Nat.le_of_ble_eq_true rfl)⟩ rfl hl.1 rfl (lv_room (Nat.le_of_ble_eq_true rfl)) dL_law_4) (fun u1 st1 H locs hq1 hu1 hP hD hS => ?_)
  refine lv_astore_n C.1 C.2.1 dL_law_7 rfl hl (Nat.le_of_ble_eq_true rfl) rfl (fun ls hl => ?_)
  have hl : lv_has ls 9 [(1, .ref h0), (0, .ref b0)] := hl
  obtain ⟨w1, hw1⟩ : ∃ w : va_W, w = wd (E.1, u1, E.2.2) (List.range 54) st1 := ⟨_, rfl⟩
  replace hP : va_P E.1 vwCl w1 H := by rw [hw1]; exact hP
  replace hD : va_D A w1 := by rw [hw1]; exact hD
  have hw1l : w1.length = 54 := by rw [hw1]; simp [wd]
  refine va_new (D := E.1) (ci := 10) (fs := [.int 0, .null, .int 0, .int 0, .null, .null, .null, .null, .null]) (C := RX12) (T := TX12) (N := 9) C.1 C.2.1 C.2.2.2.2.1 in11 tyX12 tyX12_ok C.2.2.2.1 (C.T q1307) (C.T q1308) (C.T q116) C.2.2.2.2.2.1 hP hD hS C.hA rfl (fun j hj => (show ∀ j, j < 9 → defaultValue (tyX12 j) = vp_V [.int 0, .null, .int 0, .int 0, .null, .null, .null, .null, .null] j by decide +kernel) j hj) (Nat.le_of_ble_eq_true rfl) (Nat.le_of_ble_eq_true rfl) dL_law_8 (fun h1 H hP hD hS => ?_)
  refine lv_dup C.1 C.2.1 dL_law_11 rfl ?_
  have hC12 : [54].map (fun i => (w1 ++ [(h1, (.inr (10, [.int 0, .null, .int 0, .int 0, .null, .null, .null, .null, .null]) : va_E))])[i]?) = ([(h1, (.inr (10, [.int 0, .null, .int 0, .int 0, .null, .null, .null, .null, .null]) : va_E))] : va_W).map some := by
    have h5 : (w1 ++ [(h1, (.inr (10, [.int 0, .null, .int 0, .int 0, .null, .null, .null, .null, .null]) : va_E))])[54]? = some (h1, (.inr (10, [.int 0, .null, .int 0, .int 0, .null, .null, .null, .null, .null]) : va_E)) := by rw [← hw1l, List.getElem?_append_right (Nat.le_refl _), Nat.sub_self]; rfl
    simp only [List.map_cons, List.map_nil, h5]
  have hR12 : (List.range 54).map (fun i => (w1 ++ [(h1, (.inr (10, [.int 0, .null, .int 0, .int 0, .null, .null, .null, .null, .null]) : va_E))])[i]?) = w1.map some := by rw [← hw1l]; exact tail_R
  refine y_joinW (wc := [(h1, (.inr (10, [.int 0, .null, .int 0, .int 0, .null, .null, .null, .null, .null]) : va_E))]) (wr := w1) hP hD hS C.hA [54] (List.range 54) hC12 hR12 (va_nd_range 54 (by decide)) (by decide) (y_runW (As := []) (rest := [.ref h1]) C hP hD hS [54] hC12 (by decide) (iX12_init (l := l) (E := E) h12) q1309 q1310 q116 q1311 rfl hdX12_init ⟨(Nat.le_of_ble_eq_true rfl), (Nat.le_of_ble_eq_true rfl)⟩ ⟨(Nat.le_of_ble_eq_true rfl), (Nat.le_of_ble_eq_true rfl)⟩ rfl hl.1 rfl (lv_room (Nat.le_of_ble_eq_true rfl)) dL_law_12) (fun u2 st2 H locs hq2 hu2 hP hD hS => ?_)
  refine lv_astore_n C.1 C.2.1 dL_law_15 rfl hl (Nat.le_of_ble_eq_true rfl) rfl (fun ls hl => ?_)
  have hl : lv_has ls 9 [(2, .ref h1), (1, .ref h0), (0, .ref b0)] := hl
  refine lv_iconst C.1 C.2.1 (v := 1) dL_law_16 rfl ?_
  refine y_newa (atype := .long) (ty := .long) (t := 3) (N' := 1) (a0 := (1, .inr (.inl (fun _ => 0)))) C hP hD hS rfl rfl (fun _ h => h) (fun _ => rfl) (by decide) (by decide) (Nat.le_of_ble_eq_true rfl) (Nat.le_of_ble_eq_true rfl) (Nat.le_of_ble_eq_true rfl) q188 dL_law_17 (fun q H hP hD hS => ?_)
  refine lv_astore_n C.1 C.2.1 dL_law_19 rfl hl (Nat.le_of_ble_eq_true rfl) rfl (fun ls hl => ?_)
  have hl : lv_has ls 9 [(3, .ref q), (2, .ref h1), (1, .ref h0), (0, .ref b0)] := hl
  refine lv_iconst C.1 C.2.1 (v := 0) dL_law_20 rfl ?_
  refine lv_istore C.1 C.2.1 dL_law_21 hl (Nat.le_of_ble_eq_true rfl) rfl (fun ls hl => ?_)
  have hl : lv_has ls 9 [(4, .int 0), (3, .ref q), (2, .ref h1), (1, .ref h0), (0, .ref b0)] := hl
  obtain ⟨a2, ha2⟩ : ∃ z : Nat → Nat, z = fun d => if d < 54 then u1 d else if d < 67 then u2 d else q := ⟨_, rfl⟩
  have hlo : ∀ d, d < 54 → a2 d = u1 d := fun d hd => by rw [ha2]; exact if_pos hd
  have hhi : ∀ d, 54 ≤ d → d < 67 → a2 d = u2 d := fun d h0 hd => by rw [ha2]; show (if d < 54 then _ else if d < 67 then _ else _) = _; rw [if_neg (by omega), if_pos hd]
  have h67 : a2 67 = q := by rw [ha2]; rfl
  have hwd : wd (E.1, a2, E.2.2) L68 (jn st1 st2) = w1 ++ wd (E.1, u2, E.2.2) (List.range' 54 13) st2 ++ [(q, .inl (E.2.2.2 3, 1, .inr (.inl (fun _ => 0))))] := by
    show (List.range 68).map _ = _
    rw [show List.range 68 = List.range 54 ++ List.range' 54 13 ++ [67] from by decide +kernel, List.map_append, List.map_append, hw1]
    congr 1
    · congr 1
      · apply List.map_congr_left
        intro d hd
        have hd := List.mem_range.mp hd
        rw [jn_lo hd, swn_lo (E := (E.1, u1, E.2.2)) hd hlo (fun n => hPC st1 hq1 d hd n)]
        exact congrArg (fun z => (z, entS (E.1, u1, E.2.2) st1 d)) (hlo d hd)
      · apply List.map_congr_left
        intro d hd
        have hd := List.mem_range'.mp hd
        obtain ⟨i, hi, rfl⟩ := hd
        have g1 : 54 ≤ 54 + 1 * i := by omega
        have g2 : 54 + 1 * i < 67 := by omega
        rw [jn_hi g1 g2, swn_hi (E := (E.1, u2, E.2.2)) g1 g2 hhi]
        exact congrArg (fun z => (z, entS (E.1, u2, E.2.2) st2 (54 + 1 * i))) (hhi _ g1 g2)
    · show [(a2 67, entS (E.1, a2, E.2.2) (jn st1 st2) 67)] = _
      rw [h67, e23 (show kd 67 = 23 from rfl)]
      rfl
  have hP2 : va_P E.1 vwCl (wd (E.1, a2, E.2.2) L68 (jn st1 st2)) H := by rw [hwd]; exact hP
  have hD2 : va_D A (wd (E.1, a2, E.2.2) L68 (jn st1 st2)) := by rw [hwd]; exact hD
  have hEK : EK (E.1, a2, E.2.2) L68 := y_ek List.nodup_range hD2
  have hA2 : ∀ c, c ∈ L68 → s.heap.size ≤ a2 c := by
    intro c hc
    obtain ⟨k, hk, hwk⟩ := wd_at (E := (E.1, a2, E.2.2)) hc (rfl : entS (E.1, a2, E.2.2) (jn st1 st2) c = entS (E.1, a2, E.2.2) (jn st1 st2) c)
    have := hD2.2 k _ hwk
    rw [hAe] at this
    exact this
  have hl := lv_sub hl [4, 3, 2, 1, 0] rfl
  refine law_loop hI hfl hX hbl hn hend 513 0 (E.1, a2, E.2.2) (jn st1 st2) H locs ls _ _ (by omega) (by omega) hLX hEK hA2 ?_ ?_ (hJ _ _ hq1 hq2) ?_ hP2 (hAe ▸ hS)
  · exact Nat.le_of_ble_eq_true rfl
  · exact Nat.le_of_ble_eq_true rfl
  · show lv_has ls 9 [(0, .ref b0), (1, .ref (a2 0)), (2, .ref (a2 54)), (3, .ref (a2 67)), (4, .int 0)]
    rw [hlo 0 (by omega), hhi 54 (by omega) (by omega), h67, hu1, hu2]
    exact hl

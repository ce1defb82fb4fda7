/-! from cells made one by one to the one world -/
def Myw (l : Launch) (y : MethodName) (b : ByteArray) (n : Nat) (rm : Room) (E : En0) (av : List Value) (ws : va_W) (L : List Nat) (b0 h0 : Nat) (Q : St → Prop) : Prop :=
  ∀ sz : Nat, Met l y (.code y b n none :: lw_g) rm (yPc E av ws sz) (va_Qv (fun u : (Nat → Nat) × St => Q u.2 ∧ u.1 b0 = h0) (fun u t => va_P E.1 vwCl (wd (E.1, u.1, E.2.2) L u.2) t.heap ∧ va_D (va_A ws sz) (wd (E.1, u.1, E.2.2) L u.2)) (va_A ws sz)) rm.cells rm.slots (va_A ws sz)
theorem Myw.of {l : Launch} {y : MethodName} {b : ByteArray} {n : Nat} {rm : Room} {E : En0} {av : List Value} {ws : va_W} {L : List Nat} {b0 h0 : Nat} {Q : St → Prop} (hy : plainName y.cls = true) (hn : (lg_sl av).length ≤ n)
    (body : ∀ (p : Program) (e : Env) (s : State) (m : MethodId) (below : List Frame) (meth : Method) (c : Code) (ls : Array Slot) (A : Nat → Prop), A = va_A ws s.heap.size → yCx E A y.cls b n p s m av.toArray c → meth.sig.returnType = none → meth.locks = false → (y.name = "<init>" → meth.name = "<init>") → lv_has ls n (lv_args 0 av) → va_P E.1 vwCl ws s.heap → va_D A ws →
      W p l e rm s m av.toArray below meth c s.heap [] 0 0 (MQ below (va_Qv (fun u : (Nat → Nat) × St => Q u.2 ∧ u.1 b0 = h0) (fun u t => va_P E.1 vwCl (wd (E.1, u.1, E.2.2) L u.2) t.heap ∧ va_D A (wd (E.1, u.1, E.2.2) L u.2)) A) av.toArray s rm.cells rm.slots A) (F0 m 0 ls [])) : Myw l y b n rm E av ws L b0 h0 Q := by
  intro sz
  refine Met.ofW (cc := b) (maxL := n) (ret := none) hy rfl ?_
  intro p e s m args below meth c s₁ B hml hv
  obtain ⟨rfl, hsz, hK, hC, hNE, hAO, hP, hD⟩ := hv
  have hts := atoms_spec (ws := Cond.code y b n none :: lw_g) B.pre
  subst hsz
  have hl := lv_entry av (n := n) hn
  rw [lg_entry_eq]
  exact body p e s m below meth c _ _ rfl ⟨B.exec, B.bytes, hml, findClass_of_methodNamed B.named, fun w hw => hts w (List.mem_cons_of_mem _ hw), hK, hC, hNE, hAO, fun q h => Or.inr h⟩ B.returns B.notSynchronized (fun h => ((name_of_methodNamed B.named B.method).1).trans h) hl hP hD.self
theorem y_ek {E : En0} {L : List Nat} {st : St} {A : Nat → Prop} (hn : L.Nodup) (hD : va_D A (wd E L st)) : EK E L := by
  refine ⟨hn, fun i hi j hj e => ?_⟩
  obtain ⟨a, ha, hwa⟩ := wd_at hi (rfl : entS E st i = entS E st i)
  obtain ⟨b, hb, hwb⟩ := wd_at hj (rfl : entS E st j = entS E st j)
  have h := hD.1 a b _ _ hwa hwb e
  subst h
  exact Option.some.inj (ha.symm.trans hb)
theorem y_fA {E : En0} {L : List Nat} {st : St} {A : Nat → Prop} {sz : Nat} (hD : va_D A (wd E L st)) (hA : ∀ q, sz ≤ q → A q) : ∀ q, fA E L sz q → A q := by
  intro q hq
  rcases hq with ⟨c, hc, he⟩ | h
  · obtain ⟨a, ha, hwa⟩ := wd_at hc (rfl : entS E st c = entS E st c)
    rw [← he]
    exact hD.2 a _ hwa
  · exact hA q h
section YW
variable {p : Program} {l : Launch} {e : Env} {R : Room} {s : State} {m : MethodId} {args : Array Value} {below : List Frame} {meth : Method} {c : Code} {H : Heap} {locs : List Loc} {cells slots : Nat} {Q : State → Prop}
variable {E E2 : En0} {L : List Nat} {A : Nat → Prop} {own : String} {cc : ByteArray} {nL mc ms b0 h0 : Nat} {st : St} {a : Nat → Nat}
theorem y_cx (C : yCx E A own cc nL p s m args c) (hE2 : E2 = (E.1, a, E.2.2)) (hn : L.Nodup) (hD : va_D A (wd E2 L st)) : Cx E2 L own cc nL p s m args c := by
  have hfA := y_fA (sz := s.heap.size) hD C.hA
  have hK := C.K.narrow hfA
  have hek := y_ek hn hD
  subst hE2
  exact ⟨C.1, C.2.1, C.2.2.1, C.2.2.2.1, C.2.2.2.2.1, C.2.2.2.2.2.1, hek, hK, C.NE9⟩
theorem y_S (hS : va_S A s.heap H locs) (hAf : ∀ q, A q → fA E2 L s.heap.size q) : va_S (fA E2 L s.heap.size) s.heap H locs := ⟨hS.1, fun q h1 h2 => hS.2.1 q h1 (fun h3 => h2 (hAf q h3)), fun z hz => hAf _ (hS.2.2 z hz)⟩
theorem y_back {Qp : St → Prop} (hE2 : E2 = (E.1, a, E.2.2)) (ha : a b0 = h0) (hek : EK E2 L) (hfA : ∀ q, fA E2 L s.heap.size q → A q) {t : State} (h : MQ below (zV E2 L Qp (fA E2 L s.heap.size)) args s mc ms (fA E2 L s.heap.size) t) :
    MQ below (va_Qv (fun u : (Nat → Nat) × St => Qp u.2 ∧ u.1 b0 = h0) (fun u t => va_P E.1 vwCl (wd (E.1, u.1, E.2.2) L u.2) t.heap ∧ va_D A (wd (E.1, u.1, E.2.2) L u.2)) A) args s mc ms A t := by
  obtain ⟨o, h1, h2, ⟨⟨u, h3, h4, h5⟩, h7⟩, LL, h8, h9⟩ := h
  subst hE2
  refine ⟨o, h1, h2, ⟨⟨(a, u), h3, ⟨h4, ha⟩, h5, ?_⟩, h7.1, fun z g1 g2 => h7.2 z g1 (fun g3 => g2 (hfA z g3))⟩, LL, h8, fun z hz => hfA _ (h9 z hz)⟩
  exact (wd_D (sz := s.heap.size) hek).weaken (fun _ q _ hq => hfA q.1 hq)
end YW
/-- what a new PlankBridge and a new PlankBridgeModel hold before their first calls -/
def stC0 : St := (fun c j => if c = 0 then (if j = 8 then -1 else 0) else if c = 3 then (if j = 5 then -1 else 0) else 0, fun _ _ => 0, fun c j => if c = 3 then (if j = 3 then some 1 else none) else none,
  fun c j => if c = 0 then (if j = 6 then 20 else if j = 7 then 37 else 0) else if c = 3 then (if j = 0 then 49 else if j = 1 then 37 else 0) else if c = 16 then (if j = 0 then 20 else if j = 1 then 4 else 0) else 0)
def stM0 : St := (fun c j => if c = 54 then (if j = 3 then -1 else 0) else 0, fun _ _ => 0, fun _ _ => none, fun _ _ => 0)

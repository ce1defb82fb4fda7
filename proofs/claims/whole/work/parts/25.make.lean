/-! constructors: worlds that grow, cell by cell; 'My': from the cells ws a constructor makes the cells 'res u', at addresses u -/
def yPc (E : En0) (av : List Value) (ws : va_W) (sz : Nat) : Array Value → State → Prop := va_Pc av (fun U => U.heap.size = sz ∧ va_K E.1 vwCl (tyE E) U ∧ CO E (va_A ws sz) U U.heap ∧ NE U ∧ va_AO "PlankBridge$Kind" U ∧ va_P E.1 vwCl ws U.heap ∧ va_D (fun _ => True) ws)
def My (l : Launch) (y : MethodName) (b : ByteArray) (n : Nat) (rm : Room) (E : En0) (av : List Value) (ws : va_W) (res : (Nat → Nat) → va_W) : Prop :=
  ∀ sz : Nat, Met l y (.code y b n none :: lw_g) rm (yPc E av ws sz) (va_Qv (fun _ : Nat → Nat => True) (fun u t => va_P E.1 vwCl (res u) t.heap ∧ va_D (va_A ws sz) (res u)) (va_A ws sz)) rm.cells rm.slots (va_A ws sz)
theorem y_blind {E : En0} {av : List Value} {ws : va_W} {sz : Nat} : FrameBlind (yPc E av ws sz) := fun a U g mk q => by
  obtain ⟨q0, q1, q2, q3, q4, q5, q6, q7⟩ := q
  exact ⟨q0, q1, va_K.moved (u := U) (U := U.calling g mk a) (Vm.Alike.refl U.vm) q2, CO.moved (u := U) (U := U.calling g mk a) (Vm.Alike.refl U.vm) q3, NE.same (u := U) (U := U.calling g mk a) rfl q4, va_AO.moved (u := U) (U := U.calling g mk a) (Vm.Alike.refl U.vm) q5, q6, q7⟩
def yCx (E : En0) (A : Nat → Prop) (own : String) (cc : ByteArray) (nL : Nat) (p : Program) (s : State) (m : MethodId) (args : Array Value) (c : Code) : Prop := p.tables.exec = Jvm.exec ∧ c.code = cc ∧ c.maxLocals = nL ∧ s.vm.findClass own = some m.cls ∧ (∀ w ∈ lw_g, w.before args s = true) ∧ va_K E.1 vwCl (tyE E) s ∧ CO E A s s.heap ∧ NE s ∧ va_AO "PlankBridge$Kind" s ∧ ∀ q, s.heap.size ≤ q → A q
theorem My.of {l : Launch} {y : MethodName} {b : ByteArray} {n : Nat} {rm : Room} {E : En0} {av : List Value} {ws : va_W} {res : (Nat → Nat) → va_W} (hy : plainName y.cls = true) (hn : (lg_sl av).length ≤ n)
    (body : ∀ (p : Program) (e : Env) (s : State) (m : MethodId) (below : List Frame) (meth : Method) (c : Code) (ls : Array Slot) (A : Nat → Prop), A = va_A ws s.heap.size → yCx E A y.cls b n p s m av.toArray c → meth.sig.returnType = none → meth.locks = false → (y.name = "<init>" → meth.name = "<init>") → lv_has ls n (lv_args 0 av) → va_P E.1 vwCl ws s.heap → va_D A ws →
      W p l e rm s m av.toArray below meth c s.heap [] 0 0 (MQ below (va_Qv (fun _ : Nat → Nat => True) (fun u t => va_P E.1 vwCl (res u) t.heap ∧ va_D A (res u)) A) av.toArray s rm.cells rm.slots A) (F0 m 0 ls [])) : My l y b n rm E av ws res := by
  intro sz
  refine Met.ofW (cc := b) (maxL := n) (ret := none) hy rfl ?_
  intro p e s m args below meth c s₁ B hml hv
  obtain ⟨rfl, hsz, hK, hC, hNE, hAO, hP, hD⟩ := hv
  have hts := atoms_spec (ws := Cond.code y b n none :: lw_g) B.pre
  subst hsz
  have hl := lv_entry av (n := n) hn
  rw [lg_entry_eq]
  exact body p e s m below meth c _ _ rfl ⟨B.exec, B.bytes, hml, findClass_of_methodNamed B.named, fun w hw => hts w (List.mem_cons_of_mem _ hw), hK, hC, hNE, hAO, fun q h => Or.inr h⟩ B.returns B.notSynchronized (fun h => ((name_of_methodNamed B.named B.method).1).trans h) hl hP hD.self
section YR
variable {p : Program} {l : Launch} {e : Env} {R : Room} {s : State} {m : MethodId} {args : Array Value} {below : List Frame} {meth : Method} {c : Code} {H : Heap} {locs : List Loc} {cells slots : Nat} {Q : State → Prop}
variable {E : En0} {A : Nat → Prop} {own host : String} {cc bytes : ByteArray} {nL maxL index n : Nat} {pc : Nat} {ls : Array Slot} {rest st0 As : List Value} {y : MethodName} {rm : Room} {ws : va_W}
theorem yCx.T (C : yCx E A own cc nL p s m args c) {w : Cond} (h : w ∈ lw_tbl) (hg : goodWord w = true := by rfl) : w.before args s = true := C.2.2.2.2.1 w (lw_gm h hg)
theorem yCx.F (C : yCx E A own cc nL p s m args c) : CallFix p m c cc nL s args lw_g own := ⟨C.1, C.2.1, C.2.2.1, C.2.2.2.1, C.2.2.2.2.1⟩
theorem yCx.NE9 (C : yCx E A own cc nL p s m args c) : NE s := C.2.2.2.2.2.2.2.1
theorem yCx.K (C : yCx E A own cc nL p s m args c) : CO E A s s.heap := C.2.2.2.2.2.2.1
theorem yCx.hA (C : yCx E A own cc nL p s m args c) : ∀ q, s.heap.size ≤ q → A q := C.2.2.2.2.2.2.2.2.2
/-- a row of numbers is made: t its kind in tyE -/
theorem y_newa {atype : ArrayType} {ty : FieldType} {t N' : Nat} {a0 : vp_A} (C : yCx E A own cc nL p s m args c) (hP : va_P E.1 vwCl ws H) (hD : va_D A ws) (hS : va_S A s.heap H locs) (hty : newarray.typeOf atype = ty) (ht : (tyE E)[t]? = some (E.2.2.2 t, ty)) (hnm : ∀ (cA : ClassId), va_RA s cA ty → s.vm.findClass ("[" ++ ty.toString) = some cA)
    (ha : ∀ cA : ClassId, vp_cell cA a0 = arrV cA N' (fun _ => defaultValue ty)) {n : Int32} (hn : ¬ n < 0) (hN : n.toNatClampNeg = N') (hbytes : N' * componentBytes ty ≤ 536870912) (hcells : cells + 1 ≤ R.cells) (hslots : slots + N' ≤ R.slots) (qa : Cond.arrayClass ty ∈ lw_tbl) (hdg : decode cc pc = .ok (.newarray atype, 2))
    (kk : ∀ (q : Nat) (H : Heap), va_P E.1 vwCl (ws ++ [(q, .inl (E.2.2.2 t, a0))]) H → va_D A (ws ++ [(q, .inl (E.2.2.2 t, a0))]) → va_S A s.heap H locs → W p l e R s m args below meth c H locs (cells + 1) (slots + N') Q (F0 m (pc + 2) ls (.ref q :: rest))) : W p l e R s m args below meth c H locs cells slots Q (F0 m pc ls (.int n :: rest)) := by
  refine va_newa C.1 C.2.1 (by rw [hty]; exact C.T qa) hty C.2.2.2.2.2.1 hP hD hS C.hA ha hn hN hbytes hcells hslots hdg (fun q cA H1 hK1 hP1 hD1 hS1 => ?_)
  have hcA : cA = E.2.2.2 t := by
    have h1 := hnm _ (hK1.2 5 (cA, ty) rfl).2
    have h2 := hnm _ (C.2.2.2.2.2.1.2 t (E.2.2.2 t, ty) ht).2
    exact Option.some.inj (h1.symm.trans h2)
  subst hcA
  exact kk q H1 hP1 hD1 hS1
theorem y_newq {N' : Nat} (C : yCx E A own cc nL p s m args c) (hP : va_P E.1 vwCl ws H) (hD : va_D A ws) (hS : va_S A s.heap H locs) (qc : Cond.classLink own index "PlankBridge$Kind" ∈ lw_tbl) {n : Int32} (hn : ¬ n < 0) (hN : n.toNatClampNeg = N') (hbytes : N' * 4 ≤ 536870912) (hcells : cells + 1 ≤ R.cells) (hslots : slots + N' ≤ R.slots) (hdg : decode cc pc = .ok (.anewarray index, 3))
    (kk : ∀ (q : Nat) (H : Heap), va_P E.1 vwCl (ws ++ [(q, .inl (E.2.2.2 4, N', .inr (.inr (.inr (.inr (fun _ => none))))))]) H → va_D A (ws ++ [(q, .inl (E.2.2.2 4, N', .inr (.inr (.inr (.inr (fun _ => none))))))]) → va_S A s.heap H locs → W p l e R s m args below meth c H locs (cells + 1) (slots + N') Q (F0 m (pc + 3) ls (.ref q :: rest))) : W p l e R s m args below meth c H locs cells slots Q (F0 m pc ls (.int n :: rest)) := by
  refine va_newq C.1 C.2.1 C.2.2.2.1 (C.T qc) C.2.2.2.2.2.2.2.2.1 C.2.2.2.2.2.1 hP hD hS C.hA hn hN hbytes hcells hslots hdg (fun q cA H1 hK1 hP1 hD1 hS1 => ?_)
  have hcA : cA = E.2.2.2 4 := by
    obtain ⟨-, -, -, -, -, h1⟩ := (hK1.2 5 (cA, .object "PlankBridge$Kind") rfl).2
    obtain ⟨-, -, -, -, -, h2⟩ := (C.2.2.2.2.2.1.2 4 (E.2.2.2 4, .object "PlankBridge$Kind") rfl).2
    exact Option.some.inj (h1.symm.trans h2)
  subst hcA
  exact kk q H1 hP1 hD1 hS1
/-- a constructor is called on new cells; what it made stands behind the rest -/
theorem y_join {a : Array Value} {wc wr : va_W} {mc ms : Nat} {res : (Nat → Nat) → va_W} (hP : va_P E.1 vwCl ws H) (hD : va_D A ws) (hS : va_S A s.heap H locs) (hA : ∀ q, s.heap.size ≤ q → A q) (isC isR : List Nat) (hC : isC.map (fun i => ws[i]?) = wc.map some) (hR : isR.map (fun i => ws[i]?) = wr.map some) (hnd : va_nd isR = true) (hdis : ∀ i ∈ isR, i ∉ isC)
    (hr : va_Run p l e R s m args below meth c H locs cells slots mc ms (F0 m pc ls st0) rest (va_Qv (fun _ : Nat → Nat => True) (fun u t => va_P E.1 vwCl (res u) t.heap ∧ va_D (va_A wc H.size) (res u)) (va_A wc H.size) a) (va_A wc H.size))
    (kk : ∀ (u : Nat → Nat) (H : Heap) (locs : List Loc), va_P E.1 vwCl (wr ++ res u) H → va_D A (wr ++ res u) → va_S A s.heap H locs → W p l e R s m args below meth c H locs (cells + mc) (slots + ms) Q (F0 m (pc + 3) ls rest)) : W p l e R s m args below meth c H locs cells slots Q (F0 m pc ls st0) := by
  have hFc := va_free (wc := wc) hD hS hA isC hC
  refine va_callv hr hS (fun q _ h => hFc q h) hFc (fun u t H1 locs1 ht _ _ hB _ hk1 hS1 => ?_)
  obtain ⟨hP1, hD1⟩ := hB
  rw [ht] at hP1
  obtain ⟨hP2, hD2⟩ := va_join (wr := wr) (w1 := res u) hP hD isC isR hC hR hnd hdis hk1 hFc hP1 hD1
  exact kk u H1 locs1 hP2 hD2 hS1
theorem y_pre {wc : va_W} (C : yCx E A own cc nL p s m args c) (hP : va_P E.1 vwCl ws H) (hD : va_D A ws) (hS : va_S A s.heap H locs) (isC : List Nat) (hC : isC.map (fun i => ws[i]?) = wc.map some) (hnd : va_nd isC = true) (av : List Value) : ∀ U : State, U.heap = H → s.WarmedH U.vm → yPc E av wc H.size av.toArray U := fun U hU hW => by
  have hFc := va_free (wc := wc) hD hS C.hA isC hC
  refine ⟨rfl, by rw [hU], va_K.moved hW.alike C.2.2.2.2.2.1, ?_, NE.warm hW C.NE9, va_AO.moved hW.alike C.2.2.2.2.2.2.2.2.1, ?_, (hD.sub isC hnd hC).weaken (fun _ _ _ _ => trivial)⟩
  · rw [hU]
    exact ((C.K.kept (H1 := H) hS.2.1).narrow hFc).moved hW.alike
  · rw [hU]
    refine hP.sub isC ?_
    have h1 : isC.filterMap (fun i => ws[i]?) = wc := by
      have h2 : (isC.map (fun i => ws[i]?)).filterMap id = (wc.map some).filterMap id := by rw [hC]
      rw [List.filterMap_map, List.filterMap_map] at h2
      simpa using h2
    exact h1
theorem y_runIN {wc : va_W} {res : (Nat → Nat) → va_W} {b : Nat} (C : yCx E A own cc nL p s m args c) (hP : va_P E.1 vwCl ws H) (hD : va_D A ws) (hS : va_S A s.heap H locs) (isC : List Nat) (hC : isC.map (fun i => ws[i]?) = wc.map some) (hnd : va_nd isC = true)
    (hM : My l y bytes maxL rm E (.ref b :: As) wc res) (h1 : Cond.methodLinkNest own index y host ∈ lw_tbl) (h2 : Cond.instanceMethod y ∈ lw_tbl) (h4 : Cond.initialized y.cls ∈ lw_tbl) (h5 : Cond.code y bytes maxL none ∈ lw_tbl) (hyn : y.name = "<init>")
    (hd : y.cls ≠ "java/lang/invoke/MethodHandle" ∧ y.cls ≠ "java/lang/invoke/VarHandle" ∧ (parseMethodDescriptor y.desc).map (fun d => d.parameters.length) = some n) (hR : rm.frames + 1 ≤ R.frames ∧ 8 + (maxL + 11) + rm.locals ≤ R.locals) (hf : cells + rm.cells ≤ R.cells ∧ slots + rm.slots ≤ R.slots)
    (hn : As.length = n) (hsz : ls.size = nL) (hst : st0 = As.reverse ++ .ref b :: rest) (hW : 2 * (F0 m pc ls st0).monitorRoom + (rest.map fun v => v.category).sum ≤ 8) (hdg : decode cc pc = .ok (.invokespecial index, 3)) :
    va_Run p l e R s m args below meth c H locs cells slots rm.cells rm.slots (F0 m pc ls st0) rest (va_Qv (fun _ : Nat → Nat => True) (fun u t => va_P E.1 vwCl (res u) t.heap ∧ va_D (va_A wc H.size) (res u)) (va_A wc H.size) (.ref b :: As).toArray) (va_A wc H.size) :=
  va_runIN C.F (hM H.size) ⟨va_cnB n C.F.2.2.2.2 (gC h5) rfl rfl rfl (C.NE9.1 _ h1 rfl) (C.T h4) hd hR, hyn, C.T h2⟩ ⟨y_blind, y_pre C hP hD hS isC hC hnd _⟩ rfl hn hsz hst hW hdg hf
theorem y_runI {wc : va_W} {res : (Nat → Nat) → va_W} {b : Nat} (C : yCx E A own cc nL p s m args c) (hP : va_P E.1 vwCl ws H) (hD : va_D A ws) (hS : va_S A s.heap H locs) (isC : List Nat) (hC : isC.map (fun i => ws[i]?) = wc.map some) (hnd : va_nd isC = true)
    (hM : My l y bytes maxL rm E (.ref b :: As) wc res) (h1 : Cond.methodLink own index y ∈ lw_tbl) (h2 : Cond.instanceMethod y ∈ lw_tbl) (h4 : Cond.initialized y.cls ∈ lw_tbl) (h5 : Cond.code y bytes maxL none ∈ lw_tbl) (hyn : y.name = "<init>")
    (hd : y.cls ≠ "java/lang/invoke/MethodHandle" ∧ y.cls ≠ "java/lang/invoke/VarHandle" ∧ (parseMethodDescriptor y.desc).map (fun d => d.parameters.length) = some n) (hR : rm.frames + 1 ≤ R.frames ∧ 8 + (maxL + 11) + rm.locals ≤ R.locals) (hf : cells + rm.cells ≤ R.cells ∧ slots + rm.slots ≤ R.slots)
    (hn : As.length = n) (hsz : ls.size = nL) (hst : st0 = As.reverse ++ .ref b :: rest) (hW : 2 * (F0 m pc ls st0).monitorRoom + (rest.map fun v => v.category).sum ≤ 8) (hdg : decode cc pc = .ok (.invokespecial index, 3)) :
    va_Run p l e R s m args below meth c H locs cells slots rm.cells rm.slots (F0 m pc ls st0) rest (va_Qv (fun _ : Nat → Nat => True) (fun u t => va_P E.1 vwCl (res u) t.heap ∧ va_D (va_A wc H.size) (res u)) (va_A wc H.size) (.ref b :: As).toArray) (va_A wc H.size) :=
  va_runI C.F (hM H.size) (cwI n C.F.2.2.2.2 (gC h5) rfl rfl rfl (C.T h4) (C.T h1) (C.T h2) hyn hd hR) ⟨y_blind, y_pre C hP hD hS isC hC hnd _⟩ rfl hn hsz hst hW hdg hf
theorem y_rv {u : Nat → Nat} {res : (Nat → Nat) → va_W} (C : yCx E A own cc nL p s m args c) (hr : meth.sig.returnType = none) (hlk : meth.locks = false) (hP : va_P E.1 vwCl (res u) H) (hD : va_D A (res u)) (hS : va_S A s.heap H locs) (hdg : decode cc pc = .ok (.return_, 1)) :
    W p l e R s m args below meth c H locs cells slots (MQ below (va_Qv (fun _ : Nat → Nat => True) (fun u t => va_P E.1 vwCl (res u) t.heap ∧ va_D A (res u)) A) args s cells slots A) (F0 m pc ls []) :=
  W.vret C.1 C.2.1 hr (fun t ht hW => ⟨⟨u, rfl, trivial, by rw [ht]; exact hP, hD⟩, hS.F ht⟩) hS.2.2 hdg hlk
theorem y_kst (C : yCx E A own cc nL p s m args c) (hS : va_S A s.heap H locs) {i : Nat} {nm : String} (hi : i < 37) (hn : kNm.getD i "" = nm) (q : .fieldLink own index "PlankBridge$Kind" nm "LPlankBridge$Kind;" ∈ lw_tbl) (hdg : decode cc pc = .ok (.getstatic index, 3))
    (kk : W p l e R s m args below meth c H locs cells slots Q (F0 m (pc + 3) ls (va_re E.2.2.1 (some i) :: rest))) : W p l e R s m args below meth c H locs cells slots Q (F0 m pc ls rest) := by
  subst hn
  exact va_gets C.1 C.2.1 (C.K.1.1 i hi).1 hS C.2.2.2.1 (C.T q) (fun _ h => h) hdg kk
end YR

section ZK2
variable {p : Program} {l : Launch} {e : Env} {R : Room} {s : State} {m : MethodId} {args : Array Value} {below : List Frame} {meth : Method} {c : Code} {H : Heap} {locs : List Loc} {cells slots : Nat} {Q : State → Prop}
variable {E : En0} {L : List Nat} {own host : String} {cc : ByteArray} {nL index : Nat} {st : St} {pc : Nat} {ls : Array Slot} {rest : List Value}
theorem z_ordE (C : Cx E L own cc nL p s m args c) (hP : va_P E.1 vwCl (wd E L st) H) (hS : va_S (fA E L s.heap.size) s.heap H locs) {v : Option Nat} {k : Nat} (hv : v = some k) (hk : k < 37) (q : .methodLink own index ⟨"PlankBridge$Kind", "ordinal", "()I"⟩ ∈ lw_tbl) (hR : 1 ≤ R.frames ∧ 20 ≤ R.locals) (hf : cells ≤ R.cells ∧ slots ≤ R.slots) (hsz : ls.size = nL) (hW : 2 * (F0 m pc ls (.ref (E.2.2.1 k) :: rest)).monitorRoom + (rest.map fun v => v.category).sum ≤ 8) (hdg : decode cc pc = .ok (.invokevirtual index, 3))
    (kk : ∀ (H1 : Heap) (locs1 : List Loc), va_P E.1 vwCl (wd E L st) H1 → va_S (fA E L s.heap.size) s.heap H1 locs1 → W p l e R s m args below meth c H1 locs1 cells slots Q (F0 m (pc + 3) ls (.int (Int32.ofNat k) :: rest))) : W p l e R s m args below meth c H locs cells slots Q (F0 m pc ls (va_re E.2.2.1 v :: rest)) := by
  subst hv
  exact z_ord C hP hS hk q hR hf hsz hW hdg kk
theorem z_runKE {bytes : ByteArray} {maxL n : Nat} {As : List Value} {y : MethodName} {ret : Option FieldType} {rm : Room} {Qf : (Nat → Prop) → Array Value → State → Outcome → State → Prop} (C : Cx E L own cc nL p s m args c) (hP : va_P E.1 vwCl (wd E L st) H) (hS : va_S (fA E L s.heap.size) s.heap H locs) {v : Option Nat} {k : Nat} (hv : v = some k) (hk : k < 37)
    (hM : Mz l y bytes maxL ret rm E L (.ref (E.2.2.1 k) :: As) st Qf) (h1 : Cond.methodLink own index y ∈ lw_tbl) (h2 : Cond.instanceMethod y ∈ lw_tbl) (h3 : Cond.selects "PlankBridge$Kind" y y ∈ lw_tbl) (h4 : Cond.initialized "PlankBridge$Kind" ∈ lw_tbl) (h5 : Cond.code y bytes maxL ret ∈ lw_tbl)
    (hd : y.cls = "PlankBridge$Kind" ∧ y.cls ≠ "java/lang/invoke/MethodHandle" ∧ y.cls ≠ "java/lang/invoke/VarHandle" ∧ (parseMethodDescriptor y.desc).map (fun d => d.parameters.length) = some n) (hR : rm.frames + 1 ≤ R.frames ∧ 8 + (maxL + 11) + rm.locals ≤ R.locals) (hf : cells + rm.cells ≤ R.cells ∧ slots + rm.slots ≤ R.slots)
    (hn : As.length = n) (hsz : ls.size = nL) (hW : 2 * (F0 m pc ls (As.reverse ++ va_re E.2.2.1 v :: rest)).monitorRoom + (rest.map fun v => v.category).sum ≤ 8) (hdg : decode cc pc = .ok (.invokevirtual index, 3)) :
    va_Run p l e R s m args below meth c H locs cells slots rm.cells rm.slots (F0 m pc ls (As.reverse ++ va_re E.2.2.1 v :: rest)) rest (Qf (fA E L H.size) (.ref (E.2.2.1 k) :: As).toArray) (fA E L H.size) := by
  subst hv
  exact z_runK C hP hS hk hM h1 h2 h3 h4 h5 hd hR hf hn hsz rfl hW hdg
theorem z_kcodeE (C : Cx E L own cc nL p s m args c) (hS : va_S (fA E L s.heap.size) s.heap H locs) {v : Option Nat} {i : Nat} (hv : v = some i) (hi : i < 37) (q : .fieldLink own index "PlankBridge$Kind" "code" "J" ∈ lw_tbl) (hdg : decode cc pc = .ok (.getfield index, 3))
    (kk : W p l e R s m args below meth c H locs cells slots Q (F0 m (pc + 3) ls (.long (kCode i) :: rest))) : W p l e R s m args below meth c H locs cells slots Q (F0 m pc ls (va_re E.2.2.1 v :: rest)) := by
  subst hv
  exact z_kcode C hS hi q hdg kk
end ZK2
section ZL
variable {p : Program} {l : Launch} {e : Env} {R : Room} {s : State} {m : MethodId} {args : Array Value} {below : List Frame} {meth : Method} {c : Code} {H : Heap} {locs : List Loc} {cells slots : Nat} {Q : State → Prop}
variable {E : En0} {L : List Nat} {own host : String} {cc : ByteArray} {nL index : Nat} {st : St} {pc : Nat} {ls : Array Slot} {rest : List Value}
theorem z_alen (C : Cx E L own cc nL p s m args c) (hP : va_P E.1 vwCl (wd E L st) H) {b n : Nat} (hb : kd b = 20) (hn : ln b = n) (hm : b ∈ L) {v : Int32} (hv : Int32.ofNat n = v) (hdg : decode cc pc = .ok (.arraylength, 1))
    (kk : W p l e R s m args below meth c H locs cells slots Q (F0 m (pc + 1) ls (.int v :: rest))) : W p l e R s m args below meth c H locs cells slots Q (F0 m pc ls (.ref (E.2.1 b) :: rest)) := by
  subst hn
  obtain ⟨q, hq, he⟩ := wd_at hm (e20 (E := E) (st := st) hb)
  exact va_alen C.1 C.2.1 C.2.2.2.2.2.1 hP q 0 he rfl hv hdg kk
theorem z_alenJ (C : Cx E L own cc nL p s m args c) (hP : va_P E.1 vwCl (wd E L st) H) {b n : Nat} (hb : kd b = 23) (hn : ln b = n) (hm : b ∈ L) {v : Int32} (hv : Int32.ofNat n = v) (hdg : decode cc pc = .ok (.arraylength, 1))
    (kk : W p l e R s m args below meth c H locs cells slots Q (F0 m (pc + 1) ls (.int v :: rest))) : W p l e R s m args below meth c H locs cells slots Q (F0 m pc ls (.ref (E.2.1 b) :: rest)) := by
  subst hn
  obtain ⟨q, hq, he⟩ := wd_at hm (e23 (E := E) (st := st) hb)
  exact va_alen C.1 C.2.1 C.2.2.2.2.2.1 hP q 3 he rfl hv hdg kk
end ZL
section ZN
variable {p : Program} {l : Launch} {e : Env} {R : Room} {s : State} {m : MethodId} {args : Array Value} {below : List Frame} {meth : Method} {c : Code} {H : Heap} {locs : List Loc} {cells slots : Nat} {Q : State → Prop}
variable {E : En0} {L : List Nat} {own host : String} {cc bytes : ByteArray} {nL maxL index n : Nat} {st : St} {pc : Nat} {ls : Array Slot} {rest st0 As : List Value} {y : MethodName} {ret : Option FieldType} {rm : Room} {Qf : (Nat → Prop) → Array Value → State → Outcome → State → Prop}
theorem gC (h5 : Cond.code y bytes maxL ret ∈ lw_tbl) : GoodIn lw_g (Cond.code y bytes maxL ret :: lw_g) := g_in (by
  intro w hw
  rcases List.mem_cons.mp hw with rfl | hw
  · exact lw_gm h5 rfl
  exact hw)
theorem z_runSN (C : Cx E L own cc nL p s m args c) (hP : va_P E.1 vwCl (wd E L st) H) (hS : va_S (fA E L s.heap.size) s.heap H locs)
    (hM : Mz l y bytes maxL ret rm E L As st Qf) (h1 : Cond.methodLinkNest own index y host ∈ lw_tbl) (h2 : Cond.static y ∈ lw_tbl) (h4 : Cond.initialized y.cls ∈ lw_tbl) (h5 : Cond.code y bytes maxL ret ∈ lw_tbl)
    (hd : y.cls ≠ "java/lang/invoke/MethodHandle" ∧ y.cls ≠ "java/lang/invoke/VarHandle" ∧ (parseMethodDescriptor y.desc).map (fun d => d.parameters.length) = some n) (hR : rm.frames + 1 ≤ R.frames ∧ 8 + (maxL + 11) + rm.locals ≤ R.locals) (hf : cells + rm.cells ≤ R.cells ∧ slots + rm.slots ≤ R.slots)
    (hn : As.length = n) (hsz : ls.size = nL) (hst : st0 = As.reverse ++ rest) (hW : 2 * (F0 m pc ls st0).monitorRoom + (rest.map fun v => v.category).sum ≤ 8) (hdg : decode cc pc = .ok (.invokestatic index, 3)) :
    va_Run p l e R s m args below meth c H locs cells slots rm.cells rm.slots (F0 m pc ls st0) rest (Qf (fA E L H.size) As.toArray) (fA E L H.size) :=
  va_runSN C.F (hM H.size) ⟨va_cnB n C.F.2.2.2.2 (gC h5) rfl rfl rfl (C.2.2.2.2.2.2.2.2.1 _ h1 rfl) (C.T h4) hd hR, C.T h2, trivial⟩ ⟨z_blind, z_pre C hP hS _⟩ rfl hn hsz hst hW hdg hf
end ZN

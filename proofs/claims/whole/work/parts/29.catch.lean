/-! the law's own methods: calls that may throw, caught -/
def NC (U : State) : Prop := va_Nc "java/lang/IllegalStateException" "java/lang/IndexOutOfBoundsException" U ∧ va_Nc "java/lang/IllegalStateException" "java/lang/IllegalArgumentException" U ∧ va_Nc "java/lang/IllegalArgumentException" "java/lang/IndexOutOfBoundsException" U
theorem NC.moved {u U : State} (hvm : u.vm.Alike U.vm) (h : NC u) : NC U := ⟨h.1.moved hvm, h.2.1.moved hvm, h.2.2.moved hvm⟩
def zPcW (E : En0) (L : List Nat) (av : List Value) (st : St) (sz : Nat) : Array Value → State → Prop := fun v U => zPc E L av st sz v U ∧ NC U
def Mw (l : Launch) (y : MethodName) (b : ByteArray) (n : Nat) (ret : Option FieldType) (hh : List (Nat × Nat × Nat × Nat)) (rm : Room) (E : En0) (L : List Nat) (av : List Value) (st : St) (Qf : (Nat → Prop) → Array Value → State → Outcome → State → Prop) : Prop :=
  ∀ sz : Nat, Met l y (.codeWith y b n ret hh :: lw_g) rm (zPcW E L av st sz) (Qf (fA E L sz)) rm.cells rm.slots (fA E L sz)
theorem Mw.of {l : Launch} {y : MethodName} {b : ByteArray} {n : Nat} {ret : Option FieldType} {hh : List (Nat × Nat × Nat × Nat)} {rm : Room} {E : En0} {L : List Nat} {av : List Value} {st : St} {Qf : (Nat → Prop) → Array Value → State → Outcome → State → Prop} (hE : EK E L) (hy : plainName y.cls = true) (hn : (lg_sl av).length ≤ n)
    (body : ∀ (p : Program) (e : Env) (s : State) (m : MethodId) (below : List Frame) (meth : Method) (c : Code) (ls : Array Slot), Cx E L y.cls b n p s m av.toArray c → meth.sig.returnType = ret → meth.locks = false → c.exceptionTable.toList = tableOf hh → NC s → lv_has ls n (lv_args 0 av) → va_P E.1 vwCl (wd E L st) s.heap →
      W p l e rm s m av.toArray below meth c s.heap [] 0 0 (MQ below (Qf (fA E L s.heap.size)) av.toArray s rm.cells rm.slots (fA E L s.heap.size)) (F0 m 0 ls [])) : Mw l y b n ret hh rm E L av st Qf := by
  intro sz
  refine va_MetW (cc := b) (maxL := n) (ret := ret) (hh := hh) hy rfl ?_
  intro p e s m args below meth c s₁ B hml hv
  obtain ⟨⟨rfl, hsz, hK, hC, hNE, hP⟩, hNC⟩ := hv
  have hts := atoms_spec (ws := Cond.codeWith y b n ret hh :: lw_g) B.pre
  have htab := vx_table (x := y) B (hts _ List.mem_cons_self)
  subst hsz
  have hl := lv_entry av (n := n) hn
  rw [lg_entry_eq]
  exact body p e s m below meth c _ ⟨B.exec, B.bytes, hml, findClass_of_methodNamed B.named, fun w hw => hts w (List.mem_cons_of_mem _ hw), hK, hE, hC, hNE⟩ B.returns B.notSynchronized htab hNC hl hP
theorem zw_blind {E : En0} {L : List Nat} {av : List Value} {st : St} {sz : Nat} : FrameBlind (zPcW E L av st sz) := fun a U g mk q => ⟨z_blind a U g mk q.1, NC.moved (u := U) (U := U.calling g mk a) (Vm.Alike.refl U.vm) q.2⟩
section ZWW
variable {p : Program} {l : Launch} {e : Env} {R : Room} {s : State} {m : MethodId} {args : Array Value} {below : List Frame} {meth : Method} {c : Code} {H : Heap} {locs : List Loc} {cells slots : Nat} {Q : State → Prop}
variable {E : En0} {L : List Nat} {own : String} {cc bytes : ByteArray} {nL maxL index n : Nat} {st : St} {pc : Nat} {ls : Array Slot} {rest st0 As : List Value} {y : MethodName} {ret : Option FieldType} {rm : Room} {Qf : (Nat → Prop) → Array Value → State → Outcome → State → Prop} {X : String → St → Prop} {hh : List (Nat × Nat × Nat × Nat)} {a : Array Value} {mc ms : Nat}
theorem z_kiw {post : Int32 → St → Prop} (hS : va_S (fA E L s.heap.size) s.heap H locs) (hr : vx_Run p l e R s m args below meth c H locs cells slots mc ms (F0 m pc ls st0) rest (zI E L post (fA E L H.size) a) (zX E L X (fA E L H.size)) (fA E L H.size))
    (kx : ∀ (Ex : String) (ce : Cell) (q9 : Nat) (u : St) (H1 : Heap) (locs1 : List Loc), X Ex u → va_P E.1 vwCl (wd E L u) H1 → va_S (fA E L s.heap.size) s.heap H1 locs1 → H1[q9]? = some ce → ce.vm = .none → s.vm.findClass Ex = some ce.cls → vx_W p l e R s m args below meth c H1 locs1 (cells + mc) (slots + ms) Q (F0 m pc ls rest) q9)
    (kk : ∀ (r : Int32) (u : St) (H1 : Heap) (locs1 : List Loc), post r u → va_P E.1 vwCl (wd E L u) H1 → va_S (fA E L s.heap.size) s.heap H1 locs1 → W p l e R s m args below meth c H1 locs1 (cells + mc) (slots + ms) Q (F0 m (pc + 3) ls (.int r :: rest))) : W p l e R s m args below meth c H locs cells slots Q (F0 m pc ls st0) :=
  vx_calli hr hS (fun q _ h => fA_up hS.1 q h) (fA_up hS.1) (fun q _ h => fA_up hS.1 q h) (fun Ex ce q9 u t H1 locs1 ht _ _ hB _ _ hS1 hce hv hcl => kx Ex ce q9 u H1 locs1 hB.1 (by rw [← ht]; exact hB.2) hS1 hce hv hcl) (fun r u t H1 locs1 ht _ hp hB _ _ hS1 => kk r u H1 locs1 hp (by rw [← ht]; exact hB) hS1)
theorem gSW (h1 : Cond.methodLink own index y ∈ lw_tbl) (h2 : Cond.static y ∈ lw_tbl) (h4 : Cond.initialized y.cls ∈ lw_tbl) (h5 : Cond.codeWith y bytes maxL ret hh ∈ lw_tbl) : GoodIn lw_g (va_wsS own index y (Cond.codeWith y bytes maxL ret hh :: lw_g)) := g_in (by
  intro w hw
  rcases List.mem_append.mp hw with hw | hw
  · rcases List.mem_cons.mp hw with rfl | hw
    · exact lw_gm h1 rfl
    rcases List.mem_cons.mp hw with rfl | hw
    · exact lw_gm h2 rfl
    rcases List.mem_cons.mp hw with rfl | hw
    · exact lw_gm h4 rfl
    exact absurd hw List.not_mem_nil
  · rcases List.mem_cons.mp hw with rfl | hw
    · exact lw_gm h5 rfl
    exact hw)
theorem z_runSW (C : Cx E L own cc nL p s m args c) (hNC : NC s) (hP : va_P E.1 vwCl (wd E L st) H) (hS : va_S (fA E L s.heap.size) s.heap H locs)
    (hM : Mw l y bytes maxL ret hh rm E L As st Qf) (h1 : Cond.methodLink own index y ∈ lw_tbl) (h2 : Cond.static y ∈ lw_tbl) (h4 : Cond.initialized y.cls ∈ lw_tbl) (h5 : Cond.codeWith y bytes maxL ret hh ∈ lw_tbl)
    (hd : y.cls ≠ "java/lang/invoke/MethodHandle" ∧ y.cls ≠ "java/lang/invoke/VarHandle" ∧ (parseMethodDescriptor y.desc).map (fun d => d.parameters.length) = some n) (hR : rm.frames + 1 ≤ R.frames ∧ 8 + (maxL + 11) + rm.locals ≤ R.locals) (hf : cells + rm.cells ≤ R.cells ∧ slots + rm.slots ≤ R.slots)
    (hn : As.length = n) (hsz : ls.size = nL) (hst : st0 = As.reverse ++ rest) (hW : 2 * (F0 m pc ls st0).monitorRoom + (rest.map fun v => v.category).sum ≤ 8) (hdg : decode cc pc = .ok (.invokestatic index, 3)) :
    va_Run p l e R s m args below meth c H locs cells slots rm.cells rm.slots (F0 m pc ls st0) rest (Qf (fA E L H.size) As.toArray) (fA E L H.size) :=
  vx_runSW C.F (hM H.size) (vx_cwSW n C.F.2.2.2.2 (gSW h1 h2 h4 h5) rfl rfl rfl hd hR) ⟨zw_blind, fun U hU hW => ⟨z_pre C hP hS _ U hU hW, hNC.moved hW.alike⟩⟩ rfl hn hsz hst hW hdg hf
end ZWW

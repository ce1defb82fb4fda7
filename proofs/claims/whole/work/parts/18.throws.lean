/-! methods that throw, over the one world: X what is said where one leaves by a throw of a class, the world as it stands -/
def zX (E : En0) (L : List Nat) (X : String → St → Prop) (A : Nat → Prop) : String → State → State → Prop := vx_X (fun _ : St => True) (fun cls u t => X cls u ∧ va_P E.1 vwCl (wd E L u) t.heap) A
def Mx (l : Launch) (y : MethodName) (b : ByteArray) (n : Nat) (ret : Option FieldType) (rm : Room) (E : En0) (L : List Nat) (av : List Value) (st : St) (Qf : (Nat → Prop) → Array Value → State → Outcome → State → Prop) (X : String → St → Prop) : Prop :=
  ∀ sz : Nat, vx_Met l y (.code y b n ret :: lw_g) rm (zPc E L av st sz) (Qf (fA E L sz)) (zX E L X (fA E L sz)) rm.cells rm.slots (fA E L sz)
theorem Mx.of {l : Launch} {y : MethodName} {b : ByteArray} {n : Nat} {ret : Option FieldType} {rm : Room} {E : En0} {L : List Nat} {av : List Value} {st : St} {Qf : (Nat → Prop) → Array Value → State → Outcome → State → Prop} {X : String → St → Prop} (hE : EK E L) (hy : plainName y.cls = true) (hn : (lg_sl av).length ≤ n)
    (body : ∀ (p : Program) (e : Env) (s : State) (m : MethodId) (below : List Frame) (meth : Method) (c : Code) (ls : Array Slot), Cx E L y.cls b n p s m av.toArray c → meth.sig.returnType = ret → meth.locks = false → (∀ x ∈ c.exceptionTable.toList, False) → lv_has ls n (lv_args 0 av) → va_P E.1 vwCl (wd E L st) s.heap →
      W p l e rm s m av.toArray below meth c s.heap [] 0 0 (vx_MQ below (Qf (fA E L s.heap.size)) (zX E L X (fA E L s.heap.size)) av.toArray s rm.cells rm.slots (fA E L s.heap.size)) (F0 m 0 ls [])) : Mx l y b n ret rm E L av st Qf X := by
  intro sz
  refine vx_ofW (cc := b) (maxL := n) (ret := ret) hy rfl ?_
  intro p e s m args below meth c s₁ B hml htab hv
  obtain ⟨rfl, hsz, hK, hC, hNE, hP⟩ := hv
  have hts := atoms_spec (ws := Cond.code y b n ret :: lw_g) B.pre
  subst hsz
  have hl := lv_entry av (n := n) hn
  rw [lg_entry_eq]
  exact body p e s m below meth c _ ⟨B.exec, B.bytes, hml, findClass_of_methodNamed B.named, fun w hw => hts w (List.mem_cons_of_mem _ hw), hK, hE, hC, hNE⟩ B.returns B.notSynchronized htab hl hP
def xNm : List String := ["java/lang/RuntimeException", "java/lang/Exception"]
section ZX
variable {p : Program} {l : Launch} {e : Env} {R : Room} {s : State} {m : MethodId} {args : Array Value} {below : List Frame} {meth : Method} {c : Code} {H : Heap} {locs : List Loc} {cells slots : Nat} {Q : State → Prop}
variable {E : En0} {L : List Nat} {own : String} {cc bytes : ByteArray} {nL maxL index n : Nat} {st : St} {pc : Nat} {ls : Array Slot} {rest st0 As : List Value} {y : MethodName} {ret : Option FieldType} {rm : Room} {Qf : (Nat → Prop) → Array Value → State → Outcome → State → Prop} {Qc : Array Value → State → Outcome → State → Prop} {X : String → St → Prop}
theorem Cx.NE9 (C : Cx E L own cc nL p s m args c) : NE s := C.2.2.2.2.2.2.2.2
theorem z_throw (C : Cx E L own cc nL p s m args c) (hfl : l.stackTraces = false) (htab : ∀ x ∈ c.exceptionTable.toList, False) (hlk : meth.locks = false) (hP : va_P E.1 vwCl (wd E L st) H) (hS : va_S (fA E L s.heap.size) s.heap H locs) (hsz : ls.size = nL) {cls text : String} {ik is ic mc ms : Nat}
    (hcls : Bundle.fit cls = true) (qk : Cond.classLink own ik cls ∈ lw_tbl) (qi : Cond.initialized cls ∈ lw_tbl) (hstr : (own, is, text) ∈ srL) (hw : ∀ w ∈ vx_atS own ic cls xNm, w ∈ lw_tbl ∧ (goodWord w || nestWord w) = true)
    (d0 : decode cc pc = .ok (.new ik, 3)) (d3 : decode cc (pc + 3) = .ok (.dup, 1)) (d4 : decode cc (pc + 4) = .ok (.ldc is, 2)) (d6 : decode cc (pc + 6) = .ok (.invokespecial ic, 3)) (d9 : decode cc (pc + 9) = .ok (.athrow, 1))
    (hR1 : 5 < R.frames) (hR2 : (rest.map fun v => v.category).sum + 82 ≤ R.locals) (hR3 : cells + 1 ≤ R.cells) (hR4 : slots + 6 ≤ R.slots) (h : X cls st) (hc : cells + 1 ≤ mc) (hs : slots + 6 ≤ ms) :
    W p l e R s m args below meth c H locs cells slots (vx_MQ below Qc (zX E L X (fA E L s.heap.size)) args s mc ms (fA E L s.heap.size)) (F0 m pc ls rest) := by
  obtain ⟨sa, hsa⟩ := C.NE9.2 _ hstr
  refine vx_throwS (A := fA E L s.heap.size) (names := xNm) C.1 C.2.1 hfl C.2.2.2.1 hcls (by decide) (C.T qk) (C.T qi) hsa ?_ ?_ C.K.2.2.2.2.2.2.2.2.1 C.K.2.2.2.2.2.2.2.2.2 hS (hsz.trans C.2.2.1.symm) d0 d3 d4 d6 d9 (fun x hx => (htab x hx).elim) hR1 hR2 hR3 hR4 hlk ?_ hS.2.2 hc hs
  · intro w hww
    obtain ⟨h1, h2⟩ := hw w hww
    rcases Bool.or_eq_true _ _ |>.mp h2 with h3 | h3
    · exact C.2.2.2.2.1 w (lw_gm h1 h3)
    · have h4 := C.NE9.1 w h1 h3
      cases w <;> first | exact va_Nw.use rfl h4 | (exact absurd h3 (by simp [nestWord]))
  · intro w hww
    rcases List.mem_cons.mp hww with rfl | hww
    · rfl
    rcases List.mem_cons.mp hww with rfl | hww
    · rfl
    have h2 := (hw w hww).2
    cases w <;> first | rfl | (exact absurd h2 (by simp [goodWord, nestWord, Cond.onTables, Cond.keeps, Cond.steady])) | (simp only [vx_ot]; simpa [nestWord] using Or.inr h2)
  · intro t _ h1 h2
    refine ⟨st, trivial, ⟨h, hP.kept (fun k q hk => h2 q.1 (hP k q hk).lt)⟩, ?_⟩
    refine ⟨Nat.le_trans hS.1 h1, fun q h3 h4 => ?_⟩
    rw [h2 q (Nat.lt_of_lt_of_le h3 hS.1)]
    exact hS.2.1 q h3 h4
theorem z_runVx (C : Cx E L own cc nL p s m args c) (hP : va_P E.1 vwCl (wd E L st) H) (hS : va_S (fA E L s.heap.size) s.heap H locs) {b ci : Nat} {fs : List Value} {T : u_T} {N : Nat} {Cn : String} (hm : b ∈ L) (he : entS E st b = .inr (ci, fs)) (hc : vwCl[ci]? = some (Cn, T, N))
    (hM : Mx l y bytes maxL ret rm E L (.ref (E.2.1 b) :: As) st Qf X) (h1 : Cond.methodLink own index y ∈ lw_tbl) (h2 : Cond.instanceMethod y ∈ lw_tbl) (h3 : Cond.selects Cn y y ∈ lw_tbl) (h4 : Cond.initialized Cn ∈ lw_tbl) (h5 : Cond.code y bytes maxL ret ∈ lw_tbl)
    (hd : y.cls = Cn ∧ y.cls ≠ "java/lang/invoke/MethodHandle" ∧ y.cls ≠ "java/lang/invoke/VarHandle" ∧ (parseMethodDescriptor y.desc).map (fun d => d.parameters.length) = some n) (hR : rm.frames + 1 ≤ R.frames ∧ 8 + (maxL + 11) + rm.locals ≤ R.locals) (hf : cells + rm.cells ≤ R.cells ∧ slots + rm.slots ≤ R.slots)
    (hn : As.length = n) (hsz : ls.size = nL) (hst : st0 = As.reverse ++ .ref (E.2.1 b) :: rest) (hW : 2 * (F0 m pc ls st0).monitorRoom + (rest.map fun v => v.category).sum ≤ 8) (hdg : decode cc pc = .ok (.invokevirtual index, 3)) :
    vx_Run p l e R s m args below meth c H locs cells slots rm.cells rm.slots (F0 m pc ls st0) rest (Qf (fA E L H.size) (.ref (E.2.1 b) :: As).toArray) (zX E L X (fA E L H.size)) (fA E L H.size) := by
  obtain ⟨q0, hq, hw⟩ := wd_at hm he
  exact vx_runV C.F (hM H.size) (cwV n C.F.2.2.2.2 (gV h1 h2 h3 h4 h5) rfl rfl rfl hd hR) ⟨z_blind, va_recv C.2.2.2.2.2.1 hP hc hw, z_pre C hP hS _⟩ rfl hn hsz hst hW hdg hf
variable {a : Array Value} {mc ms mc9 ms9 : Nat}
/-- a throw that only passes through -/
theorem z_pass (htab : ∀ x ∈ c.exceptionTable.toList, False) (hlk : meth.locks = false) (hc : cells ≤ mc9) (hs : slots ≤ ms9) {Ex : String} {ce : Cell} {q9 : Addr} {u : St} (hX : X Ex u) (hP : va_P E.1 vwCl (wd E L u) H) (hS : va_S (fA E L s.heap.size) s.heap H locs) (hce : H[q9]? = some ce) (hv : ce.vm = .none) (hcl : s.vm.findClass Ex = some ce.cls) :
    vx_W p l e R s m args below meth c H locs cells slots (vx_MQ below Qc (zX E L X (fA E L s.heap.size)) args s mc9 ms9 (fA E L s.heap.size)) (F0 m pc ls rest) q9 :=
  vx_out (fun x hx => (htab x hx).elim) hlk hce hv hcl (fun t ht _ => ⟨u, trivial, ⟨hX, by show va_P _ _ _ t.heap; rw [ht]; exact hP⟩, hS.F ht⟩) hS.2.2 hc hs
theorem z_kix {post : Int32 → St → Prop} (htab : ∀ x ∈ c.exceptionTable.toList, False) (hlk : meth.locks = false) (hc : cells + mc ≤ mc9) (hs : slots + ms ≤ ms9) (hS : va_S (fA E L s.heap.size) s.heap H locs) (hr : vx_Run p l e R s m args below meth c H locs cells slots mc ms (F0 m pc ls st0) rest (zI E L post (fA E L H.size) a) (zX E L X (fA E L H.size)) (fA E L H.size))
    (kk : ∀ (r : Int32) (u : St) (H1 : Heap) (locs1 : List Loc), post r u → va_P E.1 vwCl (wd E L u) H1 → va_S (fA E L s.heap.size) s.heap H1 locs1 → W p l e R s m args below meth c H1 locs1 (cells + mc) (slots + ms) (vx_MQ below Qc (zX E L X (fA E L s.heap.size)) args s mc9 ms9 (fA E L s.heap.size)) (F0 m (pc + 3) ls (.int r :: rest))) : W p l e R s m args below meth c H locs cells slots (vx_MQ below Qc (zX E L X (fA E L s.heap.size)) args s mc9 ms9 (fA E L s.heap.size)) (F0 m pc ls st0) :=
  vx_calli hr hS (fun q _ h => fA_up hS.1 q h) (fA_up hS.1) (fun q _ h => fA_up hS.1 q h) (fun Ex ce q9 u t H1 locs1 ht _ _ hB _ _ hS1 hce hv hcl => z_pass htab hlk hc hs hB.1 (by rw [← ht]; exact hB.2) hS1 hce hv hcl) (fun r u t H1 locs1 ht _ hp hB _ _ hS1 => kk r u H1 locs1 hp (by rw [← ht]; exact hB) hS1)
theorem z_kvx {post : St → Prop} (htab : ∀ x ∈ c.exceptionTable.toList, False) (hlk : meth.locks = false) (hc : cells + mc ≤ mc9) (hs : slots + ms ≤ ms9) (hS : va_S (fA E L s.heap.size) s.heap H locs) (hr : vx_Run p l e R s m args below meth c H locs cells slots mc ms (F0 m pc ls st0) rest (zV E L post (fA E L H.size) a) (zX E L X (fA E L H.size)) (fA E L H.size))
    (kk : ∀ (u : St) (H1 : Heap) (locs1 : List Loc), post u → va_P E.1 vwCl (wd E L u) H1 → va_S (fA E L s.heap.size) s.heap H1 locs1 → W p l e R s m args below meth c H1 locs1 (cells + mc) (slots + ms) (vx_MQ below Qc (zX E L X (fA E L s.heap.size)) args s mc9 ms9 (fA E L s.heap.size)) (F0 m (pc + 3) ls rest)) : W p l e R s m args below meth c H locs cells slots (vx_MQ below Qc (zX E L X (fA E L s.heap.size)) args s mc9 ms9 (fA E L s.heap.size)) (F0 m pc ls st0) :=
  vx_callv hr hS (fun q _ h => fA_up hS.1 q h) (fA_up hS.1) (fun q _ h => fA_up hS.1 q h) (fun Ex ce q9 u t H1 locs1 ht _ _ hB _ _ hS1 hce hv hcl => z_pass htab hlk hc hs hB.1 (by rw [← ht]; exact hB.2) hS1 hce hv hcl) (fun u t H1 locs1 ht _ hp hB _ _ hS1 => kk u H1 locs1 hp (by rw [← ht]; exact hB) hS1)
end ZX
theorem xw_ise : ∀ w ∈ vx_atS "PlankBridge" 81 "java/lang/IllegalStateException" xNm, w ∈ lw_tbl ∧ (goodWord w || nestWord w) = true := by decide +kernel
theorem xw_iae : ∀ w ∈ vx_atS "PlankBridge" 95 "java/lang/IllegalArgumentException" xNm, w ∈ lw_tbl ∧ (goodWord w || nestWord w) = true := by decide +kernel
theorem xw_ioo : ∀ w ∈ vx_atS "PlankBridge" 225 "java/lang/IndexOutOfBoundsException" xNm, w ∈ lw_tbl ∧ (goodWord w || nestWord w) = true := by decide +kernel
section ZXW
variable {p : Program} {l : Launch} {e : Env} {R : Room} {s : State} {m : MethodId} {args : Array Value} {below : List Frame} {meth : Method} {c : Code} {H : Heap} {locs : List Loc} {cells slots : Nat} {Q : State → Prop}
variable {E : En0} {L : List Nat} {own : String} {cc bytes : ByteArray} {nL maxL index n : Nat} {st : St} {pc : Nat} {ls : Array Slot} {rest st0 As : List Value} {y : MethodName} {ret : Option FieldType} {rm : Room} {Qf : (Nat → Prop) → Array Value → State → Outcome → State → Prop} {Qc : Array Value → State → Outcome → State → Prop} {X : String → St → Prop}
theorem z_throwW (C : Cx E L own cc nL p s m args c) (hfl : l.stackTraces = false) (htab : ∀ x ∈ c.exceptionTable.toList, False) (hlk : meth.locks = false) (hP : va_P E.1 vwCl (wd E L st) H) (hS : va_S (fA E L s.heap.size) s.heap H locs) (hsz : ls.size = nL) {cls text : String} {ik is ic mc ms : Nat}
    (hcls : Bundle.fit cls = true) (qk : Cond.classLink own ik cls ∈ lw_tbl) (qi : Cond.initialized cls ∈ lw_tbl) (hstr : (own, is, text) ∈ srL) (hw : ∀ w ∈ vx_atS own ic cls xNm, w ∈ lw_tbl ∧ (goodWord w || nestWord w) = true)
    (d0 : decode cc pc = .ok (.new ik, 3)) (d3 : decode cc (pc + 3) = .ok (.dup, 1)) (d4 : decode cc (pc + 4) = .ok (.ldc_w is, 3)) (d6 : decode cc (pc + 7) = .ok (.invokespecial ic, 3)) (d9 : decode cc (pc + 10) = .ok (.athrow, 1))
    (hR1 : 5 < R.frames) (hR2 : (rest.map fun v => v.category).sum + 82 ≤ R.locals) (hR3 : cells + 1 ≤ R.cells) (hR4 : slots + 6 ≤ R.slots) (h : X cls st) (hc : cells + 1 ≤ mc) (hs : slots + 6 ≤ ms) :
    W p l e R s m args below meth c H locs cells slots (vx_MQ below Qc (zX E L X (fA E L s.heap.size)) args s mc ms (fA E L s.heap.size)) (F0 m pc ls rest) := by
  obtain ⟨sa, hsa⟩ := C.NE9.2 _ hstr
  refine vx_throwSW (A := fA E L s.heap.size) (names := xNm) C.1 C.2.1 hfl C.2.2.2.1 hcls (by decide) (C.T qk) (C.T qi) hsa ?_ ?_ C.K.2.2.2.2.2.2.2.2.1 C.K.2.2.2.2.2.2.2.2.2 hS (hsz.trans C.2.2.1.symm) d0 d3 d4 d6 d9 (fun x hx => (htab x hx).elim) hR1 hR2 hR3 hR4 hlk ?_ hS.2.2 hc hs
  · intro w hww
    obtain ⟨h1, h2⟩ := hw w hww
    rcases Bool.or_eq_true _ _ |>.mp h2 with h3 | h3
    · exact C.2.2.2.2.1 w (lw_gm h1 h3)
    · have h4 := C.NE9.1 w h1 h3
      cases w <;> first | exact va_Nw.use rfl h4 | (exact absurd h3 (by simp [nestWord]))
  · intro w hww
    rcases List.mem_cons.mp hww with rfl | hww
    · rfl
    rcases List.mem_cons.mp hww with rfl | hww
    · rfl
    have h2 := (hw w hww).2
    cases w <;> first | rfl | (exact absurd h2 (by simp [goodWord, nestWord, Cond.onTables, Cond.keeps, Cond.steady])) | (simp only [vx_ot]; simpa [nestWord] using Or.inr h2)
  · intro t _ h1 h2
    refine ⟨st, trivial, ⟨h, hP.kept (fun k q hk => h2 q.1 (hP k q hk).lt)⟩, ?_⟩
    refine ⟨Nat.le_trans hS.1 h1, fun q h3 h4 => ?_⟩
    rw [h2 q (Nat.lt_of_lt_of_le h3 hS.1)]
    exact hS.2.1 q h3 h4
end ZXW

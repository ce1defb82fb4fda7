/-! LOOPS: a body that is taken again and again; 'lp body n s': from s the body comes to its end within n turns -/
def lp {σ : Type} (body : (σ → Prop) → σ → Prop) : Nat → σ → Prop
  | 0, _ => False
  | n + 1, s => body (lp body n) s
section ZC
variable {p : Program} {l : Launch} {e : Env} {R : Room} {s : State} {m : MethodId} {args : Array Value} {below : List Frame} {meth : Method} {c : Code} {H : Heap} {locs : List Loc} {cells slots : Nat} {Q : State → Prop}
variable {E : En0} {L : List Nat} {own host : String} {cc bytes : ByteArray} {nL maxL index n : Nat} {st : St} {pc : Nat} {ls : Array Slot} {rest st0 As : List Value} {y : MethodName} {ret : Option FieldType} {rm : Room} {Qf : (Nat → Prop) → Array Value → State → Outcome → State → Prop} {Cn : String}
theorem fA_up {sz sz2 : Nat} (h : sz ≤ sz2) : ∀ q, fA E L sz2 q → fA E L sz q := fun q hq => hq.elim Or.inl (fun z => Or.inr (Nat.le_trans h z))
theorem gV (h1 : Cond.methodLink own index y ∈ lw_tbl) (h2 : Cond.instanceMethod y ∈ lw_tbl) (h3 : Cond.selects Cn y y ∈ lw_tbl) (h4 : Cond.initialized Cn ∈ lw_tbl) (h5 : Cond.code y bytes maxL ret ∈ lw_tbl) : GoodIn lw_g (wsV own index Cn y (Cond.code y bytes maxL ret :: lw_g)) := g_in (by
  intro w hw
  rcases List.mem_append.mp hw with hw | hw
  · rcases List.mem_cons.mp hw with rfl | hw
    · exact lw_gm h1 rfl
    rcases List.mem_cons.mp hw with rfl | hw
    · exact lw_gm h2 rfl
    rcases List.mem_cons.mp hw with rfl | hw
    · exact lw_gm h3 rfl
    rcases List.mem_cons.mp hw with rfl | hw
    · exact lw_gm h4 rfl
    exact absurd hw List.not_mem_nil
  · rcases List.mem_cons.mp hw with rfl | hw
    · exact lw_gm h5 rfl
    exact hw)
theorem gS (h1 : Cond.methodLink own index y ∈ lw_tbl) (h2 : Cond.static y ∈ lw_tbl) (h4 : Cond.initialized y.cls ∈ lw_tbl) (h5 : Cond.code y bytes maxL ret ∈ lw_tbl) : GoodIn lw_g (va_wsS own index y (Cond.code y bytes maxL ret :: lw_g)) := g_in (by
  intro w hw
  rcases List.mem_append.mp hw with hw | hw
  · rcases List.mem_cons.mp hw with rfl | hw
    · exact lw_gm h1 rfl
    rcases List.mem_cons.mp hw with rfl | hw
    · exact lw_gm h2 rfl
    rcases List.mem_cons.mp hw with rfl | hw
    · exact lw_gm h4 rfl
    exact absurd hw List.not_mem_nil
  · rcases List.mem_cons.mp hw with rfl | hw
    · exact lw_gm h5 rfl
    exact hw)
theorem z_pre (C : Cx E L own cc nL p s m args c) (hP : va_P E.1 vwCl (wd E L st) H) (hS : va_S (fA E L s.heap.size) s.heap H locs) (av : List Value) : ∀ U : State, U.heap = H → s.WarmedH U.vm → zPc E L av st H.size av.toArray U := fun U hU hW => ⟨rfl, by rw [hU], va_K.moved hW.alike C.2.2.2.2.2.1, by rw [hU]; exact ((C.2.2.2.2.2.2.2.1.kept (H1 := H) hS.2.1).narrow (fA_up hS.1)).moved hW.alike, NE.warm hW C.2.2.2.2.2.2.2.2, by rw [hU]; exact hP⟩
theorem z_runV (C : Cx E L own cc nL p s m args c) (hP : va_P E.1 vwCl (wd E L st) H) (hS : va_S (fA E L s.heap.size) s.heap H locs) {b ci : Nat} {fs : List Value} {T : u_T} {N : Nat} (hm : b ∈ L) (he : entS E st b = .inr (ci, fs)) (hc : vwCl[ci]? = some (Cn, T, N))
    (hM : Mz l y bytes maxL ret rm E L (.ref (E.2.1 b) :: As) st Qf) (h1 : Cond.methodLink own index y ∈ lw_tbl) (h2 : Cond.instanceMethod y ∈ lw_tbl) (h3 : Cond.selects Cn y y ∈ lw_tbl) (h4 : Cond.initialized Cn ∈ lw_tbl) (h5 : Cond.code y bytes maxL ret ∈ lw_tbl)
    (hd : y.cls = Cn ∧ y.cls ≠ "java/lang/invoke/MethodHandle" ∧ y.cls ≠ "java/lang/invoke/VarHandle" ∧ (parseMethodDescriptor y.desc).map (fun d => d.parameters.length) = some n) (hR : rm.frames + 1 ≤ R.frames ∧ 8 + (maxL + 11) + rm.locals ≤ R.locals) (hf : cells + rm.cells ≤ R.cells ∧ slots + rm.slots ≤ R.slots)
    (hn : As.length = n) (hsz : ls.size = nL) (hst : st0 = As.reverse ++ .ref (E.2.1 b) :: rest) (hW : 2 * (F0 m pc ls st0).monitorRoom + (rest.map fun v => v.category).sum ≤ 8) (hdg : decode cc pc = .ok (.invokevirtual index, 3)) :
    va_Run p l e R s m args below meth c H locs cells slots rm.cells rm.slots (F0 m pc ls st0) rest (Qf (fA E L H.size) (.ref (E.2.1 b) :: As).toArray) (fA E L H.size) := by
  obtain ⟨q0, hq, hw⟩ := wd_at hm he
  exact va_runV C.F (hM H.size) (cwV n C.F.2.2.2.2 (gV h1 h2 h3 h4 h5) rfl rfl rfl hd hR) ⟨z_blind, va_recv C.2.2.2.2.2.1 hP hc hw, z_pre C hP hS _⟩ rfl hn hsz hst hW hdg hf
theorem z_runS (C : Cx E L own cc nL p s m args c) (hP : va_P E.1 vwCl (wd E L st) H) (hS : va_S (fA E L s.heap.size) s.heap H locs)
    (hM : Mz l y bytes maxL ret rm E L As st Qf) (h1 : Cond.methodLink own index y ∈ lw_tbl) (h2 : Cond.static y ∈ lw_tbl) (h4 : Cond.initialized y.cls ∈ lw_tbl) (h5 : Cond.code y bytes maxL ret ∈ lw_tbl)
    (hd : y.cls ≠ "java/lang/invoke/MethodHandle" ∧ y.cls ≠ "java/lang/invoke/VarHandle" ∧ (parseMethodDescriptor y.desc).map (fun d => d.parameters.length) = some n) (hR : rm.frames + 1 ≤ R.frames ∧ 8 + (maxL + 11) + rm.locals ≤ R.locals) (hf : cells + rm.cells ≤ R.cells ∧ slots + rm.slots ≤ R.slots)
    (hn : As.length = n) (hsz : ls.size = nL) (hst : st0 = As.reverse ++ rest) (hW : 2 * (F0 m pc ls st0).monitorRoom + (rest.map fun v => v.category).sum ≤ 8) (hdg : decode cc pc = .ok (.invokestatic index, 3)) :
    va_Run p l e R s m args below meth c H locs cells slots rm.cells rm.slots (F0 m pc ls st0) rest (Qf (fA E L H.size) As.toArray) (fA E L H.size) :=
  va_runS C.F (hM H.size) (va_cwS n C.F.2.2.2.2 (gS h1 h2 h4 h5) rfl rfl rfl hd hR) ⟨z_blind, z_pre C hP hS _⟩ rfl hn hsz hst hW hdg hf
variable {a : Array Value} {mc ms : Nat}
theorem z_ki {post : Int32 → St → Prop} (hS : va_S (fA E L s.heap.size) s.heap H locs) (hr : va_Run p l e R s m args below meth c H locs cells slots mc ms (F0 m pc ls st0) rest (zI E L post (fA E L H.size) a) (fA E L H.size))
    (kk : ∀ (r : Int32) (u : St) (H1 : Heap) (locs1 : List Loc), post r u → va_P E.1 vwCl (wd E L u) H1 → va_S (fA E L s.heap.size) s.heap H1 locs1 → W p l e R s m args below meth c H1 locs1 (cells + mc) (slots + ms) Q (F0 m (pc + 3) ls (.int r :: rest))) : W p l e R s m args below meth c H locs cells slots Q (F0 m pc ls st0) :=
  va_calli hr hS (fun q _ h => fA_up hS.1 q h) (fA_up hS.1) (fun r u t H1 locs1 ht _ hp hB _ _ hS1 => kk r u H1 locs1 hp (by rw [← ht]; exact hB) hS1)
theorem z_kj {post : Int64 → St → Prop} (hS : va_S (fA E L s.heap.size) s.heap H locs) (hr : va_Run p l e R s m args below meth c H locs cells slots mc ms (F0 m pc ls st0) rest (zJ E L post (fA E L H.size) a) (fA E L H.size))
    (kk : ∀ (r : Int64) (u : St) (H1 : Heap) (locs1 : List Loc), post r u → va_P E.1 vwCl (wd E L u) H1 → va_S (fA E L s.heap.size) s.heap H1 locs1 → W p l e R s m args below meth c H1 locs1 (cells + mc) (slots + ms) Q (F0 m (pc + 3) ls (.long r :: rest))) : W p l e R s m args below meth c H locs cells slots Q (F0 m pc ls st0) :=
  va_calll hr hS (fun q _ h => fA_up hS.1 q h) (fA_up hS.1) (fun r u t H1 locs1 ht _ hp hB _ _ hS1 => kk r u H1 locs1 hp (by rw [← ht]; exact hB) hS1)
theorem z_kv {post : St → Prop} (hS : va_S (fA E L s.heap.size) s.heap H locs) (hr : va_Run p l e R s m args below meth c H locs cells slots mc ms (F0 m pc ls st0) rest (zV E L post (fA E L H.size) a) (fA E L H.size))
    (kk : ∀ (u : St) (H1 : Heap) (locs1 : List Loc), post u → va_P E.1 vwCl (wd E L u) H1 → va_S (fA E L s.heap.size) s.heap H1 locs1 → W p l e R s m args below meth c H1 locs1 (cells + mc) (slots + ms) Q (F0 m (pc + 3) ls rest)) : W p l e R s m args below meth c H locs cells slots Q (F0 m pc ls st0) :=
  va_callv hr hS (fun q _ h => fA_up hS.1 q h) (fA_up hS.1) (fun u t H1 locs1 ht _ hp hB _ _ hS1 => kk u H1 locs1 hp (by rw [← ht]; exact hB) hS1)
theorem z_ke {post : Option Nat → St → Prop} (hS : va_S (fA E L s.heap.size) s.heap H locs) (hr : va_Run p l e R s m args below meth c H locs cells slots mc ms (F0 m pc ls st0) rest (zK E L post (fA E L H.size) a) (fA E L H.size))
    (kk : ∀ (r : Option Nat) (u : St) (H1 : Heap) (locs1 : List Loc), post r u → va_P E.1 vwCl (wd E L u) H1 → va_S (fA E L s.heap.size) s.heap H1 locs1 → W p l e R s m args below meth c H1 locs1 (cells + mc) (slots + ms) Q (F0 m (pc + 3) ls (va_re E.2.2.1 r :: rest))) : W p l e R s m args below meth c H locs cells slots Q (F0 m pc ls st0) :=
  va_calle hr hS (fun q _ h => fA_up hS.1 q h) (fA_up hS.1) (fun r u t H1 locs1 ht _ hp hB _ _ hS1 => kk r u H1 locs1 hp (by rw [← ht]; exact hB) hS1)
theorem z_ri {post : Int32 → St → Prop} {v : Int32} {ty : FieldType} (C : Cx E L own cc nL p s m args c) (hr : meth.sig.returnType = some ty) (hlk : meth.locks = false) (hnr : narrow ty (.int v) = .int v) (hP : va_P E.1 vwCl (wd E L st) H) (hS : va_S (fA E L s.heap.size) s.heap H locs) (h : post v st) (hdg : decode cc pc = .ok (.ireturn, 1)) :
    W p l e R s m args below meth c H locs cells slots (MQ below (zI E L post (fA E L s.heap.size)) args s cells slots (fA E L s.heap.size)) (F0 m pc ls [.int v]) :=
  W.zret (v := v) C.1 C.2.1 hr hnr (fun t ht hW => ⟨⟨v, st, rfl, h, by show va_P _ _ _ t.heap; rw [ht]; exact hP⟩, hS.F ht⟩) hS.2.2 hdg hlk
theorem z_rj {post : Int64 → St → Prop} {v : Int64} (C : Cx E L own cc nL p s m args c) (hr : meth.sig.returnType = some .long) (hlk : meth.locks = false) (hP : va_P E.1 vwCl (wd E L st) H) (hS : va_S (fA E L s.heap.size) s.heap H locs) (h : post v st) (hdg : decode cc pc = .ok (.lreturn, 1)) :
    W p l e R s m args below meth c H locs cells slots (MQ below (zJ E L post (fA E L s.heap.size)) args s cells slots (fA E L s.heap.size)) (F0 m pc ls [.long v]) :=
  W.lret (v := v) C.1 C.2.1 hr (fun t ht hW => ⟨⟨v, st, rfl, h, by show va_P _ _ _ t.heap; rw [ht]; exact hP⟩, hS.F ht⟩) hS.2.2 hdg hlk
theorem z_rv {post : St → Prop} (C : Cx E L own cc nL p s m args c) (hr : meth.sig.returnType = none) (hlk : meth.locks = false) (hP : va_P E.1 vwCl (wd E L st) H) (hS : va_S (fA E L s.heap.size) s.heap H locs) (h : post st) (hdg : decode cc pc = .ok (.return_, 1)) :
    W p l e R s m args below meth c H locs cells slots (MQ below (zV E L post (fA E L s.heap.size)) args s cells slots (fA E L s.heap.size)) (F0 m pc ls []) :=
  W.vret C.1 C.2.1 hr (fun t ht hW => ⟨⟨st, rfl, h, by show va_P _ _ _ t.heap; rw [ht]; exact hP⟩, hS.F ht⟩) hS.2.2 hdg hlk
theorem z_re {post : Option Nat → St → Prop} {v : Option Nat} {n : String} (C : Cx E L own cc nL p s m args c) (hr : meth.sig.returnType = some (.object n)) (hlk : meth.locks = false) (hP : va_P E.1 vwCl (wd E L st) H) (hS : va_S (fA E L s.heap.size) s.heap H locs) (h : post v st) (hdg : decode cc pc = .ok (.areturn, 1)) :
    W p l e R s m args below meth c H locs cells slots (MQ below (zK E L post (fA E L s.heap.size)) args s cells slots (fA E L s.heap.size)) (F0 m pc ls [va_re E.2.2.1 v]) :=
  W.aret (v := va_re E.2.2.1 v) C.1 C.2.1 hr (Or.inl ⟨n, rfl⟩) (va_re_or _ _) (fun t ht hW => ⟨⟨v, st, rfl, h, by show va_P _ _ _ t.heap; rw [ht]; exact hP⟩, hS.F ht⟩) hS.2.2 hdg hlk
end ZC

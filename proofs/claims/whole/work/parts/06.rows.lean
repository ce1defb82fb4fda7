def kNm : List String := ["END", "BAD", "NAME", "NUMBER", "OPEN", "CLOSE", "SEMICOLON", "COMMA", "LESS", "EQUAL", "GREATER", "WALKER", "WEIGHS", "TAKES", "PLANKS", "PLAN", "SEND", "WITH", "REST", "NOTE", "MEND", "DO", "WHILE", "IF", "ELSE", "AND", "FASTEST", "SLOWEST", "LIGHTEST", "HEAVIEST", "NEAR", "FAR", "OIL", "MINUTE", "NIGHT", "MISSING", "WEAKEST"]
def kOrd : List (String × String × String × List Int32) := [("java/lang/Enum", "ordinal", "I", (List.range 37).map Int32.ofNat)]
/-- the tables' words that any callee's state keeps; and the nest's -/
def lw_g : List Cond := lw_tbl.filter goodWord
def nestWord : Cond → Bool
  | .fieldLinkNest .. => true
  | .methodLinkNest .. => true
  | .declares .. => true
  | .castable .. => true
  | _ => false
/-- the texts of the class's throws -/
def srL : List (String × Nat × String) := [("PlankBridge", 79, "the tape has at most 1600 bytes"), ("PlankBridge", 93, "the tape has fewer bytes"), ("PlankBridge", 274, "no such walker"), ("PlankBridge", 278, "no such plank"), ("PlankBridge", 280, "all planks are missing"), ("PlankBridge", 269, "this crossing cannot be made"), ("PlankBridge", 276, "both are the same"), ("PlankBridge", 195, "a rest has 1 to 600 minutes"), ("PlankBridge", 200, "a strength is 1 to 30"), ("PlankBridge", 282, "no such plan"), ("PlankBridge", 223, "no such note"), ("PlankBridge", 287, "all are far"), ("PlankBridge", 253, "there are no plans")]
def NE (U : State) : Prop := (∀ w ∈ lw_tbl, nestWord w = true → va_Nw w U) ∧ ∀ x ∈ srL, ∃ sa : Nat, vk_R x.1 x.2.1 x.2.2 sa U
theorem nw_alike {w : Cond} {s U : State} (hw : w.onTables = true) (h : w.before #[] (s.setVm U.vm) = true) : va_Nw w U := va_Nw.same (u := s.setVm U.vm) hw rfl h
theorem NE.warm {s U : State} (hW : s.WarmedH U.vm) (h : NE s) : NE U := by
  refine ⟨fun w hw hn => ?_, fun x hx => ?_⟩
  · have h1 := h.1 w hw hn
    cases w <;> first | exact va_Nw.warmF hW h1 | exact va_Nw.warmM hW h1 | exact nw_alike rfl (by rw [Cond.declares_setVm hW.alike]; exact h1) | exact nw_alike rfl (by rw [Cond.castable_setVm hW.alike]; exact h1) | (exact absurd hn (by simp [nestWord]))
  · obtain ⟨sa, hsa⟩ := h.2 x hx
    exact ⟨sa, hsa.warm hW⟩
theorem NE.same {u U : State} (hvm : u.vm = U.vm) (h : NE u) : NE U := by
  refine ⟨fun w hw hn => ?_, fun x hx => ?_⟩
  · have h1 := h.1 w hw hn
    cases w <;> first | exact va_Nw.same rfl hvm h1 | (exact absurd hn (by simp [nestWord]))
  · obtain ⟨sa, hsa⟩ := h.2 x hx
    exact ⟨sa, hsa.same hvm.symm⟩
theorem lw_gm {w : Cond} (h : w ∈ lw_tbl) (hg : goodWord w = true) : w ∈ lw_g := List.mem_filter.mpr ⟨h, hg⟩
theorem g_in {ws : List Cond} (h : ∀ w ∈ ws, w ∈ lw_g) : GoodIn lw_g ws := fun w hw => ⟨h w hw, good_of_word (List.mem_filter.mp (h w hw)).2⟩
def kCodeL : List Int64 := [1, 1, 1, 1, 168, 169, 187, 172, 188, 189, 190, 8513121874674, 8514189259891, 65703441139, 8275533477363, 505098478, 511276900, 519731816, 509180404, 500955749, 498693988, 29295, 66523395685, 29926, 482032101, 3700580, 1014914707192308, 1072466201508340, 133321551106374132, 131051956683241972, 500789490, 3780850, 3929324, 8171676334693, 64109540468, 1045975908644711, 1089814086121972]
def kCode (i : Nat) : Int64 := kCodeL.getD i 0
def kSwL : List Int32 := [0, 0, 0, 0, 0, 0, 0, 0, 0, 0, 0, 0, 0, 0, 0, 0, 1, 0, 2, 3, 4, 5, 6, 7, 0, 0, 8, 9, 10, 0, 11, 12, 13, 14, 15, 16, 0]
def kSw (i : Nat) : Int32 := kSwL.getD i 0
def sLen : List Nat := [6, 6, 5, 6, 4, 4, 4, 4, 4, 4, 2, 5, 2, 4, 3, 7, 7, 8, 8, 4, 3, 3, 6, 5, 7, 7]
def sByt : List (List Int32) := [[119, 97, 108, 107, 101, 114], [119, 101, 105, 103, 104, 115], [116, 97, 107, 101, 115], [112, 108, 97, 110, 107, 115], [112, 108, 97, 110], [115, 101, 110, 100], [119, 105, 116, 104], [114, 101, 115, 116], [110, 111, 116, 101], [109, 101, 110, 100], [100, 111], [119, 104, 105, 108, 101], [105, 102], [101, 108, 115, 101], [97, 110, 100], [102, 97, 115, 116, 101, 115, 116], [115, 108, 111, 119, 101, 115, 116], [108, 105, 103, 104, 116, 101, 115, 116], [104, 101, 97, 118, 105, 101, 115, 116], [110, 101, 97, 114], [102, 97, 114], [111, 105, 108], [109, 105, 110, 117, 116, 101], [110, 105, 103, 104, 116], [109, 105, 115, 115, 105, 110, 103], [119, 101, 97, 107, 101, 115, 116]]
/-- the words' texts, String's own static, what a throw asks -/
def CO2 (E : En0) (A : Nat → Prop) (U : State) (H : Heap) : Prop :=
  vk_S 26 sLen sByt (fun k => E.2.2.1 (100 + k)) (fun k => E.2.2.1 (200 + k)) A U H ∧
  (∃ t : Nat, va_Z "PlankBridgeModel" "WORDS" "[Ljava/lang/String;" (.ref t) A U H ∧ va_T (.object "java/lang/String") t 26 (fun j => .ref (E.2.2.1 (100 + j))) A U H) ∧
  va_Z "java/lang/String" "COMPACT_STRINGS" "Z" (.int 1) A U H ∧ va_Zq "jdk/internal/util/Preconditions" "SIOOBE_FORMATTER" "Ljava/util/function/BiFunction;" A U H ∧
  vx_Zq Bundle.tN "UNASSIGNED_STACK" Bundle.steD A U H ∧ vx_Zq Bundle.tN "SUPPRESSED_SENTINEL" Bundle.listD A U H
theorem CO2.moved {E : En0} {A : Nat → Prop} {u U : State} {H : Heap} (hvm : u.vm.Alike U.vm) (h : CO2 E A u H) : CO2 E A U H := by
  obtain ⟨h1, ⟨t, h2, h3⟩, h4, h5, h6, h7⟩ := h
  exact ⟨h1.moved hvm, ⟨t, h2.moved hvm, h3.moved hvm⟩, h4.moved hvm, h5.moved hvm, h6.moved hvm, h7.moved hvm⟩
theorem CO2.kept {E : En0} {A : Nat → Prop} {U : State} {H H1 : Heap} (h : CO2 E A U H) (hq : ∀ a : Nat, a < H.size → ¬ A a → H1[a]? = H[a]?) : CO2 E A U H1 := by
  obtain ⟨h1, ⟨t, h2, h3⟩, h4, h5, h6, h7⟩ := h
  exact ⟨h1.kept hq, ⟨t, h2.kept hq, h3.kept hq⟩, h4.kept hq, h5.kept hq, h6.kept hq, h7.kept hq⟩
theorem CO2.narrow {E : En0} {A B : Nat → Prop} {U : State} {H : Heap} (h : CO2 E A U H) (hAB : ∀ q, B q → A q) : CO2 E B U H := by
  obtain ⟨h1, ⟨t, h2, h3⟩, h4, h5, h6, h7⟩ := h
  exact ⟨h1.narrow hAB, ⟨t, h2.narrow hAB, h3.narrow hAB⟩, h4.narrow hAB, h5.narrow hAB, h6.narrow hAB, h7.narrow hAB⟩
/-- what stands from the start and is never written: the constants of Kind, their row, the switch's table -/
def CO (E : En0) (A : Nat → Prop) (U : State) (H : Heap) : Prop :=
  va_En "PlankBridge$Kind" "LPlankBridge$Kind;" kNm kOrd E.2.2.1 A U H ∧ va_Ef 37 "PlankBridge$Kind" "code" "J" (fun i => .long (kCode i)) E.2.2.1 A U H ∧
  (∃ t : Nat, va_Z "PlankBridge$Kind" "ALL" "[LPlankBridge$Kind;" (.ref t) A U H ∧ va_T (.object "PlankBridge$Kind") t 37 (fun j => .ref (E.2.2.1 j)) A U H) ∧
  (∃ t : Nat, va_Z "PlankBridge$1" "$SwitchMap$PlankBridge$Kind" "[I" (.ref t) A U H ∧ va_T .int t 37 (fun j => .int (kSw j)) A U H) ∧ CO2 E A U H
theorem CO.moved {E : En0} {A : Nat → Prop} {u U : State} {H : Heap} (hvm : u.vm.Alike U.vm) (h : CO E A u H) : CO E A U H := by
  obtain ⟨h1, h2, ⟨t, h3, h4⟩, ⟨u, h5, h6⟩, h7⟩ := h
  exact ⟨h1.moved hvm, h2.moved hvm, ⟨t, h3.moved hvm, h4.moved hvm⟩, ⟨u, h5.moved hvm, h6.moved hvm⟩, h7.moved hvm⟩
theorem CO.kept {E : En0} {A : Nat → Prop} {U : State} {H H1 : Heap} (h : CO E A U H) (hq : ∀ a : Nat, a < H.size → ¬ A a → H1[a]? = H[a]?) : CO E A U H1 := by
  obtain ⟨h1, h2, ⟨t, h3, h4⟩, ⟨u, h5, h6⟩, h7⟩ := h
  exact ⟨h1.kept hq, h2.kept hq, ⟨t, h3.kept hq, h4.kept hq⟩, ⟨u, h5.kept hq, h6.kept hq⟩, h7.kept hq⟩
theorem CO.narrow {E : En0} {A B : Nat → Prop} {U : State} {H : Heap} (h : CO E A U H) (hAB : ∀ q, B q → A q) : CO E B U H := by
  obtain ⟨h1, h2, ⟨t, h3, h4⟩, ⟨u, h5, h6⟩, h7⟩ := h
  exact ⟨h1.narrow hAB, h2.narrow hAB, ⟨t, h3.narrow hAB, h4.narrow hAB⟩, ⟨u, h5.narrow hAB, h6.narrow hAB⟩, h7.narrow hAB⟩
def Cx (E : En0) (L : List Nat) (own : String) (cc : ByteArray) (nL : Nat) (p : Program) (s : State) (m : MethodId) (args : Array Value) (c : Code) : Prop := p.tables.exec = Jvm.exec ∧ c.code = cc ∧ c.maxLocals = nL ∧ s.vm.findClass own = some m.cls ∧ (∀ w ∈ lw_g, w.before args s = true) ∧ va_K E.1 vwCl (tyE E) s ∧ EK E L ∧ CO E (fA E L s.heap.size) s s.heap ∧ NE s
def zPc (E : En0) (L : List Nat) (av : List Value) (st : St) (sz : Nat) : Array Value → State → Prop := va_Pc av (fun U => U.heap.size = sz ∧ va_K E.1 vwCl (tyE E) U ∧ CO E (fA E L sz) U U.heap ∧ NE U ∧ va_P E.1 vwCl (wd E L st) U.heap)
def zB (E : En0) (L : List Nat) : St → State → Prop := fun u t => va_P E.1 vwCl (wd E L u) t.heap
/-- the contract of a method over the one world: from the state st; 'Qf' what it says at the end -/
def Mz (l : Launch) (y : MethodName) (b : ByteArray) (n : Nat) (ret : Option FieldType) (rm : Room) (E : En0) (L : List Nat) (av : List Value) (st : St) (Qf : (Nat → Prop) → Array Value → State → Outcome → State → Prop) : Prop :=
  ∀ sz : Nat, Met l y (.code y b n ret :: lw_g) rm (zPc E L av st sz) (Qf (fA E L sz)) rm.cells rm.slots (fA E L sz)
abbrev zI (E : En0) (L : List Nat) (Q : Int32 → St → Prop) : (Nat → Prop) → Array Value → State → Outcome → State → Prop := va_Qi Q (zB E L)
abbrev zJ (E : En0) (L : List Nat) (Q : Int64 → St → Prop) : (Nat → Prop) → Array Value → State → Outcome → State → Prop := va_Ql Q (zB E L)
abbrev zV (E : En0) (L : List Nat) (Q : St → Prop) : (Nat → Prop) → Array Value → State → Outcome → State → Prop := va_Qv Q (zB E L)
abbrev zK (E : En0) (L : List Nat) (Q : Option Nat → St → Prop) : (Nat → Prop) → Array Value → State → Outcome → State → Prop := va_Qe E.2.2.1 Q (zB E L)
theorem z_blind {E : En0} {L : List Nat} {av : List Value} {st : St} {sz : Nat} : FrameBlind (zPc E L av st sz) := fun a U g mk q => by
  obtain ⟨q0, q1, q2, q3, q5, q4⟩ := q
  exact ⟨q0, q1, va_K.moved (u := U) (U := U.calling g mk a) (Vm.Alike.refl U.vm) q2, CO.moved (u := U) (U := U.calling g mk a) (Vm.Alike.refl U.vm) q3, NE.same (u := U) (U := U.calling g mk a) rfl q5, q4⟩
def bz (x : Int32) : Prop := x = 0 ∨ x = 1
theorem bz0 : bz 0 := Or.inl rfl
theorem bz1 : bz 1 := Or.inr rfl
theorem bz_n {x : Int32} (h : bz x) : narrow .boolean (.int x) = .int x := by rcases h with rfl | rfl <;> rfl
theorem bz_f {x : Int32} (h : bz x) : fits .boolean (.int x) = true := by rcases h with rfl | rfl <;> rfl
theorem bz_v {x : Int32} (h : bz x) : vp_nar .boolean x = x := by rcases h with rfl | rfl <;> rfl
set_option maxHeartbeats 4000000 in
theorem Mz.of {l : Launch} {y : MethodName} {b : ByteArray} {n : Nat} {ret : Option FieldType} {rm : Room} {E : En0} {L : List Nat} {av : List Value} {st : St} {Qf : (Nat → Prop) → Array Value → State → Outcome → State → Prop} (hE : EK E L) (hy : plainName y.cls = true) (hn : (lg_sl av).length ≤ n)
    (body : ∀ (p : Program) (e : Env) (s : State) (m : MethodId) (below : List Frame) (meth : Method) (c : Code) (ls : Array Slot), Cx E L y.cls b n p s m av.toArray c → meth.sig.returnType = ret → meth.locks = false → (y.name = "<init>" → meth.name = "<init>") → lv_has ls n (lv_args 0 av) → va_P E.1 vwCl (wd E L st) s.heap →
      W p l e rm s m av.toArray below meth c s.heap [] 0 0 (MQ below (Qf (fA E L s.heap.size)) av.toArray s rm.cells rm.slots (fA E L s.heap.size)) (F0 m 0 ls [])) : Mz l y b n ret rm E L av st Qf := by
  intro sz
  refine Met.ofW (cc := b) (maxL := n) (ret := ret) hy rfl ?_
  intro p e s m args below meth c s₁ B hml hv
  obtain ⟨rfl, hsz, hK, hC, hNE, hP⟩ := hv
  have hts := atoms_spec (ws := Cond.code y b n ret :: lw_g) B.pre
  subst hsz
  have hl := lv_entry av (n := n) hn
  rw [lg_entry_eq]
  exact body p e s m below meth c _ ⟨B.exec, B.bytes, hml, findClass_of_methodNamed B.named, fun w hw => hts w (List.mem_cons_of_mem _ hw), hK, hE, hC, hNE⟩ B.returns B.notSynchronized (fun h => ((name_of_methodNamed B.named B.method).1).trans h) hl hP
section ZR
variable {p : Program} {l : Launch} {e : Env} {R : Room} {s : State} {m : MethodId} {args : Array Value} {below : List Frame} {meth : Method} {c : Code} {H : Heap} {locs : List Loc} {cells slots : Nat} {Q : State → Prop}
variable {E : En0} {L : List Nat} {own : String} {cc : ByteArray} {nL : Nat} {st : St} {pc : Nat} {ls : Array Slot} {rest : List Value}
theorem Cx.T (C : Cx E L own cc nL p s m args c) {w : Cond} (h : w ∈ lw_tbl) (hg : goodWord w = true := by rfl) : w.before args s = true := C.2.2.2.2.1 w (lw_gm h hg)
theorem Cx.Tn (C : Cx E L own cc nL p s m args c) {a b n d h9 : String} {i : Nat} (h : Cond.fieldLinkNest a i b n d h9 ∈ lw_tbl) : (Cond.fieldLinkNest a i b n d h9).before args s = true := va_Nw.use rfl (C.2.2.2.2.2.2.2.2.1 _ h rfl)
theorem Cx.D (C : Cx E L own cc nL p s m args c) : va_D (fA E L s.heap.size) (wd E L st) := wd_D C.2.2.2.2.2.2.1
theorem Cx.F (C : Cx E L own cc nL p s m args c) : CallFix p m c cc nL s args lw_g own := ⟨C.1, C.2.1, C.2.2.1, C.2.2.2.1, C.2.2.2.2.1⟩
theorem Cx.N (C : Cx E L own cc nL p s m args c) : L.Nodup := C.2.2.2.2.2.2.1.1
theorem z_iald (C : Cx E L own cc nL p s m args c) (hP : va_P E.1 vwCl (wd E L st) H) {b n : Nat} (hb : kd b = 20) (hn : ln b = n) (hm : b ∈ L) {i : Int32} (hin : vp_in i n) (hdg : decode cc pc = .ok (.iaload, 1)) (kk : W p l e R s m args below meth c H locs cells slots Q (F0 m (pc + 1) ls (.int (gI st b i.toNatClampNeg) :: rest))) : W p l e R s m args below meth c H locs cells slots Q (F0 m pc ls (.int i :: .ref (E.2.1 b) :: rest)) := by
  subst hn
  obtain ⟨q, hq, he⟩ := wd_at hm (e20 (E := E) (st := st) hb)
  exact va_iald C.1 C.2.1 C.2.2.2.2.2.1 hP q 0 he rfl hin hdg kk
theorem z_zald (C : Cx E L own cc nL p s m args c) (hP : va_P E.1 vwCl (wd E L st) H) {b n : Nat} (hb : kd b = 21) (hn : ln b = n) (hm : b ∈ L) {i : Int32} (hin : vp_in i n) (hdg : decode cc pc = .ok (.baload, 1)) (kk : W p l e R s m args below meth c H locs cells slots Q (F0 m (pc + 1) ls (.int (gI st b i.toNatClampNeg) :: rest))) : W p l e R s m args below meth c H locs cells slots Q (F0 m pc ls (.int i :: .ref (E.2.1 b) :: rest)) := by
  subst hn
  obtain ⟨q, hq, he⟩ := wd_at hm (e21 (E := E) (st := st) hb)
  exact va_zald C.1 C.2.1 C.2.2.2.2.2.1 hP q 1 he rfl hin hdg kk
theorem z_bald (C : Cx E L own cc nL p s m args c) (hP : va_P E.1 vwCl (wd E L st) H) {b n : Nat} (hb : kd b = 22) (hn : ln b = n) (hm : b ∈ L) {i : Int32} (hin : vp_in i n) (hdg : decode cc pc = .ok (.baload, 1)) (kk : W p l e R s m args below meth c H locs cells slots Q (F0 m (pc + 1) ls (.int (gI st b i.toNatClampNeg) :: rest))) : W p l e R s m args below meth c H locs cells slots Q (F0 m pc ls (.int i :: .ref (E.2.1 b) :: rest)) := by
  subst hn
  obtain ⟨q, hq, he⟩ := wd_at hm (e22 (E := E) (st := st) hb)
  exact va_bald C.1 C.2.1 C.2.2.2.2.2.1 hP q 2 he rfl hin hdg kk
theorem z_lald (C : Cx E L own cc nL p s m args c) (hP : va_P E.1 vwCl (wd E L st) H) {b n : Nat} (hb : kd b = 23) (hn : ln b = n) (hm : b ∈ L) {i : Int32} (hin : vp_in i n) (hdg : decode cc pc = .ok (.laload, 1)) (kk : W p l e R s m args below meth c H locs cells slots Q (F0 m (pc + 1) ls (.long (gJ st b i.toNatClampNeg) :: rest))) : W p l e R s m args below meth c H locs cells slots Q (F0 m pc ls (.int i :: .ref (E.2.1 b) :: rest)) := by
  subst hn
  obtain ⟨q, hq, he⟩ := wd_at hm (e23 (E := E) (st := st) hb)
  exact va_lald C.1 C.2.1 C.2.2.2.2.2.1 hP q 3 he rfl hin hdg kk
theorem z_iast (C : Cx E L own cc nL p s m args c) (hP : va_P E.1 vwCl (wd E L st) H) (hS : va_S (fA E L s.heap.size) s.heap H locs) {b n : Nat} (hb : kd b = 20) (hn : ln b = n) (hm : b ∈ L) {i : Int32} {x : Int32} (hin : vp_in i n) (hdg : decode cc pc = .ok (.iastore, 1)) (kk : ∀ (H1 : Heap) (locs1 : List Loc), va_P E.1 vwCl (wd E L (uI st b i.toNatClampNeg x)) H1 → va_S (fA E L s.heap.size) s.heap H1 locs1 → W p l e R s m args below meth c H1 locs1 cells slots Q (F0 m (pc + 1) ls rest)) : W p l e R s m args below meth c H locs cells slots Q (F0 m pc ls (.int x :: .int i :: .ref (E.2.1 b) :: rest)) := by
  subst hn
  obtain ⟨q, hq, he⟩ := wd_at hm (e20 (E := E) (st := st) hb)
  refine va_iast C.1 C.2.1 C.2.2.2.2.2.1 hP C.D hS q 0 he rfl hin hdg (fun H1 locs1 hP1 hD1 hS1 => kk H1 locs1 ?_ hS1)
  rw [wd_set (st' := uI st b i.toNatClampNeg x) C.N hq ?_ sI_o] at hP1
  · exact hP1
  · rw [e20 hb]
    simp only [uI, sI, sw_s]
    rfl
theorem z_zast (C : Cx E L own cc nL p s m args c) (hP : va_P E.1 vwCl (wd E L st) H) (hS : va_S (fA E L s.heap.size) s.heap H locs) {b n : Nat} (hb : kd b = 21) (hn : ln b = n) (hm : b ∈ L) {i : Int32} {x : Int32} (hin : vp_in i n) (hz : bz x) (hdg : decode cc pc = .ok (.bastore, 1)) (kk : ∀ (H1 : Heap) (locs1 : List Loc), va_P E.1 vwCl (wd E L (uI st b i.toNatClampNeg x)) H1 → va_S (fA E L s.heap.size) s.heap H1 locs1 → W p l e R s m args below meth c H1 locs1 cells slots Q (F0 m (pc + 1) ls rest)) : W p l e R s m args below meth c H locs cells slots Q (F0 m pc ls (.int x :: .int i :: .ref (E.2.1 b) :: rest)) := by
  subst hn
  obtain ⟨q, hq, he⟩ := wd_at hm (e21 (E := E) (st := st) hb)
  refine va_zast C.1 C.2.1 C.2.2.2.2.2.1 hP C.D hS q 1 he rfl hin hdg (fun H1 locs1 hP1 hD1 hS1 => kk H1 locs1 ?_ hS1)
  rw [bz_v hz] at hP1
  rw [wd_set (st' := uI st b i.toNatClampNeg x) C.N hq ?_ sI_o] at hP1
  · exact hP1
  · rw [e21 hb]
    simp only [uI, sI, sw_s]
    rfl
theorem z_bast (C : Cx E L own cc nL p s m args c) (hP : va_P E.1 vwCl (wd E L st) H) (hS : va_S (fA E L s.heap.size) s.heap H locs) {b n : Nat} (hb : kd b = 22) (hn : ln b = n) (hm : b ∈ L) {i : Int32} {x : Int32} (hin : vp_in i n) (hz : vp_nar .byte x = x) (hdg : decode cc pc = .ok (.bastore, 1)) (kk : ∀ (H1 : Heap) (locs1 : List Loc), va_P E.1 vwCl (wd E L (uI st b i.toNatClampNeg x)) H1 → va_S (fA E L s.heap.size) s.heap H1 locs1 → W p l e R s m args below meth c H1 locs1 cells slots Q (F0 m (pc + 1) ls rest)) : W p l e R s m args below meth c H locs cells slots Q (F0 m pc ls (.int x :: .int i :: .ref (E.2.1 b) :: rest)) := by
  subst hn
  obtain ⟨q, hq, he⟩ := wd_at hm (e22 (E := E) (st := st) hb)
  refine va_bast C.1 C.2.1 C.2.2.2.2.2.1 hP C.D hS q 2 he rfl hin hdg (fun H1 locs1 hP1 hD1 hS1 => kk H1 locs1 ?_ hS1)
  rw [hz] at hP1
  rw [wd_set (st' := uI st b i.toNatClampNeg x) C.N hq ?_ sI_o] at hP1
  · exact hP1
  · rw [e22 hb]
    simp only [uI, sI, sw_s]
    rfl
theorem z_last (C : Cx E L own cc nL p s m args c) (hP : va_P E.1 vwCl (wd E L st) H) (hS : va_S (fA E L s.heap.size) s.heap H locs) {b n : Nat} (hb : kd b = 23) (hn : ln b = n) (hm : b ∈ L) {i : Int32} {x : Int64} (hin : vp_in i n) (hdg : decode cc pc = .ok (.lastore, 1)) (kk : ∀ (H1 : Heap) (locs1 : List Loc), va_P E.1 vwCl (wd E L (uJ st b i.toNatClampNeg x)) H1 → va_S (fA E L s.heap.size) s.heap H1 locs1 → W p l e R s m args below meth c H1 locs1 cells slots Q (F0 m (pc + 1) ls rest)) : W p l e R s m args below meth c H locs cells slots Q (F0 m pc ls (.long x :: .int i :: .ref (E.2.1 b) :: rest)) := by
  subst hn
  obtain ⟨q, hq, he⟩ := wd_at hm (e23 (E := E) (st := st) hb)
  refine va_last C.1 C.2.1 C.2.2.2.2.2.1 hP C.D hS q 3 he rfl hin hdg (fun H1 locs1 hP1 hD1 hS1 => kk H1 locs1 ?_ hS1)
  rw [wd_set (st' := uJ st b i.toNatClampNeg x) C.N hq ?_ sJ_o] at hP1
  · exact hP1
  · rw [e23 hb]
    simp only [uJ, sJ, sw_s]
    rfl
end ZR
theorem in1 : ∀ w ∈ u_ws RX1 TX1 16, w ∈ lw_g := by decide +kernel
theorem in2 : ∀ w ∈ u_ws RX2 TX2 15, w ∈ lw_g := by decide +kernel
theorem in3 : ∀ w ∈ u_ws RX4 TX4 6, w ∈ lw_g := by decide +kernel
theorem in4 : ∀ w ∈ u_ws RX5 TX5 5, w ∈ lw_g := by decide +kernel
theorem in5 : ∀ w ∈ u_ws RX6 TX6 2, w ∈ lw_g := by decide +kernel
theorem in6 : ∀ w ∈ u_ws RX7 TX7 5, w ∈ lw_g := by decide +kernel
theorem in7 : ∀ w ∈ u_ws RX8 TX8 3, w ∈ lw_g := by decide +kernel
theorem in8 : ∀ w ∈ u_ws RX9 TX9 9, w ∈ lw_g := by decide +kernel
theorem in9 : ∀ w ∈ u_ws RX10 TX10 12, w ∈ lw_g := by decide +kernel
theorem in10 : ∀ w ∈ u_ws RX11 TX11 15, w ∈ lw_g := by decide +kernel
theorem in11 : ∀ w ∈ u_ws RX12 TX12 9, w ∈ lw_g := by decide +kernel
section ZF
variable {p : Program} {l : Launch} {e : Env} {R : Room} {s : State} {m : MethodId} {args : Array Value} {below : List Frame} {meth : Method} {c : Code} {H : Heap} {locs : List Loc} {cells slots : Nat} {Q : State → Prop}
variable {E : En0} {L : List Nat} {own host : String} {cc : ByteArray} {nL : Nat} {st : St} {pc : Nat} {ls : Array Slot} {rest : List Value}
theorem gf1_0 (C : Cx E L own cc nL p s m args c) (hP : va_P E.1 vwCl (wd E L st) H) {b index : Nat} (hb : kd b = 1) (hm : b ∈ L) (q : .fieldLink own index "PlankBridge$Book" "tokens" "LPlankBridge$Tokens;" ∈ lw_tbl) (hdg : decode cc pc = .ok (.getfield index, 3)) (kk : W p l e R s m args below meth c H locs cells slots Q (F0 m (pc + 3) ls (.ref (E.2.1 (b + 12)) :: rest))) : W p l e R s m args below meth c H locs cells slots Q (F0 m pc ls (.ref (E.2.1 b) :: rest)) := by
  obtain ⟨q0, -, he⟩ := wd_at hm (e1 (E := E) (st := st) hb)
  exact va_get (D := E.1) (C := RX1) (T := TX1) (N := 16) C.1 C.2.1 C.2.2.2.2.1 in1 C.2.2.2.1 C.2.2.2.2.2.1 hP q0 he rfl 0 (by decide) (C.T q) (fun _ h9 => h9) f1_0 hdg kk
theorem gn1_0 (C : Cx E L own cc nL p s m args c) (hP : va_P E.1 vwCl (wd E L st) H) {b index : Nat} (hb : kd b = 1) (hm : b ∈ L) (q : .fieldLinkNest own index "PlankBridge$Book" "tokens" "LPlankBridge$Tokens;" host ∈ lw_tbl) (hdg : decode cc pc = .ok (.getfield index, 3)) (kk : W p l e R s m args below meth c H locs cells slots Q (F0 m (pc + 3) ls (.ref (E.2.1 (b + 12)) :: rest))) : W p l e R s m args below meth c H locs cells slots Q (F0 m pc ls (.ref (E.2.1 b) :: rest)) := by
  obtain ⟨q0, -, he⟩ := wd_at hm (e1 (E := E) (st := st) hb)
  exact va_getN (D := E.1) (C := RX1) (T := TX1) (N := 16) C.1 C.2.1 C.2.2.2.2.1 in1 C.2.2.2.1 C.2.2.2.2.2.1 hP q0 he rfl 0 (by decide) (C.Tn q) (fun _ h9 => h9) f1_0 hdg kk
theorem gf1_1 (C : Cx E L own cc nL p s m args c) (hP : va_P E.1 vwCl (wd E L st) H) {b index : Nat} (hb : kd b = 1) (hm : b ∈ L) (q : .fieldLink own index "PlankBridge$Book" "walkerNames" "[J" ∈ lw_tbl) (hdg : decode cc pc = .ok (.getfield index, 3)) (kk : W p l e R s m args below meth c H locs cells slots Q (F0 m (pc + 3) ls (.ref (E.2.1 (b + 1)) :: rest))) : W p l e R s m args below meth c H locs cells slots Q (F0 m pc ls (.ref (E.2.1 b) :: rest)) := by
  obtain ⟨q0, -, he⟩ := wd_at hm (e1 (E := E) (st := st) hb)
  exact va_get (D := E.1) (C := RX1) (T := TX1) (N := 16) C.1 C.2.1 C.2.2.2.2.1 in1 C.2.2.2.1 C.2.2.2.2.2.1 hP q0 he rfl 1 (by decide) (C.T q) (fun _ h9 => h9) f1_1 hdg kk
theorem gf1_2 (C : Cx E L own cc nL p s m args c) (hP : va_P E.1 vwCl (wd E L st) H) {b index : Nat} (hb : kd b = 1) (hm : b ∈ L) (q : .fieldLink own index "PlankBridge$Book" "weights" "[I" ∈ lw_tbl) (hdg : decode cc pc = .ok (.getfield index, 3)) (kk : W p l e R s m args below meth c H locs cells slots Q (F0 m (pc + 3) ls (.ref (E.2.1 (b + 2)) :: rest))) : W p l e R s m args below meth c H locs cells slots Q (F0 m pc ls (.ref (E.2.1 b) :: rest)) := by
  obtain ⟨q0, -, he⟩ := wd_at hm (e1 (E := E) (st := st) hb)
  exact va_get (D := E.1) (C := RX1) (T := TX1) (N := 16) C.1 C.2.1 C.2.2.2.2.1 in1 C.2.2.2.1 C.2.2.2.2.2.1 hP q0 he rfl 2 (by decide) (C.T q) (fun _ h9 => h9) f1_2 hdg kk
theorem gn1_2 (C : Cx E L own cc nL p s m args c) (hP : va_P E.1 vwCl (wd E L st) H) {b index : Nat} (hb : kd b = 1) (hm : b ∈ L) (q : .fieldLinkNest own index "PlankBridge$Book" "weights" "[I" host ∈ lw_tbl) (hdg : decode cc pc = .ok (.getfield index, 3)) (kk : W p l e R s m args below meth c H locs cells slots Q (F0 m (pc + 3) ls (.ref (E.2.1 (b + 2)) :: rest))) : W p l e R s m args below meth c H locs cells slots Q (F0 m pc ls (.ref (E.2.1 b) :: rest)) := by
  obtain ⟨q0, -, he⟩ := wd_at hm (e1 (E := E) (st := st) hb)
  exact va_getN (D := E.1) (C := RX1) (T := TX1) (N := 16) C.1 C.2.1 C.2.2.2.2.1 in1 C.2.2.2.1 C.2.2.2.2.2.1 hP q0 he rfl 2 (by decide) (C.Tn q) (fun _ h9 => h9) f1_2 hdg kk
theorem gf1_3 (C : Cx E L own cc nL p s m args c) (hP : va_P E.1 vwCl (wd E L st) H) {b index : Nat} (hb : kd b = 1) (hm : b ∈ L) (q : .fieldLink own index "PlankBridge$Book" "paces" "[I" ∈ lw_tbl) (hdg : decode cc pc = .ok (.getfield index, 3)) (kk : W p l e R s m args below meth c H locs cells slots Q (F0 m (pc + 3) ls (.ref (E.2.1 (b + 3)) :: rest))) : W p l e R s m args below meth c H locs cells slots Q (F0 m pc ls (.ref (E.2.1 b) :: rest)) := by
  obtain ⟨q0, -, he⟩ := wd_at hm (e1 (E := E) (st := st) hb)
  exact va_get (D := E.1) (C := RX1) (T := TX1) (N := 16) C.1 C.2.1 C.2.2.2.2.1 in1 C.2.2.2.1 C.2.2.2.2.2.1 hP q0 he rfl 3 (by decide) (C.T q) (fun _ h9 => h9) f1_3 hdg kk
theorem gn1_3 (C : Cx E L own cc nL p s m args c) (hP : va_P E.1 vwCl (wd E L st) H) {b index : Nat} (hb : kd b = 1) (hm : b ∈ L) (q : .fieldLinkNest own index "PlankBridge$Book" "paces" "[I" host ∈ lw_tbl) (hdg : decode cc pc = .ok (.getfield index, 3)) (kk : W p l e R s m args below meth c H locs cells slots Q (F0 m (pc + 3) ls (.ref (E.2.1 (b + 3)) :: rest))) : W p l e R s m args below meth c H locs cells slots Q (F0 m pc ls (.ref (E.2.1 b) :: rest)) := by
  obtain ⟨q0, -, he⟩ := wd_at hm (e1 (E := E) (st := st) hb)
  exact va_getN (D := E.1) (C := RX1) (T := TX1) (N := 16) C.1 C.2.1 C.2.2.2.2.1 in1 C.2.2.2.1 C.2.2.2.2.2.1 hP q0 he rfl 3 (by decide) (C.Tn q) (fun _ h9 => h9) f1_3 hdg kk
theorem gf1_4 (C : Cx E L own cc nL p s m args c) (hP : va_P E.1 vwCl (wd E L st) H) {b index : Nat} (hb : kd b = 1) (hm : b ∈ L) (q : .fieldLink own index "PlankBridge$Book" "walkers" "I" ∈ lw_tbl) (hdg : decode cc pc = .ok (.getfield index, 3)) (kk : W p l e R s m args below meth c H locs cells slots Q (F0 m (pc + 3) ls (.int (gI st b 4) :: rest))) : W p l e R s m args below meth c H locs cells slots Q (F0 m pc ls (.ref (E.2.1 b) :: rest)) := by
  obtain ⟨q0, -, he⟩ := wd_at hm (e1 (E := E) (st := st) hb)
  exact va_get (D := E.1) (C := RX1) (T := TX1) (N := 16) C.1 C.2.1 C.2.2.2.2.1 in1 C.2.2.2.1 C.2.2.2.2.2.1 hP q0 he rfl 4 (by decide) (C.T q) (fun _ h9 => h9) f1_4 hdg kk
theorem pf1_4 (C : Cx E L own cc nL p s m args c) (hP : va_P E.1 vwCl (wd E L st) H) (hS : va_S (fA E L s.heap.size) s.heap H locs) {b index : Nat} (hb : kd b = 1) (hm : b ∈ L) {v : Int32} (q : .fieldLink own index "PlankBridge$Book" "walkers" "I" ∈ lw_tbl) (hdg : decode cc pc = .ok (.putfield index, 3)) (kk : ∀ (H1 : Heap) (locs1 : List Loc), va_P E.1 vwCl (wd E L (uI st b 4 v)) H1 → va_S (fA E L s.heap.size) s.heap H1 locs1 → W p l e R s m args below meth c H1 locs1 cells slots Q (F0 m (pc + 3) ls rest)) : W p l e R s m args below meth c H locs cells slots Q (F0 m pc ls (.int v :: .ref (E.2.1 b) :: rest)) := by
  obtain ⟨q0, hq, he⟩ := wd_at hm (e1 (E := E) (st := st) hb)
  refine va_put (D := E.1) (C := RX1) (T := TX1) (N := 16) (ty := .int) C.1 C.2.1 C.2.2.2.2.1 in1 tyX1 tyX1_ok nmX1 C.2.2.2.1 C.2.2.2.2.2.1 hP C.D hS q0 he rfl 4 (by decide) (C.T q) (fun _ h9 => h9) rfl (by decide +kernel) rfl rfl (Nat.le_of_ble_eq_true rfl) hdg (fun H1 locs1 hP1 hD1 hS1 => kk H1 locs1 ?_ hS1)
  rw [wd_set (st' := uI st b 4 v) C.N hq ?_ sI_o] at hP1
  · exact hP1
  · rw [e1 hb, s1_4]
theorem gn1_4 (C : Cx E L own cc nL p s m args c) (hP : va_P E.1 vwCl (wd E L st) H) {b index : Nat} (hb : kd b = 1) (hm : b ∈ L) (q : .fieldLinkNest own index "PlankBridge$Book" "walkers" "I" host ∈ lw_tbl) (hdg : decode cc pc = .ok (.getfield index, 3)) (kk : W p l e R s m args below meth c H locs cells slots Q (F0 m (pc + 3) ls (.int (gI st b 4) :: rest))) : W p l e R s m args below meth c H locs cells slots Q (F0 m pc ls (.ref (E.2.1 b) :: rest)) := by
  obtain ⟨q0, -, he⟩ := wd_at hm (e1 (E := E) (st := st) hb)
  exact va_getN (D := E.1) (C := RX1) (T := TX1) (N := 16) C.1 C.2.1 C.2.2.2.2.1 in1 C.2.2.2.1 C.2.2.2.2.2.1 hP q0 he rfl 4 (by decide) (C.Tn q) (fun _ h9 => h9) f1_4 hdg kk
theorem pn1_4 (C : Cx E L own cc nL p s m args c) (hP : va_P E.1 vwCl (wd E L st) H) (hS : va_S (fA E L s.heap.size) s.heap H locs) {b index : Nat} (hb : kd b = 1) (hm : b ∈ L) {v : Int32} (q : .fieldLinkNest own index "PlankBridge$Book" "walkers" "I" host ∈ lw_tbl) (hdg : decode cc pc = .ok (.putfield index, 3)) (kk : ∀ (H1 : Heap) (locs1 : List Loc), va_P E.1 vwCl (wd E L (uI st b 4 v)) H1 → va_S (fA E L s.heap.size) s.heap H1 locs1 → W p l e R s m args below meth c H1 locs1 cells slots Q (F0 m (pc + 3) ls rest)) : W p l e R s m args below meth c H locs cells slots Q (F0 m pc ls (.int v :: .ref (E.2.1 b) :: rest)) := by
  obtain ⟨q0, hq, he⟩ := wd_at hm (e1 (E := E) (st := st) hb)
  refine va_putN (D := E.1) (C := RX1) (T := TX1) (N := 16) (ty := .int) C.1 C.2.1 C.2.2.2.2.1 in1 tyX1 tyX1_ok nmX1 C.2.2.2.1 C.2.2.2.2.2.1 hP C.D hS q0 he rfl 4 (by decide) (C.Tn q) (fun _ h9 => h9) rfl (by decide +kernel) rfl rfl (Nat.le_of_ble_eq_true rfl) hdg (fun H1 locs1 hP1 hD1 hS1 => kk H1 locs1 ?_ hS1)
  rw [wd_set (st' := uI st b 4 v) C.N hq ?_ sI_o] at hP1
  · exact hP1
  · rw [e1 hb, s1_4]
theorem gf1_5 (C : Cx E L own cc nL p s m args c) (hP : va_P E.1 vwCl (wd E L st) H) {b index : Nat} (hb : kd b = 1) (hm : b ∈ L) (q : .fieldLink own index "PlankBridge$Book" "strengths" "[I" ∈ lw_tbl) (hdg : decode cc pc = .ok (.getfield index, 3)) (kk : W p l e R s m args below meth c H locs cells slots Q (F0 m (pc + 3) ls (.ref (E.2.1 (b + 4)) :: rest))) : W p l e R s m args below meth c H locs cells slots Q (F0 m pc ls (.ref (E.2.1 b) :: rest)) := by
  obtain ⟨q0, -, he⟩ := wd_at hm (e1 (E := E) (st := st) hb)
  exact va_get (D := E.1) (C := RX1) (T := TX1) (N := 16) C.1 C.2.1 C.2.2.2.2.1 in1 C.2.2.2.1 C.2.2.2.2.2.1 hP q0 he rfl 5 (by decide) (C.T q) (fun _ h9 => h9) f1_5 hdg kk
theorem gn1_5 (C : Cx E L own cc nL p s m args c) (hP : va_P E.1 vwCl (wd E L st) H) {b index : Nat} (hb : kd b = 1) (hm : b ∈ L) (q : .fieldLinkNest own index "PlankBridge$Book" "strengths" "[I" host ∈ lw_tbl) (hdg : decode cc pc = .ok (.getfield index, 3)) (kk : W p l e R s m args below meth c H locs cells slots Q (F0 m (pc + 3) ls (.ref (E.2.1 (b + 4)) :: rest))) : W p l e R s m args below meth c H locs cells slots Q (F0 m pc ls (.ref (E.2.1 b) :: rest)) := by
  obtain ⟨q0, -, he⟩ := wd_at hm (e1 (E := E) (st := st) hb)
  exact va_getN (D := E.1) (C := RX1) (T := TX1) (N := 16) C.1 C.2.1 C.2.2.2.2.1 in1 C.2.2.2.1 C.2.2.2.2.2.1 hP q0 he rfl 5 (by decide) (C.Tn q) (fun _ h9 => h9) f1_5 hdg kk
theorem gf1_6 (C : Cx E L own cc nL p s m args c) (hP : va_P E.1 vwCl (wd E L st) H) {b index : Nat} (hb : kd b = 1) (hm : b ∈ L) (q : .fieldLink own index "PlankBridge$Book" "planks" "I" ∈ lw_tbl) (hdg : decode cc pc = .ok (.getfield index, 3)) (kk : W p l e R s m args below meth c H locs cells slots Q (F0 m (pc + 3) ls (.int (gI st b 6) :: rest))) : W p l e R s m args below meth c H locs cells slots Q (F0 m pc ls (.ref (E.2.1 b) :: rest)) := by
  obtain ⟨q0, -, he⟩ := wd_at hm (e1 (E := E) (st := st) hb)
  exact va_get (D := E.1) (C := RX1) (T := TX1) (N := 16) C.1 C.2.1 C.2.2.2.2.1 in1 C.2.2.2.1 C.2.2.2.2.2.1 hP q0 he rfl 6 (by decide) (C.T q) (fun _ h9 => h9) f1_6 hdg kk
theorem pf1_6 (C : Cx E L own cc nL p s m args c) (hP : va_P E.1 vwCl (wd E L st) H) (hS : va_S (fA E L s.heap.size) s.heap H locs) {b index : Nat} (hb : kd b = 1) (hm : b ∈ L) {v : Int32} (q : .fieldLink own index "PlankBridge$Book" "planks" "I" ∈ lw_tbl) (hdg : decode cc pc = .ok (.putfield index, 3)) (kk : ∀ (H1 : Heap) (locs1 : List Loc), va_P E.1 vwCl (wd E L (uI st b 6 v)) H1 → va_S (fA E L s.heap.size) s.heap H1 locs1 → W p l e R s m args below meth c H1 locs1 cells slots Q (F0 m (pc + 3) ls rest)) : W p l e R s m args below meth c H locs cells slots Q (F0 m pc ls (.int v :: .ref (E.2.1 b) :: rest)) := by
  obtain ⟨q0, hq, he⟩ := wd_at hm (e1 (E := E) (st := st) hb)
  refine va_put (D := E.1) (C := RX1) (T := TX1) (N := 16) (ty := .int) C.1 C.2.1 C.2.2.2.2.1 in1 tyX1 tyX1_ok nmX1 C.2.2.2.1 C.2.2.2.2.2.1 hP C.D hS q0 he rfl 6 (by decide) (C.T q) (fun _ h9 => h9) rfl (by decide +kernel) rfl rfl (Nat.le_of_ble_eq_true rfl) hdg (fun H1 locs1 hP1 hD1 hS1 => kk H1 locs1 ?_ hS1)
  rw [wd_set (st' := uI st b 6 v) C.N hq ?_ sI_o] at hP1
  · exact hP1
  · rw [e1 hb, s1_6]
theorem gn1_6 (C : Cx E L own cc nL p s m args c) (hP : va_P E.1 vwCl (wd E L st) H) {b index : Nat} (hb : kd b = 1) (hm : b ∈ L) (q : .fieldLinkNest own index "PlankBridge$Book" "planks" "I" host ∈ lw_tbl) (hdg : decode cc pc = .ok (.getfield index, 3)) (kk : W p l e R s m args below meth c H locs cells slots Q (F0 m (pc + 3) ls (.int (gI st b 6) :: rest))) : W p l e R s m args below meth c H locs cells slots Q (F0 m pc ls (.ref (E.2.1 b) :: rest)) := by
  obtain ⟨q0, -, he⟩ := wd_at hm (e1 (E := E) (st := st) hb)
  exact va_getN (D := E.1) (C := RX1) (T := TX1) (N := 16) C.1 C.2.1 C.2.2.2.2.1 in1 C.2.2.2.1 C.2.2.2.2.2.1 hP q0 he rfl 6 (by decide) (C.Tn q) (fun _ h9 => h9) f1_6 hdg kk
theorem pn1_6 (C : Cx E L own cc nL p s m args c) (hP : va_P E.1 vwCl (wd E L st) H) (hS : va_S (fA E L s.heap.size) s.heap H locs) {b index : Nat} (hb : kd b = 1) (hm : b ∈ L) {v : Int32} (q : .fieldLinkNest own index "PlankBridge$Book" "planks" "I" host ∈ lw_tbl) (hdg : decode cc pc = .ok (.putfield index, 3)) (kk : ∀ (H1 : Heap) (locs1 : List Loc), va_P E.1 vwCl (wd E L (uI st b 6 v)) H1 → va_S (fA E L s.heap.size) s.heap H1 locs1 → W p l e R s m args below meth c H1 locs1 cells slots Q (F0 m (pc + 3) ls rest)) : W p l e R s m args below meth c H locs cells slots Q (F0 m pc ls (.int v :: .ref (E.2.1 b) :: rest)) := by
  obtain ⟨q0, hq, he⟩ := wd_at hm (e1 (E := E) (st := st) hb)
  refine va_putN (D := E.1) (C := RX1) (T := TX1) (N := 16) (ty := .int) C.1 C.2.1 C.2.2.2.2.1 in1 tyX1 tyX1_ok nmX1 C.2.2.2.1 C.2.2.2.2.2.1 hP C.D hS q0 he rfl 6 (by decide) (C.Tn q) (fun _ h9 => h9) rfl (by decide +kernel) rfl rfl (Nat.le_of_ble_eq_true rfl) hdg (fun H1 locs1 hP1 hD1 hS1 => kk H1 locs1 ?_ hS1)
  rw [wd_set (st' := uI st b 6 v) C.N hq ?_ sI_o] at hP1
  · exact hP1
  · rw [e1 hb, s1_6]
theorem gf1_7 (C : Cx E L own cc nL p s m args c) (hP : va_P E.1 vwCl (wd E L st) H) {b index : Nat} (hb : kd b = 1) (hm : b ∈ L) (q : .fieldLink own index "PlankBridge$Book" "planNames" "[J" ∈ lw_tbl) (hdg : decode cc pc = .ok (.getfield index, 3)) (kk : W p l e R s m args below meth c H locs cells slots Q (F0 m (pc + 3) ls (.ref (E.2.1 (b + 5)) :: rest))) : W p l e R s m args below meth c H locs cells slots Q (F0 m pc ls (.ref (E.2.1 b) :: rest)) := by
  obtain ⟨q0, -, he⟩ := wd_at hm (e1 (E := E) (st := st) hb)
  exact va_get (D := E.1) (C := RX1) (T := TX1) (N := 16) C.1 C.2.1 C.2.2.2.2.1 in1 C.2.2.2.1 C.2.2.2.2.2.1 hP q0 he rfl 7 (by decide) (C.T q) (fun _ h9 => h9) f1_7 hdg kk
theorem gf1_8 (C : Cx E L own cc nL p s m args c) (hP : va_P E.1 vwCl (wd E L st) H) {b index : Nat} (hb : kd b = 1) (hm : b ∈ L) (q : .fieldLink own index "PlankBridge$Book" "planActs" "[I" ∈ lw_tbl) (hdg : decode cc pc = .ok (.getfield index, 3)) (kk : W p l e R s m args below meth c H locs cells slots Q (F0 m (pc + 3) ls (.ref (E.2.1 (b + 6)) :: rest))) : W p l e R s m args below meth c H locs cells slots Q (F0 m pc ls (.ref (E.2.1 b) :: rest)) := by
  obtain ⟨q0, -, he⟩ := wd_at hm (e1 (E := E) (st := st) hb)
  exact va_get (D := E.1) (C := RX1) (T := TX1) (N := 16) C.1 C.2.1 C.2.2.2.2.1 in1 C.2.2.2.1 C.2.2.2.2.2.1 hP q0 he rfl 8 (by decide) (C.T q) (fun _ h9 => h9) f1_8 hdg kk
theorem gf1_9 (C : Cx E L own cc nL p s m args c) (hP : va_P E.1 vwCl (wd E L st) H) {b index : Nat} (hb : kd b = 1) (hm : b ∈ L) (q : .fieldLink own index "PlankBridge$Book" "plans" "I" ∈ lw_tbl) (hdg : decode cc pc = .ok (.getfield index, 3)) (kk : W p l e R s m args below meth c H locs cells slots Q (F0 m (pc + 3) ls (.int (gI st b 9) :: rest))) : W p l e R s m args below meth c H locs cells slots Q (F0 m pc ls (.ref (E.2.1 b) :: rest)) := by
  obtain ⟨q0, -, he⟩ := wd_at hm (e1 (E := E) (st := st) hb)
  exact va_get (D := E.1) (C := RX1) (T := TX1) (N := 16) C.1 C.2.1 C.2.2.2.2.1 in1 C.2.2.2.1 C.2.2.2.2.2.1 hP q0 he rfl 9 (by decide) (C.T q) (fun _ h9 => h9) f1_9 hdg kk
theorem pf1_9 (C : Cx E L own cc nL p s m args c) (hP : va_P E.1 vwCl (wd E L st) H) (hS : va_S (fA E L s.heap.size) s.heap H locs) {b index : Nat} (hb : kd b = 1) (hm : b ∈ L) {v : Int32} (q : .fieldLink own index "PlankBridge$Book" "plans" "I" ∈ lw_tbl) (hdg : decode cc pc = .ok (.putfield index, 3)) (kk : ∀ (H1 : Heap) (locs1 : List Loc), va_P E.1 vwCl (wd E L (uI st b 9 v)) H1 → va_S (fA E L s.heap.size) s.heap H1 locs1 → W p l e R s m args below meth c H1 locs1 cells slots Q (F0 m (pc + 3) ls rest)) : W p l e R s m args below meth c H locs cells slots Q (F0 m pc ls (.int v :: .ref (E.2.1 b) :: rest)) := by
  obtain ⟨q0, hq, he⟩ := wd_at hm (e1 (E := E) (st := st) hb)
  refine va_put (D := E.1) (C := RX1) (T := TX1) (N := 16) (ty := .int) C.1 C.2.1 C.2.2.2.2.1 in1 tyX1 tyX1_ok nmX1 C.2.2.2.1 C.2.2.2.2.2.1 hP C.D hS q0 he rfl 9 (by decide) (C.T q) (fun _ h9 => h9) rfl (by decide +kernel) rfl rfl (Nat.le_of_ble_eq_true rfl) hdg (fun H1 locs1 hP1 hD1 hS1 => kk H1 locs1 ?_ hS1)
  rw [wd_set (st' := uI st b 9 v) C.N hq ?_ sI_o] at hP1
  · exact hP1
  · rw [e1 hb, s1_9]
theorem gn1_9 (C : Cx E L own cc nL p s m args c) (hP : va_P E.1 vwCl (wd E L st) H) {b index : Nat} (hb : kd b = 1) (hm : b ∈ L) (q : .fieldLinkNest own index "PlankBridge$Book" "plans" "I" host ∈ lw_tbl) (hdg : decode cc pc = .ok (.getfield index, 3)) (kk : W p l e R s m args below meth c H locs cells slots Q (F0 m (pc + 3) ls (.int (gI st b 9) :: rest))) : W p l e R s m args below meth c H locs cells slots Q (F0 m pc ls (.ref (E.2.1 b) :: rest)) := by
  obtain ⟨q0, -, he⟩ := wd_at hm (e1 (E := E) (st := st) hb)
  exact va_getN (D := E.1) (C := RX1) (T := TX1) (N := 16) C.1 C.2.1 C.2.2.2.2.1 in1 C.2.2.2.1 C.2.2.2.2.2.1 hP q0 he rfl 9 (by decide) (C.Tn q) (fun _ h9 => h9) f1_9 hdg kk
theorem pn1_9 (C : Cx E L own cc nL p s m args c) (hP : va_P E.1 vwCl (wd E L st) H) (hS : va_S (fA E L s.heap.size) s.heap H locs) {b index : Nat} (hb : kd b = 1) (hm : b ∈ L) {v : Int32} (q : .fieldLinkNest own index "PlankBridge$Book" "plans" "I" host ∈ lw_tbl) (hdg : decode cc pc = .ok (.putfield index, 3)) (kk : ∀ (H1 : Heap) (locs1 : List Loc), va_P E.1 vwCl (wd E L (uI st b 9 v)) H1 → va_S (fA E L s.heap.size) s.heap H1 locs1 → W p l e R s m args below meth c H1 locs1 cells slots Q (F0 m (pc + 3) ls rest)) : W p l e R s m args below meth c H locs cells slots Q (F0 m pc ls (.int v :: .ref (E.2.1 b) :: rest)) := by
  obtain ⟨q0, hq, he⟩ := wd_at hm (e1 (E := E) (st := st) hb)
  refine va_putN (D := E.1) (C := RX1) (T := TX1) (N := 16) (ty := .int) C.1 C.2.1 C.2.2.2.2.1 in1 tyX1 tyX1_ok nmX1 C.2.2.2.1 C.2.2.2.2.2.1 hP C.D hS q0 he rfl 9 (by decide) (C.Tn q) (fun _ h9 => h9) rfl (by decide +kernel) rfl rfl (Nat.le_of_ble_eq_true rfl) hdg (fun H1 locs1 hP1 hD1 hS1 => kk H1 locs1 ?_ hS1)
  rw [wd_set (st' := uI st b 9 v) C.N hq ?_ sI_o] at hP1
  · exact hP1
  · rw [e1 hb, s1_9]
theorem gf1_10 (C : Cx E L own cc nL p s m args c) (hP : va_P E.1 vwCl (wd E L st) H) {b index : Nat} (hb : kd b = 1) (hm : b ∈ L) (q : .fieldLink own index "PlankBridge$Book" "actTokens" "[I" ∈ lw_tbl) (hdg : decode cc pc = .ok (.getfield index, 3)) (kk : W p l e R s m args below meth c H locs cells slots Q (F0 m (pc + 3) ls (.ref (E.2.1 (b + 7)) :: rest))) : W p l e R s m args below meth c H locs cells slots Q (F0 m pc ls (.ref (E.2.1 b) :: rest)) := by
  obtain ⟨q0, -, he⟩ := wd_at hm (e1 (E := E) (st := st) hb)
  exact va_get (D := E.1) (C := RX1) (T := TX1) (N := 16) C.1 C.2.1 C.2.2.2.2.1 in1 C.2.2.2.1 C.2.2.2.2.2.1 hP q0 he rfl 10 (by decide) (C.T q) (fun _ h9 => h9) f1_10 hdg kk
theorem gn1_10 (C : Cx E L own cc nL p s m args c) (hP : va_P E.1 vwCl (wd E L st) H) {b index : Nat} (hb : kd b = 1) (hm : b ∈ L) (q : .fieldLinkNest own index "PlankBridge$Book" "actTokens" "[I" host ∈ lw_tbl) (hdg : decode cc pc = .ok (.getfield index, 3)) (kk : W p l e R s m args below meth c H locs cells slots Q (F0 m (pc + 3) ls (.ref (E.2.1 (b + 7)) :: rest))) : W p l e R s m args below meth c H locs cells slots Q (F0 m pc ls (.ref (E.2.1 b) :: rest)) := by
  obtain ⟨q0, -, he⟩ := wd_at hm (e1 (E := E) (st := st) hb)
  exact va_getN (D := E.1) (C := RX1) (T := TX1) (N := 16) C.1 C.2.1 C.2.2.2.2.1 in1 C.2.2.2.1 C.2.2.2.2.2.1 hP q0 he rfl 10 (by decide) (C.Tn q) (fun _ h9 => h9) f1_10 hdg kk
theorem gf1_11 (C : Cx E L own cc nL p s m args c) (hP : va_P E.1 vwCl (wd E L st) H) {b index : Nat} (hb : kd b = 1) (hm : b ∈ L) (q : .fieldLink own index "PlankBridge$Book" "outerActs" "[I" ∈ lw_tbl) (hdg : decode cc pc = .ok (.getfield index, 3)) (kk : W p l e R s m args below meth c H locs cells slots Q (F0 m (pc + 3) ls (.ref (E.2.1 (b + 8)) :: rest))) : W p l e R s m args below meth c H locs cells slots Q (F0 m pc ls (.ref (E.2.1 b) :: rest)) := by
  obtain ⟨q0, -, he⟩ := wd_at hm (e1 (E := E) (st := st) hb)
  exact va_get (D := E.1) (C := RX1) (T := TX1) (N := 16) C.1 C.2.1 C.2.2.2.2.1 in1 C.2.2.2.1 C.2.2.2.2.2.1 hP q0 he rfl 11 (by decide) (C.T q) (fun _ h9 => h9) f1_11 hdg kk
theorem gf1_12 (C : Cx E L own cc nL p s m args c) (hP : va_P E.1 vwCl (wd E L st) H) {b index : Nat} (hb : kd b = 1) (hm : b ∈ L) (q : .fieldLink own index "PlankBridge$Book" "nextActs" "[I" ∈ lw_tbl) (hdg : decode cc pc = .ok (.getfield index, 3)) (kk : W p l e R s m args below meth c H locs cells slots Q (F0 m (pc + 3) ls (.ref (E.2.1 (b + 9)) :: rest))) : W p l e R s m args below meth c H locs cells slots Q (F0 m pc ls (.ref (E.2.1 b) :: rest)) := by
  obtain ⟨q0, -, he⟩ := wd_at hm (e1 (E := E) (st := st) hb)
  exact va_get (D := E.1) (C := RX1) (T := TX1) (N := 16) C.1 C.2.1 C.2.2.2.2.1 in1 C.2.2.2.1 C.2.2.2.2.2.1 hP q0 he rfl 12 (by decide) (C.T q) (fun _ h9 => h9) f1_12 hdg kk
theorem gn1_12 (C : Cx E L own cc nL p s m args c) (hP : va_P E.1 vwCl (wd E L st) H) {b index : Nat} (hb : kd b = 1) (hm : b ∈ L) (q : .fieldLinkNest own index "PlankBridge$Book" "nextActs" "[I" host ∈ lw_tbl) (hdg : decode cc pc = .ok (.getfield index, 3)) (kk : W p l e R s m args below meth c H locs cells slots Q (F0 m (pc + 3) ls (.ref (E.2.1 (b + 9)) :: rest))) : W p l e R s m args below meth c H locs cells slots Q (F0 m pc ls (.ref (E.2.1 b) :: rest)) := by
  obtain ⟨q0, -, he⟩ := wd_at hm (e1 (E := E) (st := st) hb)
  exact va_getN (D := E.1) (C := RX1) (T := TX1) (N := 16) C.1 C.2.1 C.2.2.2.2.1 in1 C.2.2.2.1 C.2.2.2.2.2.1 hP q0 he rfl 12 (by decide) (C.Tn q) (fun _ h9 => h9) f1_12 hdg kk
theorem gf1_13 (C : Cx E L own cc nL p s m args c) (hP : va_P E.1 vwCl (wd E L st) H) {b index : Nat} (hb : kd b = 1) (hm : b ∈ L) (q : .fieldLink own index "PlankBridge$Book" "innerActs" "[I" ∈ lw_tbl) (hdg : decode cc pc = .ok (.getfield index, 3)) (kk : W p l e R s m args below meth c H locs cells slots Q (F0 m (pc + 3) ls (.ref (E.2.1 (b + 10)) :: rest))) : W p l e R s m args below meth c H locs cells slots Q (F0 m pc ls (.ref (E.2.1 b) :: rest)) := by
  obtain ⟨q0, -, he⟩ := wd_at hm (e1 (E := E) (st := st) hb)
  exact va_get (D := E.1) (C := RX1) (T := TX1) (N := 16) C.1 C.2.1 C.2.2.2.2.1 in1 C.2.2.2.1 C.2.2.2.2.2.1 hP q0 he rfl 13 (by decide) (C.T q) (fun _ h9 => h9) f1_13 hdg kk
theorem gn1_13 (C : Cx E L own cc nL p s m args c) (hP : va_P E.1 vwCl (wd E L st) H) {b index : Nat} (hb : kd b = 1) (hm : b ∈ L) (q : .fieldLinkNest own index "PlankBridge$Book" "innerActs" "[I" host ∈ lw_tbl) (hdg : decode cc pc = .ok (.getfield index, 3)) (kk : W p l e R s m args below meth c H locs cells slots Q (F0 m (pc + 3) ls (.ref (E.2.1 (b + 10)) :: rest))) : W p l e R s m args below meth c H locs cells slots Q (F0 m pc ls (.ref (E.2.1 b) :: rest)) := by
  obtain ⟨q0, -, he⟩ := wd_at hm (e1 (E := E) (st := st) hb)
  exact va_getN (D := E.1) (C := RX1) (T := TX1) (N := 16) C.1 C.2.1 C.2.2.2.2.1 in1 C.2.2.2.1 C.2.2.2.2.2.1 hP q0 he rfl 13 (by decide) (C.Tn q) (fun _ h9 => h9) f1_13 hdg kk
theorem gf1_14 (C : Cx E L own cc nL p s m args c) (hP : va_P E.1 vwCl (wd E L st) H) {b index : Nat} (hb : kd b = 1) (hm : b ∈ L) (q : .fieldLink own index "PlankBridge$Book" "elseActs" "[I" ∈ lw_tbl) (hdg : decode cc pc = .ok (.getfield index, 3)) (kk : W p l e R s m args below meth c H locs cells slots Q (F0 m (pc + 3) ls (.ref (E.2.1 (b + 11)) :: rest))) : W p l e R s m args below meth c H locs cells slots Q (F0 m pc ls (.ref (E.2.1 b) :: rest)) := by
  obtain ⟨q0, -, he⟩ := wd_at hm (e1 (E := E) (st := st) hb)
  exact va_get (D := E.1) (C := RX1) (T := TX1) (N := 16) C.1 C.2.1 C.2.2.2.2.1 in1 C.2.2.2.1 C.2.2.2.2.2.1 hP q0 he rfl 14 (by decide) (C.T q) (fun _ h9 => h9) f1_14 hdg kk
theorem gn1_14 (C : Cx E L own cc nL p s m args c) (hP : va_P E.1 vwCl (wd E L st) H) {b index : Nat} (hb : kd b = 1) (hm : b ∈ L) (q : .fieldLinkNest own index "PlankBridge$Book" "elseActs" "[I" host ∈ lw_tbl) (hdg : decode cc pc = .ok (.getfield index, 3)) (kk : W p l e R s m args below meth c H locs cells slots Q (F0 m (pc + 3) ls (.ref (E.2.1 (b + 11)) :: rest))) : W p l e R s m args below meth c H locs cells slots Q (F0 m pc ls (.ref (E.2.1 b) :: rest)) := by
  obtain ⟨q0, -, he⟩ := wd_at hm (e1 (E := E) (st := st) hb)
  exact va_getN (D := E.1) (C := RX1) (T := TX1) (N := 16) C.1 C.2.1 C.2.2.2.2.1 in1 C.2.2.2.1 C.2.2.2.2.2.1 hP q0 he rfl 14 (by decide) (C.Tn q) (fun _ h9 => h9) f1_14 hdg kk
theorem gf1_15 (C : Cx E L own cc nL p s m args c) (hP : va_P E.1 vwCl (wd E L st) H) {b index : Nat} (hb : kd b = 1) (hm : b ∈ L) (q : .fieldLink own index "PlankBridge$Book" "acts" "I" ∈ lw_tbl) (hdg : decode cc pc = .ok (.getfield index, 3)) (kk : W p l e R s m args below meth c H locs cells slots Q (F0 m (pc + 3) ls (.int (gI st b 15) :: rest))) : W p l e R s m args below meth c H locs cells slots Q (F0 m pc ls (.ref (E.2.1 b) :: rest)) := by
  obtain ⟨q0, -, he⟩ := wd_at hm (e1 (E := E) (st := st) hb)
  exact va_get (D := E.1) (C := RX1) (T := TX1) (N := 16) C.1 C.2.1 C.2.2.2.2.1 in1 C.2.2.2.1 C.2.2.2.2.2.1 hP q0 he rfl 15 (by decide) (C.T q) (fun _ h9 => h9) f1_15 hdg kk
theorem pf1_15 (C : Cx E L own cc nL p s m args c) (hP : va_P E.1 vwCl (wd E L st) H) (hS : va_S (fA E L s.heap.size) s.heap H locs) {b index : Nat} (hb : kd b = 1) (hm : b ∈ L) {v : Int32} (q : .fieldLink own index "PlankBridge$Book" "acts" "I" ∈ lw_tbl) (hdg : decode cc pc = .ok (.putfield index, 3)) (kk : ∀ (H1 : Heap) (locs1 : List Loc), va_P E.1 vwCl (wd E L (uI st b 15 v)) H1 → va_S (fA E L s.heap.size) s.heap H1 locs1 → W p l e R s m args below meth c H1 locs1 cells slots Q (F0 m (pc + 3) ls rest)) : W p l e R s m args below meth c H locs cells slots Q (F0 m pc ls (.int v :: .ref (E.2.1 b) :: rest)) := by
  obtain ⟨q0, hq, he⟩ := wd_at hm (e1 (E := E) (st := st) hb)
  refine va_put (D := E.1) (C := RX1) (T := TX1) (N := 16) (ty := .int) C.1 C.2.1 C.2.2.2.2.1 in1 tyX1 tyX1_ok nmX1 C.2.2.2.1 C.2.2.2.2.2.1 hP C.D hS q0 he rfl 15 (by decide) (C.T q) (fun _ h9 => h9) rfl (by decide +kernel) rfl rfl (Nat.le_of_ble_eq_true rfl) hdg (fun H1 locs1 hP1 hD1 hS1 => kk H1 locs1 ?_ hS1)
  rw [wd_set (st' := uI st b 15 v) C.N hq ?_ sI_o] at hP1
  · exact hP1
  · rw [e1 hb, s1_15]
theorem gn1_15 (C : Cx E L own cc nL p s m args c) (hP : va_P E.1 vwCl (wd E L st) H) {b index : Nat} (hb : kd b = 1) (hm : b ∈ L) (q : .fieldLinkNest own index "PlankBridge$Book" "acts" "I" host ∈ lw_tbl) (hdg : decode cc pc = .ok (.getfield index, 3)) (kk : W p l e R s m args below meth c H locs cells slots Q (F0 m (pc + 3) ls (.int (gI st b 15) :: rest))) : W p l e R s m args below meth c H locs cells slots Q (F0 m pc ls (.ref (E.2.1 b) :: rest)) := by
  obtain ⟨q0, -, he⟩ := wd_at hm (e1 (E := E) (st := st) hb)
  exact va_getN (D := E.1) (C := RX1) (T := TX1) (N := 16) C.1 C.2.1 C.2.2.2.2.1 in1 C.2.2.2.1 C.2.2.2.2.2.1 hP q0 he rfl 15 (by decide) (C.Tn q) (fun _ h9 => h9) f1_15 hdg kk
theorem pn1_15 (C : Cx E L own cc nL p s m args c) (hP : va_P E.1 vwCl (wd E L st) H) (hS : va_S (fA E L s.heap.size) s.heap H locs) {b index : Nat} (hb : kd b = 1) (hm : b ∈ L) {v : Int32} (q : .fieldLinkNest own index "PlankBridge$Book" "acts" "I" host ∈ lw_tbl) (hdg : decode cc pc = .ok (.putfield index, 3)) (kk : ∀ (H1 : Heap) (locs1 : List Loc), va_P E.1 vwCl (wd E L (uI st b 15 v)) H1 → va_S (fA E L s.heap.size) s.heap H1 locs1 → W p l e R s m args below meth c H1 locs1 cells slots Q (F0 m (pc + 3) ls rest)) : W p l e R s m args below meth c H locs cells slots Q (F0 m pc ls (.int v :: .ref (E.2.1 b) :: rest)) := by
  obtain ⟨q0, hq, he⟩ := wd_at hm (e1 (E := E) (st := st) hb)
  refine va_putN (D := E.1) (C := RX1) (T := TX1) (N := 16) (ty := .int) C.1 C.2.1 C.2.2.2.2.1 in1 tyX1 tyX1_ok nmX1 C.2.2.2.1 C.2.2.2.2.2.1 hP C.D hS q0 he rfl 15 (by decide) (C.Tn q) (fun _ h9 => h9) rfl (by decide +kernel) rfl rfl (Nat.le_of_ble_eq_true rfl) hdg (fun H1 locs1 hP1 hD1 hS1 => kk H1 locs1 ?_ hS1)
  rw [wd_set (st' := uI st b 15 v) C.N hq ?_ sI_o] at hP1
  · exact hP1
  · rw [e1 hb, s1_15]
theorem gf2_0 (C : Cx E L own cc nL p s m args c) (hP : va_P E.1 vwCl (wd E L st) H) {b index : Nat} (hb : kd b = 2) (hm : b ∈ L) (q : .fieldLink own index "PlankBridge$Bridge" "walkers" "I" ∈ lw_tbl) (hdg : decode cc pc = .ok (.getfield index, 3)) (kk : W p l e R s m args below meth c H locs cells slots Q (F0 m (pc + 3) ls (.int (gI st b 0) :: rest))) : W p l e R s m args below meth c H locs cells slots Q (F0 m pc ls (.ref (E.2.1 b) :: rest)) := by
  obtain ⟨q0, -, he⟩ := wd_at hm (e2 (E := E) (st := st) hb)
  exact va_get (D := E.1) (C := RX2) (T := TX2) (N := 15) C.1 C.2.1 C.2.2.2.2.1 in2 C.2.2.2.1 C.2.2.2.2.2.1 hP q0 he rfl 0 (by decide) (C.T q) (fun _ h9 => h9) f2_0 hdg kk
theorem pf2_0 (C : Cx E L own cc nL p s m args c) (hP : va_P E.1 vwCl (wd E L st) H) (hS : va_S (fA E L s.heap.size) s.heap H locs) {b index : Nat} (hb : kd b = 2) (hm : b ∈ L) {v : Int32} (q : .fieldLink own index "PlankBridge$Bridge" "walkers" "I" ∈ lw_tbl) (hdg : decode cc pc = .ok (.putfield index, 3)) (kk : ∀ (H1 : Heap) (locs1 : List Loc), va_P E.1 vwCl (wd E L (uI st b 0 v)) H1 → va_S (fA E L s.heap.size) s.heap H1 locs1 → W p l e R s m args below meth c H1 locs1 cells slots Q (F0 m (pc + 3) ls rest)) : W p l e R s m args below meth c H locs cells slots Q (F0 m pc ls (.int v :: .ref (E.2.1 b) :: rest)) := by
  obtain ⟨q0, hq, he⟩ := wd_at hm (e2 (E := E) (st := st) hb)
  refine va_put (D := E.1) (C := RX2) (T := TX2) (N := 15) (ty := .int) C.1 C.2.1 C.2.2.2.2.1 in2 tyX2 tyX2_ok nmX2 C.2.2.2.1 C.2.2.2.2.2.1 hP C.D hS q0 he rfl 0 (by decide) (C.T q) (fun _ h9 => h9) rfl (by decide +kernel) rfl rfl (Nat.le_of_ble_eq_true rfl) hdg (fun H1 locs1 hP1 hD1 hS1 => kk H1 locs1 ?_ hS1)
  rw [wd_set (st' := uI st b 0 v) C.N hq ?_ sI_o] at hP1
  · exact hP1
  · rw [e2 hb, s2_0]
theorem gn2_0 (C : Cx E L own cc nL p s m args c) (hP : va_P E.1 vwCl (wd E L st) H) {b index : Nat} (hb : kd b = 2) (hm : b ∈ L) (q : .fieldLinkNest own index "PlankBridge$Bridge" "walkers" "I" host ∈ lw_tbl) (hdg : decode cc pc = .ok (.getfield index, 3)) (kk : W p l e R s m args below meth c H locs cells slots Q (F0 m (pc + 3) ls (.int (gI st b 0) :: rest))) : W p l e R s m args below meth c H locs cells slots Q (F0 m pc ls (.ref (E.2.1 b) :: rest)) := by
  obtain ⟨q0, -, he⟩ := wd_at hm (e2 (E := E) (st := st) hb)
  exact va_getN (D := E.1) (C := RX2) (T := TX2) (N := 15) C.1 C.2.1 C.2.2.2.2.1 in2 C.2.2.2.1 C.2.2.2.2.2.1 hP q0 he rfl 0 (by decide) (C.Tn q) (fun _ h9 => h9) f2_0 hdg kk
theorem pn2_0 (C : Cx E L own cc nL p s m args c) (hP : va_P E.1 vwCl (wd E L st) H) (hS : va_S (fA E L s.heap.size) s.heap H locs) {b index : Nat} (hb : kd b = 2) (hm : b ∈ L) {v : Int32} (q : .fieldLinkNest own index "PlankBridge$Bridge" "walkers" "I" host ∈ lw_tbl) (hdg : decode cc pc = .ok (.putfield index, 3)) (kk : ∀ (H1 : Heap) (locs1 : List Loc), va_P E.1 vwCl (wd E L (uI st b 0 v)) H1 → va_S (fA E L s.heap.size) s.heap H1 locs1 → W p l e R s m args below meth c H1 locs1 cells slots Q (F0 m (pc + 3) ls rest)) : W p l e R s m args below meth c H locs cells slots Q (F0 m pc ls (.int v :: .ref (E.2.1 b) :: rest)) := by
  obtain ⟨q0, hq, he⟩ := wd_at hm (e2 (E := E) (st := st) hb)
  refine va_putN (D := E.1) (C := RX2) (T := TX2) (N := 15) (ty := .int) C.1 C.2.1 C.2.2.2.2.1 in2 tyX2 tyX2_ok nmX2 C.2.2.2.1 C.2.2.2.2.2.1 hP C.D hS q0 he rfl 0 (by decide) (C.Tn q) (fun _ h9 => h9) rfl (by decide +kernel) rfl rfl (Nat.le_of_ble_eq_true rfl) hdg (fun H1 locs1 hP1 hD1 hS1 => kk H1 locs1 ?_ hS1)
  rw [wd_set (st' := uI st b 0 v) C.N hq ?_ sI_o] at hP1
  · exact hP1
  · rw [e2 hb, s2_0]
theorem gf2_1 (C : Cx E L own cc nL p s m args c) (hP : va_P E.1 vwCl (wd E L st) H) {b index : Nat} (hb : kd b = 2) (hm : b ∈ L) (q : .fieldLink own index "PlankBridge$Bridge" "weights" "[I" ∈ lw_tbl) (hdg : decode cc pc = .ok (.getfield index, 3)) (kk : W p l e R s m args below meth c H locs cells slots Q (F0 m (pc + 3) ls (.ref (E.2.1 (b + 1)) :: rest))) : W p l e R s m args below meth c H locs cells slots Q (F0 m pc ls (.ref (E.2.1 b) :: rest)) := by
  obtain ⟨q0, -, he⟩ := wd_at hm (e2 (E := E) (st := st) hb)
  exact va_get (D := E.1) (C := RX2) (T := TX2) (N := 15) C.1 C.2.1 C.2.2.2.2.1 in2 C.2.2.2.1 C.2.2.2.2.2.1 hP q0 he rfl 1 (by decide) (C.T q) (fun _ h9 => h9) f2_1 hdg kk
theorem gn2_1 (C : Cx E L own cc nL p s m args c) (hP : va_P E.1 vwCl (wd E L st) H) {b index : Nat} (hb : kd b = 2) (hm : b ∈ L) (q : .fieldLinkNest own index "PlankBridge$Bridge" "weights" "[I" host ∈ lw_tbl) (hdg : decode cc pc = .ok (.getfield index, 3)) (kk : W p l e R s m args below meth c H locs cells slots Q (F0 m (pc + 3) ls (.ref (E.2.1 (b + 1)) :: rest))) : W p l e R s m args below meth c H locs cells slots Q (F0 m pc ls (.ref (E.2.1 b) :: rest)) := by
  obtain ⟨q0, -, he⟩ := wd_at hm (e2 (E := E) (st := st) hb)
  exact va_getN (D := E.1) (C := RX2) (T := TX2) (N := 15) C.1 C.2.1 C.2.2.2.2.1 in2 C.2.2.2.1 C.2.2.2.2.2.1 hP q0 he rfl 1 (by decide) (C.Tn q) (fun _ h9 => h9) f2_1 hdg kk
theorem gf2_2 (C : Cx E L own cc nL p s m args c) (hP : va_P E.1 vwCl (wd E L st) H) {b index : Nat} (hb : kd b = 2) (hm : b ∈ L) (q : .fieldLink own index "PlankBridge$Bridge" "paces" "[I" ∈ lw_tbl) (hdg : decode cc pc = .ok (.getfield index, 3)) (kk : W p l e R s m args below meth c H locs cells slots Q (F0 m (pc + 3) ls (.ref (E.2.1 (b + 2)) :: rest))) : W p l e R s m args below meth c H locs cells slots Q (F0 m pc ls (.ref (E.2.1 b) :: rest)) := by
  obtain ⟨q0, -, he⟩ := wd_at hm (e2 (E := E) (st := st) hb)
  exact va_get (D := E.1) (C := RX2) (T := TX2) (N := 15) C.1 C.2.1 C.2.2.2.2.1 in2 C.2.2.2.1 C.2.2.2.2.2.1 hP q0 he rfl 2 (by decide) (C.T q) (fun _ h9 => h9) f2_2 hdg kk
theorem gn2_2 (C : Cx E L own cc nL p s m args c) (hP : va_P E.1 vwCl (wd E L st) H) {b index : Nat} (hb : kd b = 2) (hm : b ∈ L) (q : .fieldLinkNest own index "PlankBridge$Bridge" "paces" "[I" host ∈ lw_tbl) (hdg : decode cc pc = .ok (.getfield index, 3)) (kk : W p l e R s m args below meth c H locs cells slots Q (F0 m (pc + 3) ls (.ref (E.2.1 (b + 2)) :: rest))) : W p l e R s m args below meth c H locs cells slots Q (F0 m pc ls (.ref (E.2.1 b) :: rest)) := by
  obtain ⟨q0, -, he⟩ := wd_at hm (e2 (E := E) (st := st) hb)
  exact va_getN (D := E.1) (C := RX2) (T := TX2) (N := 15) C.1 C.2.1 C.2.2.2.2.1 in2 C.2.2.2.1 C.2.2.2.2.2.1 hP q0 he rfl 2 (by decide) (C.Tn q) (fun _ h9 => h9) f2_2 hdg kk
theorem gf2_3 (C : Cx E L own cc nL p s m args c) (hP : va_P E.1 vwCl (wd E L st) H) {b index : Nat} (hb : kd b = 2) (hm : b ∈ L) (q : .fieldLink own index "PlankBridge$Bridge" "near" "I" ∈ lw_tbl) (hdg : decode cc pc = .ok (.getfield index, 3)) (kk : W p l e R s m args below meth c H locs cells slots Q (F0 m (pc + 3) ls (.int (gI st b 3) :: rest))) : W p l e R s m args below meth c H locs cells slots Q (F0 m pc ls (.ref (E.2.1 b) :: rest)) := by
  obtain ⟨q0, -, he⟩ := wd_at hm (e2 (E := E) (st := st) hb)
  exact va_get (D := E.1) (C := RX2) (T := TX2) (N := 15) C.1 C.2.1 C.2.2.2.2.1 in2 C.2.2.2.1 C.2.2.2.2.2.1 hP q0 he rfl 3 (by decide) (C.T q) (fun _ h9 => h9) f2_3 hdg kk
theorem pf2_3 (C : Cx E L own cc nL p s m args c) (hP : va_P E.1 vwCl (wd E L st) H) (hS : va_S (fA E L s.heap.size) s.heap H locs) {b index : Nat} (hb : kd b = 2) (hm : b ∈ L) {v : Int32} (q : .fieldLink own index "PlankBridge$Bridge" "near" "I" ∈ lw_tbl) (hdg : decode cc pc = .ok (.putfield index, 3)) (kk : ∀ (H1 : Heap) (locs1 : List Loc), va_P E.1 vwCl (wd E L (uI st b 3 v)) H1 → va_S (fA E L s.heap.size) s.heap H1 locs1 → W p l e R s m args below meth c H1 locs1 cells slots Q (F0 m (pc + 3) ls rest)) : W p l e R s m args below meth c H locs cells slots Q (F0 m pc ls (.int v :: .ref (E.2.1 b) :: rest)) := by
  obtain ⟨q0, hq, he⟩ := wd_at hm (e2 (E := E) (st := st) hb)
  refine va_put (D := E.1) (C := RX2) (T := TX2) (N := 15) (ty := .int) C.1 C.2.1 C.2.2.2.2.1 in2 tyX2 tyX2_ok nmX2 C.2.2.2.1 C.2.2.2.2.2.1 hP C.D hS q0 he rfl 3 (by decide) (C.T q) (fun _ h9 => h9) rfl (by decide +kernel) rfl rfl (Nat.le_of_ble_eq_true rfl) hdg (fun H1 locs1 hP1 hD1 hS1 => kk H1 locs1 ?_ hS1)
  rw [wd_set (st' := uI st b 3 v) C.N hq ?_ sI_o] at hP1
  · exact hP1
  · rw [e2 hb, s2_3]
theorem gn2_3 (C : Cx E L own cc nL p s m args c) (hP : va_P E.1 vwCl (wd E L st) H) {b index : Nat} (hb : kd b = 2) (hm : b ∈ L) (q : .fieldLinkNest own index "PlankBridge$Bridge" "near" "I" host ∈ lw_tbl) (hdg : decode cc pc = .ok (.getfield index, 3)) (kk : W p l e R s m args below meth c H locs cells slots Q (F0 m (pc + 3) ls (.int (gI st b 3) :: rest))) : W p l e R s m args below meth c H locs cells slots Q (F0 m pc ls (.ref (E.2.1 b) :: rest)) := by
  obtain ⟨q0, -, he⟩ := wd_at hm (e2 (E := E) (st := st) hb)
  exact va_getN (D := E.1) (C := RX2) (T := TX2) (N := 15) C.1 C.2.1 C.2.2.2.2.1 in2 C.2.2.2.1 C.2.2.2.2.2.1 hP q0 he rfl 3 (by decide) (C.Tn q) (fun _ h9 => h9) f2_3 hdg kk
theorem pn2_3 (C : Cx E L own cc nL p s m args c) (hP : va_P E.1 vwCl (wd E L st) H) (hS : va_S (fA E L s.heap.size) s.heap H locs) {b index : Nat} (hb : kd b = 2) (hm : b ∈ L) {v : Int32} (q : .fieldLinkNest own index "PlankBridge$Bridge" "near" "I" host ∈ lw_tbl) (hdg : decode cc pc = .ok (.putfield index, 3)) (kk : ∀ (H1 : Heap) (locs1 : List Loc), va_P E.1 vwCl (wd E L (uI st b 3 v)) H1 → va_S (fA E L s.heap.size) s.heap H1 locs1 → W p l e R s m args below meth c H1 locs1 cells slots Q (F0 m (pc + 3) ls rest)) : W p l e R s m args below meth c H locs cells slots Q (F0 m pc ls (.int v :: .ref (E.2.1 b) :: rest)) := by
  obtain ⟨q0, hq, he⟩ := wd_at hm (e2 (E := E) (st := st) hb)
  refine va_putN (D := E.1) (C := RX2) (T := TX2) (N := 15) (ty := .int) C.1 C.2.1 C.2.2.2.2.1 in2 tyX2 tyX2_ok nmX2 C.2.2.2.1 C.2.2.2.2.2.1 hP C.D hS q0 he rfl 3 (by decide) (C.Tn q) (fun _ h9 => h9) rfl (by decide +kernel) rfl rfl (Nat.le_of_ble_eq_true rfl) hdg (fun H1 locs1 hP1 hD1 hS1 => kk H1 locs1 ?_ hS1)
  rw [wd_set (st' := uI st b 3 v) C.N hq ?_ sI_o] at hP1
  · exact hP1
  · rw [e2 hb, s2_3]
theorem gf2_4 (C : Cx E L own cc nL p s m args c) (hP : va_P E.1 vwCl (wd E L st) H) {b index : Nat} (hb : kd b = 2) (hm : b ∈ L) (q : .fieldLink own index "PlankBridge$Bridge" "planks" "I" ∈ lw_tbl) (hdg : decode cc pc = .ok (.getfield index, 3)) (kk : W p l e R s m args below meth c H locs cells slots Q (F0 m (pc + 3) ls (.int (gI st b 4) :: rest))) : W p l e R s m args below meth c H locs cells slots Q (F0 m pc ls (.ref (E.2.1 b) :: rest)) := by
  obtain ⟨q0, -, he⟩ := wd_at hm (e2 (E := E) (st := st) hb)
  exact va_get (D := E.1) (C := RX2) (T := TX2) (N := 15) C.1 C.2.1 C.2.2.2.2.1 in2 C.2.2.2.1 C.2.2.2.2.2.1 hP q0 he rfl 4 (by decide) (C.T q) (fun _ h9 => h9) f2_4 hdg kk
theorem pf2_4 (C : Cx E L own cc nL p s m args c) (hP : va_P E.1 vwCl (wd E L st) H) (hS : va_S (fA E L s.heap.size) s.heap H locs) {b index : Nat} (hb : kd b = 2) (hm : b ∈ L) {v : Int32} (q : .fieldLink own index "PlankBridge$Bridge" "planks" "I" ∈ lw_tbl) (hdg : decode cc pc = .ok (.putfield index, 3)) (kk : ∀ (H1 : Heap) (locs1 : List Loc), va_P E.1 vwCl (wd E L (uI st b 4 v)) H1 → va_S (fA E L s.heap.size) s.heap H1 locs1 → W p l e R s m args below meth c H1 locs1 cells slots Q (F0 m (pc + 3) ls rest)) : W p l e R s m args below meth c H locs cells slots Q (F0 m pc ls (.int v :: .ref (E.2.1 b) :: rest)) := by
  obtain ⟨q0, hq, he⟩ := wd_at hm (e2 (E := E) (st := st) hb)
  refine va_put (D := E.1) (C := RX2) (T := TX2) (N := 15) (ty := .int) C.1 C.2.1 C.2.2.2.2.1 in2 tyX2 tyX2_ok nmX2 C.2.2.2.1 C.2.2.2.2.2.1 hP C.D hS q0 he rfl 4 (by decide) (C.T q) (fun _ h9 => h9) rfl (by decide +kernel) rfl rfl (Nat.le_of_ble_eq_true rfl) hdg (fun H1 locs1 hP1 hD1 hS1 => kk H1 locs1 ?_ hS1)
  rw [wd_set (st' := uI st b 4 v) C.N hq ?_ sI_o] at hP1
  · exact hP1
  · rw [e2 hb, s2_4]
theorem gn2_4 (C : Cx E L own cc nL p s m args c) (hP : va_P E.1 vwCl (wd E L st) H) {b index : Nat} (hb : kd b = 2) (hm : b ∈ L) (q : .fieldLinkNest own index "PlankBridge$Bridge" "planks" "I" host ∈ lw_tbl) (hdg : decode cc pc = .ok (.getfield index, 3)) (kk : W p l e R s m args below meth c H locs cells slots Q (F0 m (pc + 3) ls (.int (gI st b 4) :: rest))) : W p l e R s m args below meth c H locs cells slots Q (F0 m pc ls (.ref (E.2.1 b) :: rest)) := by
  obtain ⟨q0, -, he⟩ := wd_at hm (e2 (E := E) (st := st) hb)
  exact va_getN (D := E.1) (C := RX2) (T := TX2) (N := 15) C.1 C.2.1 C.2.2.2.2.1 in2 C.2.2.2.1 C.2.2.2.2.2.1 hP q0 he rfl 4 (by decide) (C.Tn q) (fun _ h9 => h9) f2_4 hdg kk
theorem pn2_4 (C : Cx E L own cc nL p s m args c) (hP : va_P E.1 vwCl (wd E L st) H) (hS : va_S (fA E L s.heap.size) s.heap H locs) {b index : Nat} (hb : kd b = 2) (hm : b ∈ L) {v : Int32} (q : .fieldLinkNest own index "PlankBridge$Bridge" "planks" "I" host ∈ lw_tbl) (hdg : decode cc pc = .ok (.putfield index, 3)) (kk : ∀ (H1 : Heap) (locs1 : List Loc), va_P E.1 vwCl (wd E L (uI st b 4 v)) H1 → va_S (fA E L s.heap.size) s.heap H1 locs1 → W p l e R s m args below meth c H1 locs1 cells slots Q (F0 m (pc + 3) ls rest)) : W p l e R s m args below meth c H locs cells slots Q (F0 m pc ls (.int v :: .ref (E.2.1 b) :: rest)) := by
  obtain ⟨q0, hq, he⟩ := wd_at hm (e2 (E := E) (st := st) hb)
  refine va_putN (D := E.1) (C := RX2) (T := TX2) (N := 15) (ty := .int) C.1 C.2.1 C.2.2.2.2.1 in2 tyX2 tyX2_ok nmX2 C.2.2.2.1 C.2.2.2.2.2.1 hP C.D hS q0 he rfl 4 (by decide) (C.Tn q) (fun _ h9 => h9) rfl (by decide +kernel) rfl rfl (Nat.le_of_ble_eq_true rfl) hdg (fun H1 locs1 hP1 hD1 hS1 => kk H1 locs1 ?_ hS1)
  rw [wd_set (st' := uI st b 4 v) C.N hq ?_ sI_o] at hP1
  · exact hP1
  · rw [e2 hb, s2_4]
theorem gf2_5 (C : Cx E L own cc nL p s m args c) (hP : va_P E.1 vwCl (wd E L st) H) {b index : Nat} (hb : kd b = 2) (hm : b ∈ L) (q : .fieldLink own index "PlankBridge$Bridge" "strengths" "[I" ∈ lw_tbl) (hdg : decode cc pc = .ok (.getfield index, 3)) (kk : W p l e R s m args below meth c H locs cells slots Q (F0 m (pc + 3) ls (.ref (E.2.1 (b + 3)) :: rest))) : W p l e R s m args below meth c H locs cells slots Q (F0 m pc ls (.ref (E.2.1 b) :: rest)) := by
  obtain ⟨q0, -, he⟩ := wd_at hm (e2 (E := E) (st := st) hb)
  exact va_get (D := E.1) (C := RX2) (T := TX2) (N := 15) C.1 C.2.1 C.2.2.2.2.1 in2 C.2.2.2.1 C.2.2.2.2.2.1 hP q0 he rfl 5 (by decide) (C.T q) (fun _ h9 => h9) f2_5 hdg kk
theorem gn2_5 (C : Cx E L own cc nL p s m args c) (hP : va_P E.1 vwCl (wd E L st) H) {b index : Nat} (hb : kd b = 2) (hm : b ∈ L) (q : .fieldLinkNest own index "PlankBridge$Bridge" "strengths" "[I" host ∈ lw_tbl) (hdg : decode cc pc = .ok (.getfield index, 3)) (kk : W p l e R s m args below meth c H locs cells slots Q (F0 m (pc + 3) ls (.ref (E.2.1 (b + 3)) :: rest))) : W p l e R s m args below meth c H locs cells slots Q (F0 m pc ls (.ref (E.2.1 b) :: rest)) := by
  obtain ⟨q0, -, he⟩ := wd_at hm (e2 (E := E) (st := st) hb)
  exact va_getN (D := E.1) (C := RX2) (T := TX2) (N := 15) C.1 C.2.1 C.2.2.2.2.1 in2 C.2.2.2.1 C.2.2.2.2.2.1 hP q0 he rfl 5 (by decide) (C.Tn q) (fun _ h9 => h9) f2_5 hdg kk
theorem gf2_6 (C : Cx E L own cc nL p s m args c) (hP : va_P E.1 vwCl (wd E L st) H) {b index : Nat} (hb : kd b = 2) (hm : b ∈ L) (q : .fieldLink own index "PlankBridge$Bridge" "rotten" "[Z" ∈ lw_tbl) (hdg : decode cc pc = .ok (.getfield index, 3)) (kk : W p l e R s m args below meth c H locs cells slots Q (F0 m (pc + 3) ls (.ref (E.2.1 (b + 4)) :: rest))) : W p l e R s m args below meth c H locs cells slots Q (F0 m pc ls (.ref (E.2.1 b) :: rest)) := by
  obtain ⟨q0, -, he⟩ := wd_at hm (e2 (E := E) (st := st) hb)
  exact va_get (D := E.1) (C := RX2) (T := TX2) (N := 15) C.1 C.2.1 C.2.2.2.2.1 in2 C.2.2.2.1 C.2.2.2.2.2.1 hP q0 he rfl 6 (by decide) (C.T q) (fun _ h9 => h9) f2_6 hdg kk
theorem gn2_6 (C : Cx E L own cc nL p s m args c) (hP : va_P E.1 vwCl (wd E L st) H) {b index : Nat} (hb : kd b = 2) (hm : b ∈ L) (q : .fieldLinkNest own index "PlankBridge$Bridge" "rotten" "[Z" host ∈ lw_tbl) (hdg : decode cc pc = .ok (.getfield index, 3)) (kk : W p l e R s m args below meth c H locs cells slots Q (F0 m (pc + 3) ls (.ref (E.2.1 (b + 4)) :: rest))) : W p l e R s m args below meth c H locs cells slots Q (F0 m pc ls (.ref (E.2.1 b) :: rest)) := by
  obtain ⟨q0, -, he⟩ := wd_at hm (e2 (E := E) (st := st) hb)
  exact va_getN (D := E.1) (C := RX2) (T := TX2) (N := 15) C.1 C.2.1 C.2.2.2.2.1 in2 C.2.2.2.1 C.2.2.2.2.2.1 hP q0 he rfl 6 (by decide) (C.Tn q) (fun _ h9 => h9) f2_6 hdg kk
theorem gf2_7 (C : Cx E L own cc nL p s m args c) (hP : va_P E.1 vwCl (wd E L st) H) {b index : Nat} (hb : kd b = 2) (hm : b ∈ L) (q : .fieldLink own index "PlankBridge$Bridge" "lampNear" "Z" ∈ lw_tbl) (hdg : decode cc pc = .ok (.getfield index, 3)) (kk : W p l e R s m args below meth c H locs cells slots Q (F0 m (pc + 3) ls (.int (gI st b 7) :: rest))) : W p l e R s m args below meth c H locs cells slots Q (F0 m pc ls (.ref (E.2.1 b) :: rest)) := by
  obtain ⟨q0, -, he⟩ := wd_at hm (e2 (E := E) (st := st) hb)
  exact va_get (D := E.1) (C := RX2) (T := TX2) (N := 15) C.1 C.2.1 C.2.2.2.2.1 in2 C.2.2.2.1 C.2.2.2.2.2.1 hP q0 he rfl 7 (by decide) (C.T q) (fun _ h9 => h9) f2_7 hdg kk
theorem pf2_7 (C : Cx E L own cc nL p s m args c) (hP : va_P E.1 vwCl (wd E L st) H) (hS : va_S (fA E L s.heap.size) s.heap H locs) {b index : Nat} (hb : kd b = 2) (hm : b ∈ L) {v : Int32} (hz : bz v) (q : .fieldLink own index "PlankBridge$Bridge" "lampNear" "Z" ∈ lw_tbl) (hdg : decode cc pc = .ok (.putfield index, 3)) (kk : ∀ (H1 : Heap) (locs1 : List Loc), va_P E.1 vwCl (wd E L (uI st b 7 v)) H1 → va_S (fA E L s.heap.size) s.heap H1 locs1 → W p l e R s m args below meth c H1 locs1 cells slots Q (F0 m (pc + 3) ls rest)) : W p l e R s m args below meth c H locs cells slots Q (F0 m pc ls (.int v :: .ref (E.2.1 b) :: rest)) := by
  obtain ⟨q0, hq, he⟩ := wd_at hm (e2 (E := E) (st := st) hb)
  refine va_put (D := E.1) (C := RX2) (T := TX2) (N := 15) (ty := .boolean) C.1 C.2.1 C.2.2.2.2.1 in2 tyX2 tyX2_ok nmX2 C.2.2.2.1 C.2.2.2.2.2.1 hP C.D hS q0 he rfl 7 (by decide) (C.T q) (fun _ h9 => h9) rfl (by decide +kernel) (bz_n hz) (bz_f hz) (Nat.le_of_ble_eq_true rfl) hdg (fun H1 locs1 hP1 hD1 hS1 => kk H1 locs1 ?_ hS1)
  rw [wd_set (st' := uI st b 7 v) C.N hq ?_ sI_o] at hP1
  · exact hP1
  · rw [e2 hb, s2_7]
theorem gn2_7 (C : Cx E L own cc nL p s m args c) (hP : va_P E.1 vwCl (wd E L st) H) {b index : Nat} (hb : kd b = 2) (hm : b ∈ L) (q : .fieldLinkNest own index "PlankBridge$Bridge" "lampNear" "Z" host ∈ lw_tbl) (hdg : decode cc pc = .ok (.getfield index, 3)) (kk : W p l e R s m args below meth c H locs cells slots Q (F0 m (pc + 3) ls (.int (gI st b 7) :: rest))) : W p l e R s m args below meth c H locs cells slots Q (F0 m pc ls (.ref (E.2.1 b) :: rest)) := by
  obtain ⟨q0, -, he⟩ := wd_at hm (e2 (E := E) (st := st) hb)
  exact va_getN (D := E.1) (C := RX2) (T := TX2) (N := 15) C.1 C.2.1 C.2.2.2.2.1 in2 C.2.2.2.1 C.2.2.2.2.2.1 hP q0 he rfl 7 (by decide) (C.Tn q) (fun _ h9 => h9) f2_7 hdg kk
theorem pn2_7 (C : Cx E L own cc nL p s m args c) (hP : va_P E.1 vwCl (wd E L st) H) (hS : va_S (fA E L s.heap.size) s.heap H locs) {b index : Nat} (hb : kd b = 2) (hm : b ∈ L) {v : Int32} (hz : bz v) (q : .fieldLinkNest own index "PlankBridge$Bridge" "lampNear" "Z" host ∈ lw_tbl) (hdg : decode cc pc = .ok (.putfield index, 3)) (kk : ∀ (H1 : Heap) (locs1 : List Loc), va_P E.1 vwCl (wd E L (uI st b 7 v)) H1 → va_S (fA E L s.heap.size) s.heap H1 locs1 → W p l e R s m args below meth c H1 locs1 cells slots Q (F0 m (pc + 3) ls rest)) : W p l e R s m args below meth c H locs cells slots Q (F0 m pc ls (.int v :: .ref (E.2.1 b) :: rest)) := by
  obtain ⟨q0, hq, he⟩ := wd_at hm (e2 (E := E) (st := st) hb)
  refine va_putN (D := E.1) (C := RX2) (T := TX2) (N := 15) (ty := .boolean) C.1 C.2.1 C.2.2.2.2.1 in2 tyX2 tyX2_ok nmX2 C.2.2.2.1 C.2.2.2.2.2.1 hP C.D hS q0 he rfl 7 (by decide) (C.Tn q) (fun _ h9 => h9) rfl (by decide +kernel) (bz_n hz) (bz_f hz) (Nat.le_of_ble_eq_true rfl) hdg (fun H1 locs1 hP1 hD1 hS1 => kk H1 locs1 ?_ hS1)
  rw [wd_set (st' := uI st b 7 v) C.N hq ?_ sI_o] at hP1
  · exact hP1
  · rw [e2 hb, s2_7]
theorem gf2_8 (C : Cx E L own cc nL p s m args c) (hP : va_P E.1 vwCl (wd E L st) H) {b index : Nat} (hb : kd b = 2) (hm : b ∈ L) (q : .fieldLink own index "PlankBridge$Bridge" "oil" "I" ∈ lw_tbl) (hdg : decode cc pc = .ok (.getfield index, 3)) (kk : W p l e R s m args below meth c H locs cells slots Q (F0 m (pc + 3) ls (.int (gI st b 8) :: rest))) : W p l e R s m args below meth c H locs cells slots Q (F0 m pc ls (.ref (E.2.1 b) :: rest)) := by
  obtain ⟨q0, -, he⟩ := wd_at hm (e2 (E := E) (st := st) hb)
  exact va_get (D := E.1) (C := RX2) (T := TX2) (N := 15) C.1 C.2.1 C.2.2.2.2.1 in2 C.2.2.2.1 C.2.2.2.2.2.1 hP q0 he rfl 8 (by decide) (C.T q) (fun _ h9 => h9) f2_8 hdg kk
theorem pf2_8 (C : Cx E L own cc nL p s m args c) (hP : va_P E.1 vwCl (wd E L st) H) (hS : va_S (fA E L s.heap.size) s.heap H locs) {b index : Nat} (hb : kd b = 2) (hm : b ∈ L) {v : Int32} (q : .fieldLink own index "PlankBridge$Bridge" "oil" "I" ∈ lw_tbl) (hdg : decode cc pc = .ok (.putfield index, 3)) (kk : ∀ (H1 : Heap) (locs1 : List Loc), va_P E.1 vwCl (wd E L (uI st b 8 v)) H1 → va_S (fA E L s.heap.size) s.heap H1 locs1 → W p l e R s m args below meth c H1 locs1 cells slots Q (F0 m (pc + 3) ls rest)) : W p l e R s m args below meth c H locs cells slots Q (F0 m pc ls (.int v :: .ref (E.2.1 b) :: rest)) := by
  obtain ⟨q0, hq, he⟩ := wd_at hm (e2 (E := E) (st := st) hb)
  refine va_put (D := E.1) (C := RX2) (T := TX2) (N := 15) (ty := .int) C.1 C.2.1 C.2.2.2.2.1 in2 tyX2 tyX2_ok nmX2 C.2.2.2.1 C.2.2.2.2.2.1 hP C.D hS q0 he rfl 8 (by decide) (C.T q) (fun _ h9 => h9) rfl (by decide +kernel) rfl rfl (Nat.le_of_ble_eq_true rfl) hdg (fun H1 locs1 hP1 hD1 hS1 => kk H1 locs1 ?_ hS1)
  rw [wd_set (st' := uI st b 8 v) C.N hq ?_ sI_o] at hP1
  · exact hP1
  · rw [e2 hb, s2_8]
theorem gn2_8 (C : Cx E L own cc nL p s m args c) (hP : va_P E.1 vwCl (wd E L st) H) {b index : Nat} (hb : kd b = 2) (hm : b ∈ L) (q : .fieldLinkNest own index "PlankBridge$Bridge" "oil" "I" host ∈ lw_tbl) (hdg : decode cc pc = .ok (.getfield index, 3)) (kk : W p l e R s m args below meth c H locs cells slots Q (F0 m (pc + 3) ls (.int (gI st b 8) :: rest))) : W p l e R s m args below meth c H locs cells slots Q (F0 m pc ls (.ref (E.2.1 b) :: rest)) := by
  obtain ⟨q0, -, he⟩ := wd_at hm (e2 (E := E) (st := st) hb)
  exact va_getN (D := E.1) (C := RX2) (T := TX2) (N := 15) C.1 C.2.1 C.2.2.2.2.1 in2 C.2.2.2.1 C.2.2.2.2.2.1 hP q0 he rfl 8 (by decide) (C.Tn q) (fun _ h9 => h9) f2_8 hdg kk
theorem pn2_8 (C : Cx E L own cc nL p s m args c) (hP : va_P E.1 vwCl (wd E L st) H) (hS : va_S (fA E L s.heap.size) s.heap H locs) {b index : Nat} (hb : kd b = 2) (hm : b ∈ L) {v : Int32} (q : .fieldLinkNest own index "PlankBridge$Bridge" "oil" "I" host ∈ lw_tbl) (hdg : decode cc pc = .ok (.putfield index, 3)) (kk : ∀ (H1 : Heap) (locs1 : List Loc), va_P E.1 vwCl (wd E L (uI st b 8 v)) H1 → va_S (fA E L s.heap.size) s.heap H1 locs1 → W p l e R s m args below meth c H1 locs1 cells slots Q (F0 m (pc + 3) ls rest)) : W p l e R s m args below meth c H locs cells slots Q (F0 m pc ls (.int v :: .ref (E.2.1 b) :: rest)) := by
  obtain ⟨q0, hq, he⟩ := wd_at hm (e2 (E := E) (st := st) hb)
  refine va_putN (D := E.1) (C := RX2) (T := TX2) (N := 15) (ty := .int) C.1 C.2.1 C.2.2.2.2.1 in2 tyX2 tyX2_ok nmX2 C.2.2.2.1 C.2.2.2.2.2.1 hP C.D hS q0 he rfl 8 (by decide) (C.Tn q) (fun _ h9 => h9) rfl (by decide +kernel) rfl rfl (Nat.le_of_ble_eq_true rfl) hdg (fun H1 locs1 hP1 hD1 hS1 => kk H1 locs1 ?_ hS1)
  rw [wd_set (st' := uI st b 8 v) C.N hq ?_ sI_o] at hP1
  · exact hP1
  · rw [e2 hb, s2_8]
theorem gf2_9 (C : Cx E L own cc nL p s m args c) (hP : va_P E.1 vwCl (wd E L st) H) {b index : Nat} (hb : kd b = 2) (hm : b ∈ L) (q : .fieldLink own index "PlankBridge$Bridge" "night" "I" ∈ lw_tbl) (hdg : decode cc pc = .ok (.getfield index, 3)) (kk : W p l e R s m args below meth c H locs cells slots Q (F0 m (pc + 3) ls (.int (gI st b 9) :: rest))) : W p l e R s m args below meth c H locs cells slots Q (F0 m pc ls (.ref (E.2.1 b) :: rest)) := by
  obtain ⟨q0, -, he⟩ := wd_at hm (e2 (E := E) (st := st) hb)
  exact va_get (D := E.1) (C := RX2) (T := TX2) (N := 15) C.1 C.2.1 C.2.2.2.2.1 in2 C.2.2.2.1 C.2.2.2.2.2.1 hP q0 he rfl 9 (by decide) (C.T q) (fun _ h9 => h9) f2_9 hdg kk
theorem pf2_9 (C : Cx E L own cc nL p s m args c) (hP : va_P E.1 vwCl (wd E L st) H) (hS : va_S (fA E L s.heap.size) s.heap H locs) {b index : Nat} (hb : kd b = 2) (hm : b ∈ L) {v : Int32} (q : .fieldLink own index "PlankBridge$Bridge" "night" "I" ∈ lw_tbl) (hdg : decode cc pc = .ok (.putfield index, 3)) (kk : ∀ (H1 : Heap) (locs1 : List Loc), va_P E.1 vwCl (wd E L (uI st b 9 v)) H1 → va_S (fA E L s.heap.size) s.heap H1 locs1 → W p l e R s m args below meth c H1 locs1 cells slots Q (F0 m (pc + 3) ls rest)) : W p l e R s m args below meth c H locs cells slots Q (F0 m pc ls (.int v :: .ref (E.2.1 b) :: rest)) := by
  obtain ⟨q0, hq, he⟩ := wd_at hm (e2 (E := E) (st := st) hb)
  refine va_put (D := E.1) (C := RX2) (T := TX2) (N := 15) (ty := .int) C.1 C.2.1 C.2.2.2.2.1 in2 tyX2 tyX2_ok nmX2 C.2.2.2.1 C.2.2.2.2.2.1 hP C.D hS q0 he rfl 9 (by decide) (C.T q) (fun _ h9 => h9) rfl (by decide +kernel) rfl rfl (Nat.le_of_ble_eq_true rfl) hdg (fun H1 locs1 hP1 hD1 hS1 => kk H1 locs1 ?_ hS1)
  rw [wd_set (st' := uI st b 9 v) C.N hq ?_ sI_o] at hP1
  · exact hP1
  · rw [e2 hb, s2_9]
theorem gn2_9 (C : Cx E L own cc nL p s m args c) (hP : va_P E.1 vwCl (wd E L st) H) {b index : Nat} (hb : kd b = 2) (hm : b ∈ L) (q : .fieldLinkNest own index "PlankBridge$Bridge" "night" "I" host ∈ lw_tbl) (hdg : decode cc pc = .ok (.getfield index, 3)) (kk : W p l e R s m args below meth c H locs cells slots Q (F0 m (pc + 3) ls (.int (gI st b 9) :: rest))) : W p l e R s m args below meth c H locs cells slots Q (F0 m pc ls (.ref (E.2.1 b) :: rest)) := by
  obtain ⟨q0, -, he⟩ := wd_at hm (e2 (E := E) (st := st) hb)
  exact va_getN (D := E.1) (C := RX2) (T := TX2) (N := 15) C.1 C.2.1 C.2.2.2.2.1 in2 C.2.2.2.1 C.2.2.2.2.2.1 hP q0 he rfl 9 (by decide) (C.Tn q) (fun _ h9 => h9) f2_9 hdg kk
theorem pn2_9 (C : Cx E L own cc nL p s m args c) (hP : va_P E.1 vwCl (wd E L st) H) (hS : va_S (fA E L s.heap.size) s.heap H locs) {b index : Nat} (hb : kd b = 2) (hm : b ∈ L) {v : Int32} (q : .fieldLinkNest own index "PlankBridge$Bridge" "night" "I" host ∈ lw_tbl) (hdg : decode cc pc = .ok (.putfield index, 3)) (kk : ∀ (H1 : Heap) (locs1 : List Loc), va_P E.1 vwCl (wd E L (uI st b 9 v)) H1 → va_S (fA E L s.heap.size) s.heap H1 locs1 → W p l e R s m args below meth c H1 locs1 cells slots Q (F0 m (pc + 3) ls rest)) : W p l e R s m args below meth c H locs cells slots Q (F0 m pc ls (.int v :: .ref (E.2.1 b) :: rest)) := by
  obtain ⟨q0, hq, he⟩ := wd_at hm (e2 (E := E) (st := st) hb)
  refine va_putN (D := E.1) (C := RX2) (T := TX2) (N := 15) (ty := .int) C.1 C.2.1 C.2.2.2.2.1 in2 tyX2 tyX2_ok nmX2 C.2.2.2.1 C.2.2.2.2.2.1 hP C.D hS q0 he rfl 9 (by decide) (C.Tn q) (fun _ h9 => h9) rfl (by decide +kernel) rfl rfl (Nat.le_of_ble_eq_true rfl) hdg (fun H1 locs1 hP1 hD1 hS1 => kk H1 locs1 ?_ hS1)
  rw [wd_set (st' := uI st b 9 v) C.N hq ?_ sI_o] at hP1
  · exact hP1
  · rw [e2 hb, s2_9]
theorem gf2_10 (C : Cx E L own cc nL p s m args c) (hP : va_P E.1 vwCl (wd E L st) H) {b index : Nat} (hb : kd b = 2) (hm : b ∈ L) (q : .fieldLink own index "PlankBridge$Bridge" "minute" "I" ∈ lw_tbl) (hdg : decode cc pc = .ok (.getfield index, 3)) (kk : W p l e R s m args below meth c H locs cells slots Q (F0 m (pc + 3) ls (.int (gI st b 10) :: rest))) : W p l e R s m args below meth c H locs cells slots Q (F0 m pc ls (.ref (E.2.1 b) :: rest)) := by
  obtain ⟨q0, -, he⟩ := wd_at hm (e2 (E := E) (st := st) hb)
  exact va_get (D := E.1) (C := RX2) (T := TX2) (N := 15) C.1 C.2.1 C.2.2.2.2.1 in2 C.2.2.2.1 C.2.2.2.2.2.1 hP q0 he rfl 10 (by decide) (C.T q) (fun _ h9 => h9) f2_10 hdg kk
theorem pf2_10 (C : Cx E L own cc nL p s m args c) (hP : va_P E.1 vwCl (wd E L st) H) (hS : va_S (fA E L s.heap.size) s.heap H locs) {b index : Nat} (hb : kd b = 2) (hm : b ∈ L) {v : Int32} (q : .fieldLink own index "PlankBridge$Bridge" "minute" "I" ∈ lw_tbl) (hdg : decode cc pc = .ok (.putfield index, 3)) (kk : ∀ (H1 : Heap) (locs1 : List Loc), va_P E.1 vwCl (wd E L (uI st b 10 v)) H1 → va_S (fA E L s.heap.size) s.heap H1 locs1 → W p l e R s m args below meth c H1 locs1 cells slots Q (F0 m (pc + 3) ls rest)) : W p l e R s m args below meth c H locs cells slots Q (F0 m pc ls (.int v :: .ref (E.2.1 b) :: rest)) := by
  obtain ⟨q0, hq, he⟩ := wd_at hm (e2 (E := E) (st := st) hb)
  refine va_put (D := E.1) (C := RX2) (T := TX2) (N := 15) (ty := .int) C.1 C.2.1 C.2.2.2.2.1 in2 tyX2 tyX2_ok nmX2 C.2.2.2.1 C.2.2.2.2.2.1 hP C.D hS q0 he rfl 10 (by decide) (C.T q) (fun _ h9 => h9) rfl (by decide +kernel) rfl rfl (Nat.le_of_ble_eq_true rfl) hdg (fun H1 locs1 hP1 hD1 hS1 => kk H1 locs1 ?_ hS1)
  rw [wd_set (st' := uI st b 10 v) C.N hq ?_ sI_o] at hP1
  · exact hP1
  · rw [e2 hb, s2_10]
theorem gn2_10 (C : Cx E L own cc nL p s m args c) (hP : va_P E.1 vwCl (wd E L st) H) {b index : Nat} (hb : kd b = 2) (hm : b ∈ L) (q : .fieldLinkNest own index "PlankBridge$Bridge" "minute" "I" host ∈ lw_tbl) (hdg : decode cc pc = .ok (.getfield index, 3)) (kk : W p l e R s m args below meth c H locs cells slots Q (F0 m (pc + 3) ls (.int (gI st b 10) :: rest))) : W p l e R s m args below meth c H locs cells slots Q (F0 m pc ls (.ref (E.2.1 b) :: rest)) := by
  obtain ⟨q0, -, he⟩ := wd_at hm (e2 (E := E) (st := st) hb)
  exact va_getN (D := E.1) (C := RX2) (T := TX2) (N := 15) C.1 C.2.1 C.2.2.2.2.1 in2 C.2.2.2.1 C.2.2.2.2.2.1 hP q0 he rfl 10 (by decide) (C.Tn q) (fun _ h9 => h9) f2_10 hdg kk
theorem pn2_10 (C : Cx E L own cc nL p s m args c) (hP : va_P E.1 vwCl (wd E L st) H) (hS : va_S (fA E L s.heap.size) s.heap H locs) {b index : Nat} (hb : kd b = 2) (hm : b ∈ L) {v : Int32} (q : .fieldLinkNest own index "PlankBridge$Bridge" "minute" "I" host ∈ lw_tbl) (hdg : decode cc pc = .ok (.putfield index, 3)) (kk : ∀ (H1 : Heap) (locs1 : List Loc), va_P E.1 vwCl (wd E L (uI st b 10 v)) H1 → va_S (fA E L s.heap.size) s.heap H1 locs1 → W p l e R s m args below meth c H1 locs1 cells slots Q (F0 m (pc + 3) ls rest)) : W p l e R s m args below meth c H locs cells slots Q (F0 m pc ls (.int v :: .ref (E.2.1 b) :: rest)) := by
  obtain ⟨q0, hq, he⟩ := wd_at hm (e2 (E := E) (st := st) hb)
  refine va_putN (D := E.1) (C := RX2) (T := TX2) (N := 15) (ty := .int) C.1 C.2.1 C.2.2.2.2.1 in2 tyX2 tyX2_ok nmX2 C.2.2.2.1 C.2.2.2.2.2.1 hP C.D hS q0 he rfl 10 (by decide) (C.Tn q) (fun _ h9 => h9) rfl (by decide +kernel) rfl rfl (Nat.le_of_ble_eq_true rfl) hdg (fun H1 locs1 hP1 hD1 hS1 => kk H1 locs1 ?_ hS1)
  rw [wd_set (st' := uI st b 10 v) C.N hq ?_ sI_o] at hP1
  · exact hP1
  · rw [e2 hb, s2_10]
theorem gf2_11 (C : Cx E L own cc nL p s m args c) (hP : va_P E.1 vwCl (wd E L st) H) {b index : Nat} (hb : kd b = 2) (hm : b ∈ L) (q : .fieldLink own index "PlankBridge$Bridge" "crossings" "I" ∈ lw_tbl) (hdg : decode cc pc = .ok (.getfield index, 3)) (kk : W p l e R s m args below meth c H locs cells slots Q (F0 m (pc + 3) ls (.int (gI st b 11) :: rest))) : W p l e R s m args below meth c H locs cells slots Q (F0 m pc ls (.ref (E.2.1 b) :: rest)) := by
  obtain ⟨q0, -, he⟩ := wd_at hm (e2 (E := E) (st := st) hb)
  exact va_get (D := E.1) (C := RX2) (T := TX2) (N := 15) C.1 C.2.1 C.2.2.2.2.1 in2 C.2.2.2.1 C.2.2.2.2.2.1 hP q0 he rfl 11 (by decide) (C.T q) (fun _ h9 => h9) f2_11 hdg kk
theorem pf2_11 (C : Cx E L own cc nL p s m args c) (hP : va_P E.1 vwCl (wd E L st) H) (hS : va_S (fA E L s.heap.size) s.heap H locs) {b index : Nat} (hb : kd b = 2) (hm : b ∈ L) {v : Int32} (q : .fieldLink own index "PlankBridge$Bridge" "crossings" "I" ∈ lw_tbl) (hdg : decode cc pc = .ok (.putfield index, 3)) (kk : ∀ (H1 : Heap) (locs1 : List Loc), va_P E.1 vwCl (wd E L (uI st b 11 v)) H1 → va_S (fA E L s.heap.size) s.heap H1 locs1 → W p l e R s m args below meth c H1 locs1 cells slots Q (F0 m (pc + 3) ls rest)) : W p l e R s m args below meth c H locs cells slots Q (F0 m pc ls (.int v :: .ref (E.2.1 b) :: rest)) := by
  obtain ⟨q0, hq, he⟩ := wd_at hm (e2 (E := E) (st := st) hb)
  refine va_put (D := E.1) (C := RX2) (T := TX2) (N := 15) (ty := .int) C.1 C.2.1 C.2.2.2.2.1 in2 tyX2 tyX2_ok nmX2 C.2.2.2.1 C.2.2.2.2.2.1 hP C.D hS q0 he rfl 11 (by decide) (C.T q) (fun _ h9 => h9) rfl (by decide +kernel) rfl rfl (Nat.le_of_ble_eq_true rfl) hdg (fun H1 locs1 hP1 hD1 hS1 => kk H1 locs1 ?_ hS1)
  rw [wd_set (st' := uI st b 11 v) C.N hq ?_ sI_o] at hP1
  · exact hP1
  · rw [e2 hb, s2_11]
theorem gn2_11 (C : Cx E L own cc nL p s m args c) (hP : va_P E.1 vwCl (wd E L st) H) {b index : Nat} (hb : kd b = 2) (hm : b ∈ L) (q : .fieldLinkNest own index "PlankBridge$Bridge" "crossings" "I" host ∈ lw_tbl) (hdg : decode cc pc = .ok (.getfield index, 3)) (kk : W p l e R s m args below meth c H locs cells slots Q (F0 m (pc + 3) ls (.int (gI st b 11) :: rest))) : W p l e R s m args below meth c H locs cells slots Q (F0 m pc ls (.ref (E.2.1 b) :: rest)) := by
  obtain ⟨q0, -, he⟩ := wd_at hm (e2 (E := E) (st := st) hb)
  exact va_getN (D := E.1) (C := RX2) (T := TX2) (N := 15) C.1 C.2.1 C.2.2.2.2.1 in2 C.2.2.2.1 C.2.2.2.2.2.1 hP q0 he rfl 11 (by decide) (C.Tn q) (fun _ h9 => h9) f2_11 hdg kk
theorem pn2_11 (C : Cx E L own cc nL p s m args c) (hP : va_P E.1 vwCl (wd E L st) H) (hS : va_S (fA E L s.heap.size) s.heap H locs) {b index : Nat} (hb : kd b = 2) (hm : b ∈ L) {v : Int32} (q : .fieldLinkNest own index "PlankBridge$Bridge" "crossings" "I" host ∈ lw_tbl) (hdg : decode cc pc = .ok (.putfield index, 3)) (kk : ∀ (H1 : Heap) (locs1 : List Loc), va_P E.1 vwCl (wd E L (uI st b 11 v)) H1 → va_S (fA E L s.heap.size) s.heap H1 locs1 → W p l e R s m args below meth c H1 locs1 cells slots Q (F0 m (pc + 3) ls rest)) : W p l e R s m args below meth c H locs cells slots Q (F0 m pc ls (.int v :: .ref (E.2.1 b) :: rest)) := by
  obtain ⟨q0, hq, he⟩ := wd_at hm (e2 (E := E) (st := st) hb)
  refine va_putN (D := E.1) (C := RX2) (T := TX2) (N := 15) (ty := .int) C.1 C.2.1 C.2.2.2.2.1 in2 tyX2 tyX2_ok nmX2 C.2.2.2.1 C.2.2.2.2.2.1 hP C.D hS q0 he rfl 11 (by decide) (C.Tn q) (fun _ h9 => h9) rfl (by decide +kernel) rfl rfl (Nat.le_of_ble_eq_true rfl) hdg (fun H1 locs1 hP1 hD1 hS1 => kk H1 locs1 ?_ hS1)
  rw [wd_set (st' := uI st b 11 v) C.N hq ?_ sI_o] at hP1
  · exact hP1
  · rw [e2 hb, s2_11]
theorem gf2_12 (C : Cx E L own cc nL p s m args c) (hP : va_P E.1 vwCl (wd E L st) H) {b index : Nat} (hb : kd b = 2) (hm : b ∈ L) (q : .fieldLink own index "PlankBridge$Bridge" "falls" "I" ∈ lw_tbl) (hdg : decode cc pc = .ok (.getfield index, 3)) (kk : W p l e R s m args below meth c H locs cells slots Q (F0 m (pc + 3) ls (.int (gI st b 12) :: rest))) : W p l e R s m args below meth c H locs cells slots Q (F0 m pc ls (.ref (E.2.1 b) :: rest)) := by
  obtain ⟨q0, -, he⟩ := wd_at hm (e2 (E := E) (st := st) hb)
  exact va_get (D := E.1) (C := RX2) (T := TX2) (N := 15) C.1 C.2.1 C.2.2.2.2.1 in2 C.2.2.2.1 C.2.2.2.2.2.1 hP q0 he rfl 12 (by decide) (C.T q) (fun _ h9 => h9) f2_12 hdg kk
theorem pf2_12 (C : Cx E L own cc nL p s m args c) (hP : va_P E.1 vwCl (wd E L st) H) (hS : va_S (fA E L s.heap.size) s.heap H locs) {b index : Nat} (hb : kd b = 2) (hm : b ∈ L) {v : Int32} (q : .fieldLink own index "PlankBridge$Bridge" "falls" "I" ∈ lw_tbl) (hdg : decode cc pc = .ok (.putfield index, 3)) (kk : ∀ (H1 : Heap) (locs1 : List Loc), va_P E.1 vwCl (wd E L (uI st b 12 v)) H1 → va_S (fA E L s.heap.size) s.heap H1 locs1 → W p l e R s m args below meth c H1 locs1 cells slots Q (F0 m (pc + 3) ls rest)) : W p l e R s m args below meth c H locs cells slots Q (F0 m pc ls (.int v :: .ref (E.2.1 b) :: rest)) := by
  obtain ⟨q0, hq, he⟩ := wd_at hm (e2 (E := E) (st := st) hb)
  refine va_put (D := E.1) (C := RX2) (T := TX2) (N := 15) (ty := .int) C.1 C.2.1 C.2.2.2.2.1 in2 tyX2 tyX2_ok nmX2 C.2.2.2.1 C.2.2.2.2.2.1 hP C.D hS q0 he rfl 12 (by decide) (C.T q) (fun _ h9 => h9) rfl (by decide +kernel) rfl rfl (Nat.le_of_ble_eq_true rfl) hdg (fun H1 locs1 hP1 hD1 hS1 => kk H1 locs1 ?_ hS1)
  rw [wd_set (st' := uI st b 12 v) C.N hq ?_ sI_o] at hP1
  · exact hP1
  · rw [e2 hb, s2_12]
theorem gn2_12 (C : Cx E L own cc nL p s m args c) (hP : va_P E.1 vwCl (wd E L st) H) {b index : Nat} (hb : kd b = 2) (hm : b ∈ L) (q : .fieldLinkNest own index "PlankBridge$Bridge" "falls" "I" host ∈ lw_tbl) (hdg : decode cc pc = .ok (.getfield index, 3)) (kk : W p l e R s m args below meth c H locs cells slots Q (F0 m (pc + 3) ls (.int (gI st b 12) :: rest))) : W p l e R s m args below meth c H locs cells slots Q (F0 m pc ls (.ref (E.2.1 b) :: rest)) := by
  obtain ⟨q0, -, he⟩ := wd_at hm (e2 (E := E) (st := st) hb)
  exact va_getN (D := E.1) (C := RX2) (T := TX2) (N := 15) C.1 C.2.1 C.2.2.2.2.1 in2 C.2.2.2.1 C.2.2.2.2.2.1 hP q0 he rfl 12 (by decide) (C.Tn q) (fun _ h9 => h9) f2_12 hdg kk
theorem pn2_12 (C : Cx E L own cc nL p s m args c) (hP : va_P E.1 vwCl (wd E L st) H) (hS : va_S (fA E L s.heap.size) s.heap H locs) {b index : Nat} (hb : kd b = 2) (hm : b ∈ L) {v : Int32} (q : .fieldLinkNest own index "PlankBridge$Bridge" "falls" "I" host ∈ lw_tbl) (hdg : decode cc pc = .ok (.putfield index, 3)) (kk : ∀ (H1 : Heap) (locs1 : List Loc), va_P E.1 vwCl (wd E L (uI st b 12 v)) H1 → va_S (fA E L s.heap.size) s.heap H1 locs1 → W p l e R s m args below meth c H1 locs1 cells slots Q (F0 m (pc + 3) ls rest)) : W p l e R s m args below meth c H locs cells slots Q (F0 m pc ls (.int v :: .ref (E.2.1 b) :: rest)) := by
  obtain ⟨q0, hq, he⟩ := wd_at hm (e2 (E := E) (st := st) hb)
  refine va_putN (D := E.1) (C := RX2) (T := TX2) (N := 15) (ty := .int) C.1 C.2.1 C.2.2.2.2.1 in2 tyX2 tyX2_ok nmX2 C.2.2.2.1 C.2.2.2.2.2.1 hP C.D hS q0 he rfl 12 (by decide) (C.Tn q) (fun _ h9 => h9) rfl (by decide +kernel) rfl rfl (Nat.le_of_ble_eq_true rfl) hdg (fun H1 locs1 hP1 hD1 hS1 => kk H1 locs1 ?_ hS1)
  rw [wd_set (st' := uI st b 12 v) C.N hq ?_ sI_o] at hP1
  · exact hP1
  · rw [e2 hb, s2_12]
theorem gf2_13 (C : Cx E L own cc nL p s m args c) (hP : va_P E.1 vwCl (wd E L st) H) {b index : Nat} (hb : kd b = 2) (hm : b ∈ L) (q : .fieldLink own index "PlankBridge$Bridge" "notes" "I" ∈ lw_tbl) (hdg : decode cc pc = .ok (.getfield index, 3)) (kk : W p l e R s m args below meth c H locs cells slots Q (F0 m (pc + 3) ls (.int (gI st b 13) :: rest))) : W p l e R s m args below meth c H locs cells slots Q (F0 m pc ls (.ref (E.2.1 b) :: rest)) := by
  obtain ⟨q0, -, he⟩ := wd_at hm (e2 (E := E) (st := st) hb)
  exact va_get (D := E.1) (C := RX2) (T := TX2) (N := 15) C.1 C.2.1 C.2.2.2.2.1 in2 C.2.2.2.1 C.2.2.2.2.2.1 hP q0 he rfl 13 (by decide) (C.T q) (fun _ h9 => h9) f2_13 hdg kk
theorem pf2_13 (C : Cx E L own cc nL p s m args c) (hP : va_P E.1 vwCl (wd E L st) H) (hS : va_S (fA E L s.heap.size) s.heap H locs) {b index : Nat} (hb : kd b = 2) (hm : b ∈ L) {v : Int32} (q : .fieldLink own index "PlankBridge$Bridge" "notes" "I" ∈ lw_tbl) (hdg : decode cc pc = .ok (.putfield index, 3)) (kk : ∀ (H1 : Heap) (locs1 : List Loc), va_P E.1 vwCl (wd E L (uI st b 13 v)) H1 → va_S (fA E L s.heap.size) s.heap H1 locs1 → W p l e R s m args below meth c H1 locs1 cells slots Q (F0 m (pc + 3) ls rest)) : W p l e R s m args below meth c H locs cells slots Q (F0 m pc ls (.int v :: .ref (E.2.1 b) :: rest)) := by
  obtain ⟨q0, hq, he⟩ := wd_at hm (e2 (E := E) (st := st) hb)
  refine va_put (D := E.1) (C := RX2) (T := TX2) (N := 15) (ty := .int) C.1 C.2.1 C.2.2.2.2.1 in2 tyX2 tyX2_ok nmX2 C.2.2.2.1 C.2.2.2.2.2.1 hP C.D hS q0 he rfl 13 (by decide) (C.T q) (fun _ h9 => h9) rfl (by decide +kernel) rfl rfl (Nat.le_of_ble_eq_true rfl) hdg (fun H1 locs1 hP1 hD1 hS1 => kk H1 locs1 ?_ hS1)
  rw [wd_set (st' := uI st b 13 v) C.N hq ?_ sI_o] at hP1
  · exact hP1
  · rw [e2 hb, s2_13]
theorem gn2_13 (C : Cx E L own cc nL p s m args c) (hP : va_P E.1 vwCl (wd E L st) H) {b index : Nat} (hb : kd b = 2) (hm : b ∈ L) (q : .fieldLinkNest own index "PlankBridge$Bridge" "notes" "I" host ∈ lw_tbl) (hdg : decode cc pc = .ok (.getfield index, 3)) (kk : W p l e R s m args below meth c H locs cells slots Q (F0 m (pc + 3) ls (.int (gI st b 13) :: rest))) : W p l e R s m args below meth c H locs cells slots Q (F0 m pc ls (.ref (E.2.1 b) :: rest)) := by
  obtain ⟨q0, -, he⟩ := wd_at hm (e2 (E := E) (st := st) hb)
  exact va_getN (D := E.1) (C := RX2) (T := TX2) (N := 15) C.1 C.2.1 C.2.2.2.2.1 in2 C.2.2.2.1 C.2.2.2.2.2.1 hP q0 he rfl 13 (by decide) (C.Tn q) (fun _ h9 => h9) f2_13 hdg kk
theorem pn2_13 (C : Cx E L own cc nL p s m args c) (hP : va_P E.1 vwCl (wd E L st) H) (hS : va_S (fA E L s.heap.size) s.heap H locs) {b index : Nat} (hb : kd b = 2) (hm : b ∈ L) {v : Int32} (q : .fieldLinkNest own index "PlankBridge$Bridge" "notes" "I" host ∈ lw_tbl) (hdg : decode cc pc = .ok (.putfield index, 3)) (kk : ∀ (H1 : Heap) (locs1 : List Loc), va_P E.1 vwCl (wd E L (uI st b 13 v)) H1 → va_S (fA E L s.heap.size) s.heap H1 locs1 → W p l e R s m args below meth c H1 locs1 cells slots Q (F0 m (pc + 3) ls rest)) : W p l e R s m args below meth c H locs cells slots Q (F0 m pc ls (.int v :: .ref (E.2.1 b) :: rest)) := by
  obtain ⟨q0, hq, he⟩ := wd_at hm (e2 (E := E) (st := st) hb)
  refine va_putN (D := E.1) (C := RX2) (T := TX2) (N := 15) (ty := .int) C.1 C.2.1 C.2.2.2.2.1 in2 tyX2 tyX2_ok nmX2 C.2.2.2.1 C.2.2.2.2.2.1 hP C.D hS q0 he rfl 13 (by decide) (C.Tn q) (fun _ h9 => h9) rfl (by decide +kernel) rfl rfl (Nat.le_of_ble_eq_true rfl) hdg (fun H1 locs1 hP1 hD1 hS1 => kk H1 locs1 ?_ hS1)
  rw [wd_set (st' := uI st b 13 v) C.N hq ?_ sI_o] at hP1
  · exact hP1
  · rw [e2 hb, s2_13]
theorem gf2_14 (C : Cx E L own cc nL p s m args c) (hP : va_P E.1 vwCl (wd E L st) H) {b index : Nat} (hb : kd b = 2) (hm : b ∈ L) (q : .fieldLink own index "PlankBridge$Bridge" "kept" "[I" ∈ lw_tbl) (hdg : decode cc pc = .ok (.getfield index, 3)) (kk : W p l e R s m args below meth c H locs cells slots Q (F0 m (pc + 3) ls (.ref (E.2.1 (b + 5)) :: rest))) : W p l e R s m args below meth c H locs cells slots Q (F0 m pc ls (.ref (E.2.1 b) :: rest)) := by
  obtain ⟨q0, -, he⟩ := wd_at hm (e2 (E := E) (st := st) hb)
  exact va_get (D := E.1) (C := RX2) (T := TX2) (N := 15) C.1 C.2.1 C.2.2.2.2.1 in2 C.2.2.2.1 C.2.2.2.2.2.1 hP q0 he rfl 14 (by decide) (C.T q) (fun _ h9 => h9) f2_14 hdg kk
theorem gf3_0 (C : Cx E L own cc nL p s m args c) (hP : va_P E.1 vwCl (wd E L st) H) {b index : Nat} (hb : kd b = 3) (hm : b ∈ L) (q : .fieldLink own index "PlankBridge$Reader" "tokens" "LPlankBridge$Tokens;" ∈ lw_tbl) (hdg : decode cc pc = .ok (.getfield index, 3)) (kk : W p l e R s m args below meth c H locs cells slots Q (F0 m (pc + 3) ls (.ref (E.2.1 (gR st b 0)) :: rest))) : W p l e R s m args below meth c H locs cells slots Q (F0 m pc ls (.ref (E.2.1 b) :: rest)) := by
  obtain ⟨q0, -, he⟩ := wd_at hm (e3 (E := E) (st := st) hb)
  exact va_get (D := E.1) (C := RX4) (T := TX4) (N := 6) C.1 C.2.1 C.2.2.2.2.1 in3 C.2.2.2.1 C.2.2.2.2.2.1 hP q0 he rfl 0 (by decide) (C.T q) (fun _ h9 => h9) f3_0 hdg kk
theorem pf3_0 (C : Cx E L own cc nL p s m args c) (hP : va_P E.1 vwCl (wd E L st) H) (hS : va_S (fA E L s.heap.size) s.heap H locs) {b index : Nat} (hb : kd b = 3) (hm : b ∈ L) {v : Nat} (q : .fieldLink own index "PlankBridge$Reader" "tokens" "LPlankBridge$Tokens;" ∈ lw_tbl) (hdg : decode cc pc = .ok (.putfield index, 3)) (kk : ∀ (H1 : Heap) (locs1 : List Loc), va_P E.1 vwCl (wd E L (uR st b 0 v)) H1 → va_S (fA E L s.heap.size) s.heap H1 locs1 → W p l e R s m args below meth c H1 locs1 cells slots Q (F0 m (pc + 3) ls rest)) : W p l e R s m args below meth c H locs cells slots Q (F0 m pc ls (.ref (E.2.1 v) :: .ref (E.2.1 b) :: rest)) := by
  obtain ⟨q0, hq, he⟩ := wd_at hm (e3 (E := E) (st := st) hb)
  refine va_put (D := E.1) (C := RX4) (T := TX4) (N := 6) (ty := .object "PlankBridge$Tokens") C.1 C.2.1 C.2.2.2.2.1 in3 tyX4 tyX4_ok nmX4 C.2.2.2.1 C.2.2.2.2.2.1 hP C.D hS q0 he rfl 0 (by decide) (C.T q) (fun _ h9 => h9) rfl (by decide +kernel) rfl rfl (Nat.le_of_ble_eq_true rfl) hdg (fun H1 locs1 hP1 hD1 hS1 => kk H1 locs1 ?_ hS1)
  rw [wd_set (st' := uR st b 0 v) C.N hq ?_ sR_o] at hP1
  · exact hP1
  · rw [e3 hb, s3_0]
theorem gf3_1 (C : Cx E L own cc nL p s m args c) (hP : va_P E.1 vwCl (wd E L st) H) {b index : Nat} (hb : kd b = 3) (hm : b ∈ L) (q : .fieldLink own index "PlankBridge$Reader" "book" "LPlankBridge$Book;" ∈ lw_tbl) (hdg : decode cc pc = .ok (.getfield index, 3)) (kk : W p l e R s m args below meth c H locs cells slots Q (F0 m (pc + 3) ls (.ref (E.2.1 (gR st b 1)) :: rest))) : W p l e R s m args below meth c H locs cells slots Q (F0 m pc ls (.ref (E.2.1 b) :: rest)) := by
  obtain ⟨q0, -, he⟩ := wd_at hm (e3 (E := E) (st := st) hb)
  exact va_get (D := E.1) (C := RX4) (T := TX4) (N := 6) C.1 C.2.1 C.2.2.2.2.1 in3 C.2.2.2.1 C.2.2.2.2.2.1 hP q0 he rfl 1 (by decide) (C.T q) (fun _ h9 => h9) f3_1 hdg kk
theorem pf3_1 (C : Cx E L own cc nL p s m args c) (hP : va_P E.1 vwCl (wd E L st) H) (hS : va_S (fA E L s.heap.size) s.heap H locs) {b index : Nat} (hb : kd b = 3) (hm : b ∈ L) {v : Nat} (q : .fieldLink own index "PlankBridge$Reader" "book" "LPlankBridge$Book;" ∈ lw_tbl) (hdg : decode cc pc = .ok (.putfield index, 3)) (kk : ∀ (H1 : Heap) (locs1 : List Loc), va_P E.1 vwCl (wd E L (uR st b 1 v)) H1 → va_S (fA E L s.heap.size) s.heap H1 locs1 → W p l e R s m args below meth c H1 locs1 cells slots Q (F0 m (pc + 3) ls rest)) : W p l e R s m args below meth c H locs cells slots Q (F0 m pc ls (.ref (E.2.1 v) :: .ref (E.2.1 b) :: rest)) := by
  obtain ⟨q0, hq, he⟩ := wd_at hm (e3 (E := E) (st := st) hb)
  refine va_put (D := E.1) (C := RX4) (T := TX4) (N := 6) (ty := .object "PlankBridge$Book") C.1 C.2.1 C.2.2.2.2.1 in3 tyX4 tyX4_ok nmX4 C.2.2.2.1 C.2.2.2.2.2.1 hP C.D hS q0 he rfl 1 (by decide) (C.T q) (fun _ h9 => h9) rfl (by decide +kernel) rfl rfl (Nat.le_of_ble_eq_true rfl) hdg (fun H1 locs1 hP1 hD1 hS1 => kk H1 locs1 ?_ hS1)
  rw [wd_set (st' := uR st b 1 v) C.N hq ?_ sR_o] at hP1
  · exact hP1
  · rw [e3 hb, s3_1]
theorem gf3_2 (C : Cx E L own cc nL p s m args c) (hP : va_P E.1 vwCl (wd E L st) H) {b index : Nat} (hb : kd b = 3) (hm : b ∈ L) (q : .fieldLink own index "PlankBridge$Reader" "at" "I" ∈ lw_tbl) (hdg : decode cc pc = .ok (.getfield index, 3)) (kk : W p l e R s m args below meth c H locs cells slots Q (F0 m (pc + 3) ls (.int (gI st b 2) :: rest))) : W p l e R s m args below meth c H locs cells slots Q (F0 m pc ls (.ref (E.2.1 b) :: rest)) := by
  obtain ⟨q0, -, he⟩ := wd_at hm (e3 (E := E) (st := st) hb)
  exact va_get (D := E.1) (C := RX4) (T := TX4) (N := 6) C.1 C.2.1 C.2.2.2.2.1 in3 C.2.2.2.1 C.2.2.2.2.2.1 hP q0 he rfl 2 (by decide) (C.T q) (fun _ h9 => h9) f3_2 hdg kk
theorem pf3_2 (C : Cx E L own cc nL p s m args c) (hP : va_P E.1 vwCl (wd E L st) H) (hS : va_S (fA E L s.heap.size) s.heap H locs) {b index : Nat} (hb : kd b = 3) (hm : b ∈ L) {v : Int32} (q : .fieldLink own index "PlankBridge$Reader" "at" "I" ∈ lw_tbl) (hdg : decode cc pc = .ok (.putfield index, 3)) (kk : ∀ (H1 : Heap) (locs1 : List Loc), va_P E.1 vwCl (wd E L (uI st b 2 v)) H1 → va_S (fA E L s.heap.size) s.heap H1 locs1 → W p l e R s m args below meth c H1 locs1 cells slots Q (F0 m (pc + 3) ls rest)) : W p l e R s m args below meth c H locs cells slots Q (F0 m pc ls (.int v :: .ref (E.2.1 b) :: rest)) := by
  obtain ⟨q0, hq, he⟩ := wd_at hm (e3 (E := E) (st := st) hb)
  refine va_put (D := E.1) (C := RX4) (T := TX4) (N := 6) (ty := .int) C.1 C.2.1 C.2.2.2.2.1 in3 tyX4 tyX4_ok nmX4 C.2.2.2.1 C.2.2.2.2.2.1 hP C.D hS q0 he rfl 2 (by decide) (C.T q) (fun _ h9 => h9) rfl (by decide +kernel) rfl rfl (Nat.le_of_ble_eq_true rfl) hdg (fun H1 locs1 hP1 hD1 hS1 => kk H1 locs1 ?_ hS1)
  rw [wd_set (st' := uI st b 2 v) C.N hq ?_ sI_o] at hP1
  · exact hP1
  · rw [e3 hb, s3_2]
theorem gf3_3 (C : Cx E L own cc nL p s m args c) (hP : va_P E.1 vwCl (wd E L st) H) {b index : Nat} (hb : kd b = 3) (hm : b ∈ L) (q : .fieldLink own index "PlankBridge$Reader" "kind" "LPlankBridge$Kind;" ∈ lw_tbl) (hdg : decode cc pc = .ok (.getfield index, 3)) (kk : W p l e R s m args below meth c H locs cells slots Q (F0 m (pc + 3) ls (va_re E.2.2.1 (gK st b 3) :: rest))) : W p l e R s m args below meth c H locs cells slots Q (F0 m pc ls (.ref (E.2.1 b) :: rest)) := by
  obtain ⟨q0, -, he⟩ := wd_at hm (e3 (E := E) (st := st) hb)
  exact va_get (D := E.1) (C := RX4) (T := TX4) (N := 6) C.1 C.2.1 C.2.2.2.2.1 in3 C.2.2.2.1 C.2.2.2.2.2.1 hP q0 he rfl 3 (by decide) (C.T q) (fun _ h9 => h9) f3_3 hdg kk
theorem pf3_3 (C : Cx E L own cc nL p s m args c) (hP : va_P E.1 vwCl (wd E L st) H) (hS : va_S (fA E L s.heap.size) s.heap H locs) {b index : Nat} (hb : kd b = 3) (hm : b ∈ L) {v : Option Nat} (q : .fieldLink own index "PlankBridge$Reader" "kind" "LPlankBridge$Kind;" ∈ lw_tbl) (hdg : decode cc pc = .ok (.putfield index, 3)) (kk : ∀ (H1 : Heap) (locs1 : List Loc), va_P E.1 vwCl (wd E L (uK st b 3 v)) H1 → va_S (fA E L s.heap.size) s.heap H1 locs1 → W p l e R s m args below meth c H1 locs1 cells slots Q (F0 m (pc + 3) ls rest)) : W p l e R s m args below meth c H locs cells slots Q (F0 m pc ls (va_re E.2.2.1 v :: .ref (E.2.1 b) :: rest)) := by
  obtain ⟨q0, hq, he⟩ := wd_at hm (e3 (E := E) (st := st) hb)
  refine va_put (D := E.1) (C := RX4) (T := TX4) (N := 6) (ty := .object "PlankBridge$Kind") C.1 C.2.1 C.2.2.2.2.1 in3 tyX4 tyX4_ok nmX4 C.2.2.2.1 C.2.2.2.2.2.1 hP C.D hS q0 he rfl 3 (by decide) (C.T q) (fun _ h9 => h9) rfl (by decide +kernel) (by cases v <;> rfl) (by cases v <;> rfl) (Nat.le_of_ble_eq_true rfl) hdg (fun H1 locs1 hP1 hD1 hS1 => kk H1 locs1 ?_ hS1)
  rw [wd_set (st' := uK st b 3 v) C.N hq ?_ sK_o] at hP1
  · exact hP1
  · rw [e3 hb, s3_3]
theorem gf3_4 (C : Cx E L own cc nL p s m args c) (hP : va_P E.1 vwCl (wd E L st) H) {b index : Nat} (hb : kd b = 3) (hm : b ∈ L) (q : .fieldLink own index "PlankBridge$Reader" "error" "I" ∈ lw_tbl) (hdg : decode cc pc = .ok (.getfield index, 3)) (kk : W p l e R s m args below meth c H locs cells slots Q (F0 m (pc + 3) ls (.int (gI st b 4) :: rest))) : W p l e R s m args below meth c H locs cells slots Q (F0 m pc ls (.ref (E.2.1 b) :: rest)) := by
  obtain ⟨q0, -, he⟩ := wd_at hm (e3 (E := E) (st := st) hb)
  exact va_get (D := E.1) (C := RX4) (T := TX4) (N := 6) C.1 C.2.1 C.2.2.2.2.1 in3 C.2.2.2.1 C.2.2.2.2.2.1 hP q0 he rfl 4 (by decide) (C.T q) (fun _ h9 => h9) f3_4 hdg kk
theorem pf3_4 (C : Cx E L own cc nL p s m args c) (hP : va_P E.1 vwCl (wd E L st) H) (hS : va_S (fA E L s.heap.size) s.heap H locs) {b index : Nat} (hb : kd b = 3) (hm : b ∈ L) {v : Int32} (q : .fieldLink own index "PlankBridge$Reader" "error" "I" ∈ lw_tbl) (hdg : decode cc pc = .ok (.putfield index, 3)) (kk : ∀ (H1 : Heap) (locs1 : List Loc), va_P E.1 vwCl (wd E L (uI st b 4 v)) H1 → va_S (fA E L s.heap.size) s.heap H1 locs1 → W p l e R s m args below meth c H1 locs1 cells slots Q (F0 m (pc + 3) ls rest)) : W p l e R s m args below meth c H locs cells slots Q (F0 m pc ls (.int v :: .ref (E.2.1 b) :: rest)) := by
  obtain ⟨q0, hq, he⟩ := wd_at hm (e3 (E := E) (st := st) hb)
  refine va_put (D := E.1) (C := RX4) (T := TX4) (N := 6) (ty := .int) C.1 C.2.1 C.2.2.2.2.1 in3 tyX4 tyX4_ok nmX4 C.2.2.2.1 C.2.2.2.2.2.1 hP C.D hS q0 he rfl 4 (by decide) (C.T q) (fun _ h9 => h9) rfl (by decide +kernel) rfl rfl (Nat.le_of_ble_eq_true rfl) hdg (fun H1 locs1 hP1 hD1 hS1 => kk H1 locs1 ?_ hS1)
  rw [wd_set (st' := uI st b 4 v) C.N hq ?_ sI_o] at hP1
  · exact hP1
  · rw [e3 hb, s3_4]
theorem gf3_5 (C : Cx E L own cc nL p s m args c) (hP : va_P E.1 vwCl (wd E L st) H) {b index : Nat} (hb : kd b = 3) (hm : b ∈ L) (q : .fieldLink own index "PlankBridge$Reader" "errorToken" "I" ∈ lw_tbl) (hdg : decode cc pc = .ok (.getfield index, 3)) (kk : W p l e R s m args below meth c H locs cells slots Q (F0 m (pc + 3) ls (.int (gI st b 5) :: rest))) : W p l e R s m args below meth c H locs cells slots Q (F0 m pc ls (.ref (E.2.1 b) :: rest)) := by
  obtain ⟨q0, -, he⟩ := wd_at hm (e3 (E := E) (st := st) hb)
  exact va_get (D := E.1) (C := RX4) (T := TX4) (N := 6) C.1 C.2.1 C.2.2.2.2.1 in3 C.2.2.2.1 C.2.2.2.2.2.1 hP q0 he rfl 5 (by decide) (C.T q) (fun _ h9 => h9) f3_5 hdg kk
theorem pf3_5 (C : Cx E L own cc nL p s m args c) (hP : va_P E.1 vwCl (wd E L st) H) (hS : va_S (fA E L s.heap.size) s.heap H locs) {b index : Nat} (hb : kd b = 3) (hm : b ∈ L) {v : Int32} (q : .fieldLink own index "PlankBridge$Reader" "errorToken" "I" ∈ lw_tbl) (hdg : decode cc pc = .ok (.putfield index, 3)) (kk : ∀ (H1 : Heap) (locs1 : List Loc), va_P E.1 vwCl (wd E L (uI st b 5 v)) H1 → va_S (fA E L s.heap.size) s.heap H1 locs1 → W p l e R s m args below meth c H1 locs1 cells slots Q (F0 m (pc + 3) ls rest)) : W p l e R s m args below meth c H locs cells slots Q (F0 m pc ls (.int v :: .ref (E.2.1 b) :: rest)) := by
  obtain ⟨q0, hq, he⟩ := wd_at hm (e3 (E := E) (st := st) hb)
  refine va_put (D := E.1) (C := RX4) (T := TX4) (N := 6) (ty := .int) C.1 C.2.1 C.2.2.2.2.1 in3 tyX4 tyX4_ok nmX4 C.2.2.2.1 C.2.2.2.2.2.1 hP C.D hS q0 he rfl 5 (by decide) (C.T q) (fun _ h9 => h9) rfl (by decide +kernel) rfl rfl (Nat.le_of_ble_eq_true rfl) hdg (fun H1 locs1 hP1 hD1 hS1 => kk H1 locs1 ?_ hS1)
  rw [wd_set (st' := uI st b 5 v) C.N hq ?_ sI_o] at hP1
  · exact hP1
  · rw [e3 hb, s3_5]
theorem gf4_0 (C : Cx E L own cc nL p s m args c) (hP : va_P E.1 vwCl (wd E L st) H) {b index : Nat} (hb : kd b = 4) (hm : b ∈ L) (q : .fieldLink own index "PlankBridge$Run" "book" "LPlankBridge$Book;" ∈ lw_tbl) (hdg : decode cc pc = .ok (.getfield index, 3)) (kk : W p l e R s m args below meth c H locs cells slots Q (F0 m (pc + 3) ls (.ref (E.2.1 (gR st b 0)) :: rest))) : W p l e R s m args below meth c H locs cells slots Q (F0 m pc ls (.ref (E.2.1 b) :: rest)) := by
  obtain ⟨q0, -, he⟩ := wd_at hm (e4 (E := E) (st := st) hb)
  exact va_get (D := E.1) (C := RX5) (T := TX5) (N := 5) C.1 C.2.1 C.2.2.2.2.1 in4 C.2.2.2.1 C.2.2.2.2.2.1 hP q0 he rfl 0 (by decide) (C.T q) (fun _ h9 => h9) f4_0 hdg kk
theorem pf4_0 (C : Cx E L own cc nL p s m args c) (hP : va_P E.1 vwCl (wd E L st) H) (hS : va_S (fA E L s.heap.size) s.heap H locs) {b index : Nat} (hb : kd b = 4) (hm : b ∈ L) {v : Nat} (q : .fieldLink own index "PlankBridge$Run" "book" "LPlankBridge$Book;" ∈ lw_tbl) (hdg : decode cc pc = .ok (.putfield index, 3)) (kk : ∀ (H1 : Heap) (locs1 : List Loc), va_P E.1 vwCl (wd E L (uR st b 0 v)) H1 → va_S (fA E L s.heap.size) s.heap H1 locs1 → W p l e R s m args below meth c H1 locs1 cells slots Q (F0 m (pc + 3) ls rest)) : W p l e R s m args below meth c H locs cells slots Q (F0 m pc ls (.ref (E.2.1 v) :: .ref (E.2.1 b) :: rest)) := by
  obtain ⟨q0, hq, he⟩ := wd_at hm (e4 (E := E) (st := st) hb)
  refine va_put (D := E.1) (C := RX5) (T := TX5) (N := 5) (ty := .object "PlankBridge$Book") C.1 C.2.1 C.2.2.2.2.1 in4 tyX5 tyX5_ok nmX5 C.2.2.2.1 C.2.2.2.2.2.1 hP C.D hS q0 he rfl 0 (by decide) (C.T q) (fun _ h9 => h9) rfl (by decide +kernel) rfl rfl (Nat.le_of_ble_eq_true rfl) hdg (fun H1 locs1 hP1 hD1 hS1 => kk H1 locs1 ?_ hS1)
  rw [wd_set (st' := uR st b 0 v) C.N hq ?_ sR_o] at hP1
  · exact hP1
  · rw [e4 hb, s4_0]
theorem gf4_1 (C : Cx E L own cc nL p s m args c) (hP : va_P E.1 vwCl (wd E L st) H) {b index : Nat} (hb : kd b = 4) (hm : b ∈ L) (q : .fieldLink own index "PlankBridge$Run" "bridge" "LPlankBridge$Bridge;" ∈ lw_tbl) (hdg : decode cc pc = .ok (.getfield index, 3)) (kk : W p l e R s m args below meth c H locs cells slots Q (F0 m (pc + 3) ls (.ref (E.2.1 (gR st b 1)) :: rest))) : W p l e R s m args below meth c H locs cells slots Q (F0 m pc ls (.ref (E.2.1 b) :: rest)) := by
  obtain ⟨q0, -, he⟩ := wd_at hm (e4 (E := E) (st := st) hb)
  exact va_get (D := E.1) (C := RX5) (T := TX5) (N := 5) C.1 C.2.1 C.2.2.2.2.1 in4 C.2.2.2.1 C.2.2.2.2.2.1 hP q0 he rfl 1 (by decide) (C.T q) (fun _ h9 => h9) f4_1 hdg kk
theorem pf4_1 (C : Cx E L own cc nL p s m args c) (hP : va_P E.1 vwCl (wd E L st) H) (hS : va_S (fA E L s.heap.size) s.heap H locs) {b index : Nat} (hb : kd b = 4) (hm : b ∈ L) {v : Nat} (q : .fieldLink own index "PlankBridge$Run" "bridge" "LPlankBridge$Bridge;" ∈ lw_tbl) (hdg : decode cc pc = .ok (.putfield index, 3)) (kk : ∀ (H1 : Heap) (locs1 : List Loc), va_P E.1 vwCl (wd E L (uR st b 1 v)) H1 → va_S (fA E L s.heap.size) s.heap H1 locs1 → W p l e R s m args below meth c H1 locs1 cells slots Q (F0 m (pc + 3) ls rest)) : W p l e R s m args below meth c H locs cells slots Q (F0 m pc ls (.ref (E.2.1 v) :: .ref (E.2.1 b) :: rest)) := by
  obtain ⟨q0, hq, he⟩ := wd_at hm (e4 (E := E) (st := st) hb)
  refine va_put (D := E.1) (C := RX5) (T := TX5) (N := 5) (ty := .object "PlankBridge$Bridge") C.1 C.2.1 C.2.2.2.2.1 in4 tyX5 tyX5_ok nmX5 C.2.2.2.1 C.2.2.2.2.2.1 hP C.D hS q0 he rfl 1 (by decide) (C.T q) (fun _ h9 => h9) rfl (by decide +kernel) rfl rfl (Nat.le_of_ble_eq_true rfl) hdg (fun H1 locs1 hP1 hD1 hS1 => kk H1 locs1 ?_ hS1)
  rw [wd_set (st' := uR st b 1 v) C.N hq ?_ sR_o] at hP1
  · exact hP1
  · rw [e4 hb, s4_1]
theorem gf4_2 (C : Cx E L own cc nL p s m args c) (hP : va_P E.1 vwCl (wd E L st) H) {b index : Nat} (hb : kd b = 4) (hm : b ∈ L) (q : .fieldLink own index "PlankBridge$Run" "opened" "[I" ∈ lw_tbl) (hdg : decode cc pc = .ok (.getfield index, 3)) (kk : W p l e R s m args below meth c H locs cells slots Q (F0 m (pc + 3) ls (.ref (E.2.1 (b + 1)) :: rest))) : W p l e R s m args below meth c H locs cells slots Q (F0 m pc ls (.ref (E.2.1 b) :: rest)) := by
  obtain ⟨q0, -, he⟩ := wd_at hm (e4 (E := E) (st := st) hb)
  exact va_get (D := E.1) (C := RX5) (T := TX5) (N := 5) C.1 C.2.1 C.2.2.2.2.1 in4 C.2.2.2.1 C.2.2.2.2.2.1 hP q0 he rfl 2 (by decide) (C.T q) (fun _ h9 => h9) f4_2 hdg kk
theorem gf4_3 (C : Cx E L own cc nL p s m args c) (hP : va_P E.1 vwCl (wd E L st) H) {b index : Nat} (hb : kd b = 4) (hm : b ∈ L) (q : .fieldLink own index "PlankBridge$Run" "depth" "I" ∈ lw_tbl) (hdg : decode cc pc = .ok (.getfield index, 3)) (kk : W p l e R s m args below meth c H locs cells slots Q (F0 m (pc + 3) ls (.int (gI st b 3) :: rest))) : W p l e R s m args below meth c H locs cells slots Q (F0 m pc ls (.ref (E.2.1 b) :: rest)) := by
  obtain ⟨q0, -, he⟩ := wd_at hm (e4 (E := E) (st := st) hb)
  exact va_get (D := E.1) (C := RX5) (T := TX5) (N := 5) C.1 C.2.1 C.2.2.2.2.1 in4 C.2.2.2.1 C.2.2.2.2.2.1 hP q0 he rfl 3 (by decide) (C.T q) (fun _ h9 => h9) f4_3 hdg kk
theorem pf4_3 (C : Cx E L own cc nL p s m args c) (hP : va_P E.1 vwCl (wd E L st) H) (hS : va_S (fA E L s.heap.size) s.heap H locs) {b index : Nat} (hb : kd b = 4) (hm : b ∈ L) {v : Int32} (q : .fieldLink own index "PlankBridge$Run" "depth" "I" ∈ lw_tbl) (hdg : decode cc pc = .ok (.putfield index, 3)) (kk : ∀ (H1 : Heap) (locs1 : List Loc), va_P E.1 vwCl (wd E L (uI st b 3 v)) H1 → va_S (fA E L s.heap.size) s.heap H1 locs1 → W p l e R s m args below meth c H1 locs1 cells slots Q (F0 m (pc + 3) ls rest)) : W p l e R s m args below meth c H locs cells slots Q (F0 m pc ls (.int v :: .ref (E.2.1 b) :: rest)) := by
  obtain ⟨q0, hq, he⟩ := wd_at hm (e4 (E := E) (st := st) hb)
  refine va_put (D := E.1) (C := RX5) (T := TX5) (N := 5) (ty := .int) C.1 C.2.1 C.2.2.2.2.1 in4 tyX5 tyX5_ok nmX5 C.2.2.2.1 C.2.2.2.2.2.1 hP C.D hS q0 he rfl 3 (by decide) (C.T q) (fun _ h9 => h9) rfl (by decide +kernel) rfl rfl (Nat.le_of_ble_eq_true rfl) hdg (fun H1 locs1 hP1 hD1 hS1 => kk H1 locs1 ?_ hS1)
  rw [wd_set (st' := uI st b 3 v) C.N hq ?_ sI_o] at hP1
  · exact hP1
  · rw [e4 hb, s4_3]
theorem gf4_4 (C : Cx E L own cc nL p s m args c) (hP : va_P E.1 vwCl (wd E L st) H) {b index : Nat} (hb : kd b = 4) (hm : b ∈ L) (q : .fieldLink own index "PlankBridge$Run" "at" "I" ∈ lw_tbl) (hdg : decode cc pc = .ok (.getfield index, 3)) (kk : W p l e R s m args below meth c H locs cells slots Q (F0 m (pc + 3) ls (.int (gI st b 4) :: rest))) : W p l e R s m args below meth c H locs cells slots Q (F0 m pc ls (.ref (E.2.1 b) :: rest)) := by
  obtain ⟨q0, -, he⟩ := wd_at hm (e4 (E := E) (st := st) hb)
  exact va_get (D := E.1) (C := RX5) (T := TX5) (N := 5) C.1 C.2.1 C.2.2.2.2.1 in4 C.2.2.2.1 C.2.2.2.2.2.1 hP q0 he rfl 4 (by decide) (C.T q) (fun _ h9 => h9) f4_4 hdg kk
theorem pf4_4 (C : Cx E L own cc nL p s m args c) (hP : va_P E.1 vwCl (wd E L st) H) (hS : va_S (fA E L s.heap.size) s.heap H locs) {b index : Nat} (hb : kd b = 4) (hm : b ∈ L) {v : Int32} (q : .fieldLink own index "PlankBridge$Run" "at" "I" ∈ lw_tbl) (hdg : decode cc pc = .ok (.putfield index, 3)) (kk : ∀ (H1 : Heap) (locs1 : List Loc), va_P E.1 vwCl (wd E L (uI st b 4 v)) H1 → va_S (fA E L s.heap.size) s.heap H1 locs1 → W p l e R s m args below meth c H1 locs1 cells slots Q (F0 m (pc + 3) ls rest)) : W p l e R s m args below meth c H locs cells slots Q (F0 m pc ls (.int v :: .ref (E.2.1 b) :: rest)) := by
  obtain ⟨q0, hq, he⟩ := wd_at hm (e4 (E := E) (st := st) hb)
  refine va_put (D := E.1) (C := RX5) (T := TX5) (N := 5) (ty := .int) C.1 C.2.1 C.2.2.2.2.1 in4 tyX5 tyX5_ok nmX5 C.2.2.2.1 C.2.2.2.2.2.1 hP C.D hS q0 he rfl 4 (by decide) (C.T q) (fun _ h9 => h9) rfl (by decide +kernel) rfl rfl (Nat.le_of_ble_eq_true rfl) hdg (fun H1 locs1 hP1 hD1 hS1 => kk H1 locs1 ?_ hS1)
  rw [wd_set (st' := uI st b 4 v) C.N hq ?_ sI_o] at hP1
  · exact hP1
  · rw [e4 hb, s4_4]
theorem gf5_0 (C : Cx E L own cc nL p s m args c) (hP : va_P E.1 vwCl (wd E L st) H) {b index : Nat} (hb : kd b = 5) (hm : b ∈ L) (q : .fieldLink own index "PlankBridge$Tape" "bytes" "[B" ∈ lw_tbl) (hdg : decode cc pc = .ok (.getfield index, 3)) (kk : W p l e R s m args below meth c H locs cells slots Q (F0 m (pc + 3) ls (.ref (E.2.1 (b + 1)) :: rest))) : W p l e R s m args below meth c H locs cells slots Q (F0 m pc ls (.ref (E.2.1 b) :: rest)) := by
  obtain ⟨q0, -, he⟩ := wd_at hm (e5 (E := E) (st := st) hb)
  exact va_get (D := E.1) (C := RX6) (T := TX6) (N := 2) C.1 C.2.1 C.2.2.2.2.1 in5 C.2.2.2.1 C.2.2.2.2.2.1 hP q0 he rfl 0 (by decide) (C.T q) (fun _ h9 => h9) f5_0 hdg kk
theorem gf5_1 (C : Cx E L own cc nL p s m args c) (hP : va_P E.1 vwCl (wd E L st) H) {b index : Nat} (hb : kd b = 5) (hm : b ∈ L) (q : .fieldLink own index "PlankBridge$Tape" "length" "I" ∈ lw_tbl) (hdg : decode cc pc = .ok (.getfield index, 3)) (kk : W p l e R s m args below meth c H locs cells slots Q (F0 m (pc + 3) ls (.int (gI st b 1) :: rest))) : W p l e R s m args below meth c H locs cells slots Q (F0 m pc ls (.ref (E.2.1 b) :: rest)) := by
  obtain ⟨q0, -, he⟩ := wd_at hm (e5 (E := E) (st := st) hb)
  exact va_get (D := E.1) (C := RX6) (T := TX6) (N := 2) C.1 C.2.1 C.2.2.2.2.1 in5 C.2.2.2.1 C.2.2.2.2.2.1 hP q0 he rfl 1 (by decide) (C.T q) (fun _ h9 => h9) f5_1 hdg kk
theorem pf5_1 (C : Cx E L own cc nL p s m args c) (hP : va_P E.1 vwCl (wd E L st) H) (hS : va_S (fA E L s.heap.size) s.heap H locs) {b index : Nat} (hb : kd b = 5) (hm : b ∈ L) {v : Int32} (q : .fieldLink own index "PlankBridge$Tape" "length" "I" ∈ lw_tbl) (hdg : decode cc pc = .ok (.putfield index, 3)) (kk : ∀ (H1 : Heap) (locs1 : List Loc), va_P E.1 vwCl (wd E L (uI st b 1 v)) H1 → va_S (fA E L s.heap.size) s.heap H1 locs1 → W p l e R s m args below meth c H1 locs1 cells slots Q (F0 m (pc + 3) ls rest)) : W p l e R s m args below meth c H locs cells slots Q (F0 m pc ls (.int v :: .ref (E.2.1 b) :: rest)) := by
  obtain ⟨q0, hq, he⟩ := wd_at hm (e5 (E := E) (st := st) hb)
  refine va_put (D := E.1) (C := RX6) (T := TX6) (N := 2) (ty := .int) C.1 C.2.1 C.2.2.2.2.1 in5 tyX6 tyX6_ok nmX6 C.2.2.2.1 C.2.2.2.2.2.1 hP C.D hS q0 he rfl 1 (by decide) (C.T q) (fun _ h9 => h9) rfl (by decide +kernel) rfl rfl (Nat.le_of_ble_eq_true rfl) hdg (fun H1 locs1 hP1 hD1 hS1 => kk H1 locs1 ?_ hS1)
  rw [wd_set (st' := uI st b 1 v) C.N hq ?_ sI_o] at hP1
  · exact hP1
  · rw [e5 hb, s5_1]
theorem gn5_1 (C : Cx E L own cc nL p s m args c) (hP : va_P E.1 vwCl (wd E L st) H) {b index : Nat} (hb : kd b = 5) (hm : b ∈ L) (q : .fieldLinkNest own index "PlankBridge$Tape" "length" "I" host ∈ lw_tbl) (hdg : decode cc pc = .ok (.getfield index, 3)) (kk : W p l e R s m args below meth c H locs cells slots Q (F0 m (pc + 3) ls (.int (gI st b 1) :: rest))) : W p l e R s m args below meth c H locs cells slots Q (F0 m pc ls (.ref (E.2.1 b) :: rest)) := by
  obtain ⟨q0, -, he⟩ := wd_at hm (e5 (E := E) (st := st) hb)
  exact va_getN (D := E.1) (C := RX6) (T := TX6) (N := 2) C.1 C.2.1 C.2.2.2.2.1 in5 C.2.2.2.1 C.2.2.2.2.2.1 hP q0 he rfl 1 (by decide) (C.Tn q) (fun _ h9 => h9) f5_1 hdg kk
theorem pn5_1 (C : Cx E L own cc nL p s m args c) (hP : va_P E.1 vwCl (wd E L st) H) (hS : va_S (fA E L s.heap.size) s.heap H locs) {b index : Nat} (hb : kd b = 5) (hm : b ∈ L) {v : Int32} (q : .fieldLinkNest own index "PlankBridge$Tape" "length" "I" host ∈ lw_tbl) (hdg : decode cc pc = .ok (.putfield index, 3)) (kk : ∀ (H1 : Heap) (locs1 : List Loc), va_P E.1 vwCl (wd E L (uI st b 1 v)) H1 → va_S (fA E L s.heap.size) s.heap H1 locs1 → W p l e R s m args below meth c H1 locs1 cells slots Q (F0 m (pc + 3) ls rest)) : W p l e R s m args below meth c H locs cells slots Q (F0 m pc ls (.int v :: .ref (E.2.1 b) :: rest)) := by
  obtain ⟨q0, hq, he⟩ := wd_at hm (e5 (E := E) (st := st) hb)
  refine va_putN (D := E.1) (C := RX6) (T := TX6) (N := 2) (ty := .int) C.1 C.2.1 C.2.2.2.2.1 in5 tyX6 tyX6_ok nmX6 C.2.2.2.1 C.2.2.2.2.2.1 hP C.D hS q0 he rfl 1 (by decide) (C.Tn q) (fun _ h9 => h9) rfl (by decide +kernel) rfl rfl (Nat.le_of_ble_eq_true rfl) hdg (fun H1 locs1 hP1 hD1 hS1 => kk H1 locs1 ?_ hS1)
  rw [wd_set (st' := uI st b 1 v) C.N hq ?_ sI_o] at hP1
  · exact hP1
  · rw [e5 hb, s5_1]
theorem gf6_0 (C : Cx E L own cc nL p s m args c) (hP : va_P E.1 vwCl (wd E L st) H) {b index : Nat} (hb : kd b = 6) (hm : b ∈ L) (q : .fieldLink own index "PlankBridge$Tokens" "kinds" "[LPlankBridge$Kind;" ∈ lw_tbl) (hdg : decode cc pc = .ok (.getfield index, 3)) (kk : W p l e R s m args below meth c H locs cells slots Q (F0 m (pc + 3) ls (.ref (E.2.1 (b + 1)) :: rest))) : W p l e R s m args below meth c H locs cells slots Q (F0 m pc ls (.ref (E.2.1 b) :: rest)) := by
  obtain ⟨q0, -, he⟩ := wd_at hm (e6 (E := E) (st := st) hb)
  exact va_get (D := E.1) (C := RX7) (T := TX7) (N := 5) C.1 C.2.1 C.2.2.2.2.1 in6 C.2.2.2.1 C.2.2.2.2.2.1 hP q0 he rfl 0 (by decide) (C.T q) (fun _ h9 => h9) f6_0 hdg kk
theorem gf6_1 (C : Cx E L own cc nL p s m args c) (hP : va_P E.1 vwCl (wd E L st) H) {b index : Nat} (hb : kd b = 6) (hm : b ∈ L) (q : .fieldLink own index "PlankBridge$Tokens" "positions" "[I" ∈ lw_tbl) (hdg : decode cc pc = .ok (.getfield index, 3)) (kk : W p l e R s m args below meth c H locs cells slots Q (F0 m (pc + 3) ls (.ref (E.2.1 (b + 2)) :: rest))) : W p l e R s m args below meth c H locs cells slots Q (F0 m pc ls (.ref (E.2.1 b) :: rest)) := by
  obtain ⟨q0, -, he⟩ := wd_at hm (e6 (E := E) (st := st) hb)
  exact va_get (D := E.1) (C := RX7) (T := TX7) (N := 5) C.1 C.2.1 C.2.2.2.2.1 in6 C.2.2.2.1 C.2.2.2.2.2.1 hP q0 he rfl 1 (by decide) (C.T q) (fun _ h9 => h9) f6_1 hdg kk
theorem gf6_2 (C : Cx E L own cc nL p s m args c) (hP : va_P E.1 vwCl (wd E L st) H) {b index : Nat} (hb : kd b = 6) (hm : b ∈ L) (q : .fieldLink own index "PlankBridge$Tokens" "numbers" "[I" ∈ lw_tbl) (hdg : decode cc pc = .ok (.getfield index, 3)) (kk : W p l e R s m args below meth c H locs cells slots Q (F0 m (pc + 3) ls (.ref (E.2.1 (b + 3)) :: rest))) : W p l e R s m args below meth c H locs cells slots Q (F0 m pc ls (.ref (E.2.1 b) :: rest)) := by
  obtain ⟨q0, -, he⟩ := wd_at hm (e6 (E := E) (st := st) hb)
  exact va_get (D := E.1) (C := RX7) (T := TX7) (N := 5) C.1 C.2.1 C.2.2.2.2.1 in6 C.2.2.2.1 C.2.2.2.2.2.1 hP q0 he rfl 2 (by decide) (C.T q) (fun _ h9 => h9) f6_2 hdg kk
theorem gf6_3 (C : Cx E L own cc nL p s m args c) (hP : va_P E.1 vwCl (wd E L st) H) {b index : Nat} (hb : kd b = 6) (hm : b ∈ L) (q : .fieldLink own index "PlankBridge$Tokens" "words" "[J" ∈ lw_tbl) (hdg : decode cc pc = .ok (.getfield index, 3)) (kk : W p l e R s m args below meth c H locs cells slots Q (F0 m (pc + 3) ls (.ref (E.2.1 (b + 4)) :: rest))) : W p l e R s m args below meth c H locs cells slots Q (F0 m pc ls (.ref (E.2.1 b) :: rest)) := by
  obtain ⟨q0, -, he⟩ := wd_at hm (e6 (E := E) (st := st) hb)
  exact va_get (D := E.1) (C := RX7) (T := TX7) (N := 5) C.1 C.2.1 C.2.2.2.2.1 in6 C.2.2.2.1 C.2.2.2.2.2.1 hP q0 he rfl 3 (by decide) (C.T q) (fun _ h9 => h9) f6_3 hdg kk
theorem gf6_4 (C : Cx E L own cc nL p s m args c) (hP : va_P E.1 vwCl (wd E L st) H) {b index : Nat} (hb : kd b = 6) (hm : b ∈ L) (q : .fieldLink own index "PlankBridge$Tokens" "count" "I" ∈ lw_tbl) (hdg : decode cc pc = .ok (.getfield index, 3)) (kk : W p l e R s m args below meth c H locs cells slots Q (F0 m (pc + 3) ls (.int (gI st b 4) :: rest))) : W p l e R s m args below meth c H locs cells slots Q (F0 m pc ls (.ref (E.2.1 b) :: rest)) := by
  obtain ⟨q0, -, he⟩ := wd_at hm (e6 (E := E) (st := st) hb)
  exact va_get (D := E.1) (C := RX7) (T := TX7) (N := 5) C.1 C.2.1 C.2.2.2.2.1 in6 C.2.2.2.1 C.2.2.2.2.2.1 hP q0 he rfl 4 (by decide) (C.T q) (fun _ h9 => h9) f6_4 hdg kk
theorem pf6_4 (C : Cx E L own cc nL p s m args c) (hP : va_P E.1 vwCl (wd E L st) H) (hS : va_S (fA E L s.heap.size) s.heap H locs) {b index : Nat} (hb : kd b = 6) (hm : b ∈ L) {v : Int32} (q : .fieldLink own index "PlankBridge$Tokens" "count" "I" ∈ lw_tbl) (hdg : decode cc pc = .ok (.putfield index, 3)) (kk : ∀ (H1 : Heap) (locs1 : List Loc), va_P E.1 vwCl (wd E L (uI st b 4 v)) H1 → va_S (fA E L s.heap.size) s.heap H1 locs1 → W p l e R s m args below meth c H1 locs1 cells slots Q (F0 m (pc + 3) ls rest)) : W p l e R s m args below meth c H locs cells slots Q (F0 m pc ls (.int v :: .ref (E.2.1 b) :: rest)) := by
  obtain ⟨q0, hq, he⟩ := wd_at hm (e6 (E := E) (st := st) hb)
  refine va_put (D := E.1) (C := RX7) (T := TX7) (N := 5) (ty := .int) C.1 C.2.1 C.2.2.2.2.1 in6 tyX7 tyX7_ok nmX7 C.2.2.2.1 C.2.2.2.2.2.1 hP C.D hS q0 he rfl 4 (by decide) (C.T q) (fun _ h9 => h9) rfl (by decide +kernel) rfl rfl (Nat.le_of_ble_eq_true rfl) hdg (fun H1 locs1 hP1 hD1 hS1 => kk H1 locs1 ?_ hS1)
  rw [wd_set (st' := uI st b 4 v) C.N hq ?_ sI_o] at hP1
  · exact hP1
  · rw [e6 hb, s6_4]
theorem gf7_0 (C : Cx E L own cc nL p s m args c) (hP : va_P E.1 vwCl (wd E L st) H) {b index : Nat} (hb : kd b = 7) (hm : b ∈ L) (q : .fieldLink own index "PlankBridge$Ways" "bridge" "LPlankBridge$Bridge;" ∈ lw_tbl) (hdg : decode cc pc = .ok (.getfield index, 3)) (kk : W p l e R s m args below meth c H locs cells slots Q (F0 m (pc + 3) ls (.ref (E.2.1 4) :: rest))) : W p l e R s m args below meth c H locs cells slots Q (F0 m pc ls (.ref (E.2.1 b) :: rest)) := by
  obtain ⟨q0, -, he⟩ := wd_at hm (e7 (E := E) (st := st) hb)
  exact va_get (D := E.1) (C := RX8) (T := TX8) (N := 3) C.1 C.2.1 C.2.2.2.2.1 in7 C.2.2.2.1 C.2.2.2.2.2.1 hP q0 he rfl 0 (by decide) (C.T q) (fun _ h9 => h9) f7_0 hdg kk
theorem gf7_1 (C : Cx E L own cc nL p s m args c) (hP : va_P E.1 vwCl (wd E L st) H) {b index : Nat} (hb : kd b = 7) (hm : b ∈ L) (q : .fieldLink own index "PlankBridge$Ways" "fewest" "[I" ∈ lw_tbl) (hdg : decode cc pc = .ok (.getfield index, 3)) (kk : W p l e R s m args below meth c H locs cells slots Q (F0 m (pc + 3) ls (.ref (E.2.1 (b + 1)) :: rest))) : W p l e R s m args below meth c H locs cells slots Q (F0 m pc ls (.ref (E.2.1 b) :: rest)) := by
  obtain ⟨q0, -, he⟩ := wd_at hm (e7 (E := E) (st := st) hb)
  exact va_get (D := E.1) (C := RX8) (T := TX8) (N := 3) C.1 C.2.1 C.2.2.2.2.1 in7 C.2.2.2.1 C.2.2.2.2.2.1 hP q0 he rfl 1 (by decide) (C.T q) (fun _ h9 => h9) f7_1 hdg kk
theorem gf7_2 (C : Cx E L own cc nL p s m args c) (hP : va_P E.1 vwCl (wd E L st) H) {b index : Nat} (hb : kd b = 7) (hm : b ∈ L) (q : .fieldLink own index "PlankBridge$Ways" "ready" "Z" ∈ lw_tbl) (hdg : decode cc pc = .ok (.getfield index, 3)) (kk : W p l e R s m args below meth c H locs cells slots Q (F0 m (pc + 3) ls (.int (gI st b 2) :: rest))) : W p l e R s m args below meth c H locs cells slots Q (F0 m pc ls (.ref (E.2.1 b) :: rest)) := by
  obtain ⟨q0, -, he⟩ := wd_at hm (e7 (E := E) (st := st) hb)
  exact va_get (D := E.1) (C := RX8) (T := TX8) (N := 3) C.1 C.2.1 C.2.2.2.2.1 in7 C.2.2.2.1 C.2.2.2.2.2.1 hP q0 he rfl 2 (by decide) (C.T q) (fun _ h9 => h9) f7_2 hdg kk
theorem pf7_2 (C : Cx E L own cc nL p s m args c) (hP : va_P E.1 vwCl (wd E L st) H) (hS : va_S (fA E L s.heap.size) s.heap H locs) {b index : Nat} (hb : kd b = 7) (hm : b ∈ L) {v : Int32} (hz : bz v) (q : .fieldLink own index "PlankBridge$Ways" "ready" "Z" ∈ lw_tbl) (hdg : decode cc pc = .ok (.putfield index, 3)) (kk : ∀ (H1 : Heap) (locs1 : List Loc), va_P E.1 vwCl (wd E L (uI st b 2 v)) H1 → va_S (fA E L s.heap.size) s.heap H1 locs1 → W p l e R s m args below meth c H1 locs1 cells slots Q (F0 m (pc + 3) ls rest)) : W p l e R s m args below meth c H locs cells slots Q (F0 m pc ls (.int v :: .ref (E.2.1 b) :: rest)) := by
  obtain ⟨q0, hq, he⟩ := wd_at hm (e7 (E := E) (st := st) hb)
  refine va_put (D := E.1) (C := RX8) (T := TX8) (N := 3) (ty := .boolean) C.1 C.2.1 C.2.2.2.2.1 in7 tyX8 tyX8_ok nmX8 C.2.2.2.1 C.2.2.2.2.2.1 hP C.D hS q0 he rfl 2 (by decide) (C.T q) (fun _ h9 => h9) rfl (by decide +kernel) (bz_n hz) (bz_f hz) (Nat.le_of_ble_eq_true rfl) hdg (fun H1 locs1 hP1 hD1 hS1 => kk H1 locs1 ?_ hS1)
  rw [wd_set (st' := uI st b 2 v) C.N hq ?_ sI_o] at hP1
  · exact hP1
  · rw [e7 hb, s7_2]
theorem gf8_0 (C : Cx E L own cc nL p s m args c) (hP : va_P E.1 vwCl (wd E L st) H) {b index : Nat} (hb : kd b = 8) (hm : b ∈ L) (q : .fieldLink own index "PlankBridge" "tape" "LPlankBridge$Tape;" ∈ lw_tbl) (hdg : decode cc pc = .ok (.getfield index, 3)) (kk : W p l e R s m args below meth c H locs cells slots Q (F0 m (pc + 3) ls (.ref (E.2.1 (b + 1)) :: rest))) : W p l e R s m args below meth c H locs cells slots Q (F0 m pc ls (.ref (E.2.1 b) :: rest)) := by
  obtain ⟨q0, -, he⟩ := wd_at hm (e8 (E := E) (st := st) hb)
  exact va_get (D := E.1) (C := RX9) (T := TX9) (N := 9) C.1 C.2.1 C.2.2.2.2.1 in8 C.2.2.2.1 C.2.2.2.2.2.1 hP q0 he rfl 0 (by decide) (C.T q) (fun _ h9 => h9) f8_0 hdg kk
theorem gf8_1 (C : Cx E L own cc nL p s m args c) (hP : va_P E.1 vwCl (wd E L st) H) {b index : Nat} (hb : kd b = 8) (hm : b ∈ L) (q : .fieldLink own index "PlankBridge" "reader" "LPlankBridge$Reader;" ∈ lw_tbl) (hdg : decode cc pc = .ok (.getfield index, 3)) (kk : W p l e R s m args below meth c H locs cells slots Q (F0 m (pc + 3) ls (.ref (E.2.1 (b + 3)) :: rest))) : W p l e R s m args below meth c H locs cells slots Q (F0 m pc ls (.ref (E.2.1 b) :: rest)) := by
  obtain ⟨q0, -, he⟩ := wd_at hm (e8 (E := E) (st := st) hb)
  exact va_get (D := E.1) (C := RX9) (T := TX9) (N := 9) C.1 C.2.1 C.2.2.2.2.1 in8 C.2.2.2.1 C.2.2.2.2.2.1 hP q0 he rfl 1 (by decide) (C.T q) (fun _ h9 => h9) f8_1 hdg kk
theorem gf8_2 (C : Cx E L own cc nL p s m args c) (hP : va_P E.1 vwCl (wd E L st) H) {b index : Nat} (hb : kd b = 8) (hm : b ∈ L) (q : .fieldLink own index "PlankBridge" "bridge" "LPlankBridge$Bridge;" ∈ lw_tbl) (hdg : decode cc pc = .ok (.getfield index, 3)) (kk : W p l e R s m args below meth c H locs cells slots Q (F0 m (pc + 3) ls (.ref (E.2.1 (b + 4)) :: rest))) : W p l e R s m args below meth c H locs cells slots Q (F0 m pc ls (.ref (E.2.1 b) :: rest)) := by
  obtain ⟨q0, -, he⟩ := wd_at hm (e8 (E := E) (st := st) hb)
  exact va_get (D := E.1) (C := RX9) (T := TX9) (N := 9) C.1 C.2.1 C.2.2.2.2.1 in8 C.2.2.2.1 C.2.2.2.2.2.1 hP q0 he rfl 2 (by decide) (C.T q) (fun _ h9 => h9) f8_2 hdg kk
theorem gf8_3 (C : Cx E L own cc nL p s m args c) (hP : va_P E.1 vwCl (wd E L st) H) {b index : Nat} (hb : kd b = 8) (hm : b ∈ L) (q : .fieldLink own index "PlankBridge" "trial" "LPlankBridge$Bridge;" ∈ lw_tbl) (hdg : decode cc pc = .ok (.getfield index, 3)) (kk : W p l e R s m args below meth c H locs cells slots Q (F0 m (pc + 3) ls (.ref (E.2.1 (b + 10)) :: rest))) : W p l e R s m args below meth c H locs cells slots Q (F0 m pc ls (.ref (E.2.1 b) :: rest)) := by
  obtain ⟨q0, -, he⟩ := wd_at hm (e8 (E := E) (st := st) hb)
  exact va_get (D := E.1) (C := RX9) (T := TX9) (N := 9) C.1 C.2.1 C.2.2.2.2.1 in8 C.2.2.2.1 C.2.2.2.2.2.1 hP q0 he rfl 3 (by decide) (C.T q) (fun _ h9 => h9) f8_3 hdg kk
theorem gf8_4 (C : Cx E L own cc nL p s m args c) (hP : va_P E.1 vwCl (wd E L st) H) {b index : Nat} (hb : kd b = 8) (hm : b ∈ L) (q : .fieldLink own index "PlankBridge" "run" "LPlankBridge$Run;" ∈ lw_tbl) (hdg : decode cc pc = .ok (.getfield index, 3)) (kk : W p l e R s m args below meth c H locs cells slots Q (F0 m (pc + 3) ls (.ref (E.2.1 (b + 16)) :: rest))) : W p l e R s m args below meth c H locs cells slots Q (F0 m pc ls (.ref (E.2.1 b) :: rest)) := by
  obtain ⟨q0, -, he⟩ := wd_at hm (e8 (E := E) (st := st) hb)
  exact va_get (D := E.1) (C := RX9) (T := TX9) (N := 9) C.1 C.2.1 C.2.2.2.2.1 in8 C.2.2.2.1 C.2.2.2.2.2.1 hP q0 he rfl 4 (by decide) (C.T q) (fun _ h9 => h9) f8_4 hdg kk
theorem gf8_5 (C : Cx E L own cc nL p s m args c) (hP : va_P E.1 vwCl (wd E L st) H) {b index : Nat} (hb : kd b = 8) (hm : b ∈ L) (q : .fieldLink own index "PlankBridge" "ways" "LPlankBridge$Ways;" ∈ lw_tbl) (hdg : decode cc pc = .ok (.getfield index, 3)) (kk : W p l e R s m args below meth c H locs cells slots Q (F0 m (pc + 3) ls (.ref (E.2.1 (b + 18)) :: rest))) : W p l e R s m args below meth c H locs cells slots Q (F0 m pc ls (.ref (E.2.1 b) :: rest)) := by
  obtain ⟨q0, -, he⟩ := wd_at hm (e8 (E := E) (st := st) hb)
  exact va_get (D := E.1) (C := RX9) (T := TX9) (N := 9) C.1 C.2.1 C.2.2.2.2.1 in8 C.2.2.2.1 C.2.2.2.2.2.1 hP q0 he rfl 5 (by decide) (C.T q) (fun _ h9 => h9) f8_5 hdg kk
theorem gf8_6 (C : Cx E L own cc nL p s m args c) (hP : va_P E.1 vwCl (wd E L st) H) {b index : Nat} (hb : kd b = 8) (hm : b ∈ L) (q : .fieldLink own index "PlankBridge" "book" "LPlankBridge$Book;" ∈ lw_tbl) (hdg : decode cc pc = .ok (.getfield index, 3)) (kk : W p l e R s m args below meth c H locs cells slots Q (F0 m (pc + 3) ls (.ref (E.2.1 (gR st b 6)) :: rest))) : W p l e R s m args below meth c H locs cells slots Q (F0 m pc ls (.ref (E.2.1 b) :: rest)) := by
  obtain ⟨q0, -, he⟩ := wd_at hm (e8 (E := E) (st := st) hb)
  exact va_get (D := E.1) (C := RX9) (T := TX9) (N := 9) C.1 C.2.1 C.2.2.2.2.1 in8 C.2.2.2.1 C.2.2.2.2.2.1 hP q0 he rfl 6 (by decide) (C.T q) (fun _ h9 => h9) f8_6 hdg kk
theorem pf8_6 (C : Cx E L own cc nL p s m args c) (hP : va_P E.1 vwCl (wd E L st) H) (hS : va_S (fA E L s.heap.size) s.heap H locs) {b index : Nat} (hb : kd b = 8) (hm : b ∈ L) {v : Nat} (q : .fieldLink own index "PlankBridge" "book" "LPlankBridge$Book;" ∈ lw_tbl) (hdg : decode cc pc = .ok (.putfield index, 3)) (kk : ∀ (H1 : Heap) (locs1 : List Loc), va_P E.1 vwCl (wd E L (uR st b 6 v)) H1 → va_S (fA E L s.heap.size) s.heap H1 locs1 → W p l e R s m args below meth c H1 locs1 cells slots Q (F0 m (pc + 3) ls rest)) : W p l e R s m args below meth c H locs cells slots Q (F0 m pc ls (.ref (E.2.1 v) :: .ref (E.2.1 b) :: rest)) := by
  obtain ⟨q0, hq, he⟩ := wd_at hm (e8 (E := E) (st := st) hb)
  refine va_put (D := E.1) (C := RX9) (T := TX9) (N := 9) (ty := .object "PlankBridge$Book") C.1 C.2.1 C.2.2.2.2.1 in8 tyX9 tyX9_ok nmX9 C.2.2.2.1 C.2.2.2.2.2.1 hP C.D hS q0 he rfl 6 (by decide) (C.T q) (fun _ h9 => h9) rfl (by decide +kernel) rfl rfl (Nat.le_of_ble_eq_true rfl) hdg (fun H1 locs1 hP1 hD1 hS1 => kk H1 locs1 ?_ hS1)
  rw [wd_set (st' := uR st b 6 v) C.N hq ?_ sR_o] at hP1
  · exact hP1
  · rw [e8 hb, s8_6]
theorem gf8_7 (C : Cx E L own cc nL p s m args c) (hP : va_P E.1 vwCl (wd E L st) H) {b index : Nat} (hb : kd b = 8) (hm : b ∈ L) (q : .fieldLink own index "PlankBridge" "spare" "LPlankBridge$Book;" ∈ lw_tbl) (hdg : decode cc pc = .ok (.getfield index, 3)) (kk : W p l e R s m args below meth c H locs cells slots Q (F0 m (pc + 3) ls (.ref (E.2.1 (gR st b 7)) :: rest))) : W p l e R s m args below meth c H locs cells slots Q (F0 m pc ls (.ref (E.2.1 b) :: rest)) := by
  obtain ⟨q0, -, he⟩ := wd_at hm (e8 (E := E) (st := st) hb)
  exact va_get (D := E.1) (C := RX9) (T := TX9) (N := 9) C.1 C.2.1 C.2.2.2.2.1 in8 C.2.2.2.1 C.2.2.2.2.2.1 hP q0 he rfl 7 (by decide) (C.T q) (fun _ h9 => h9) f8_7 hdg kk
theorem pf8_7 (C : Cx E L own cc nL p s m args c) (hP : va_P E.1 vwCl (wd E L st) H) (hS : va_S (fA E L s.heap.size) s.heap H locs) {b index : Nat} (hb : kd b = 8) (hm : b ∈ L) {v : Nat} (q : .fieldLink own index "PlankBridge" "spare" "LPlankBridge$Book;" ∈ lw_tbl) (hdg : decode cc pc = .ok (.putfield index, 3)) (kk : ∀ (H1 : Heap) (locs1 : List Loc), va_P E.1 vwCl (wd E L (uR st b 7 v)) H1 → va_S (fA E L s.heap.size) s.heap H1 locs1 → W p l e R s m args below meth c H1 locs1 cells slots Q (F0 m (pc + 3) ls rest)) : W p l e R s m args below meth c H locs cells slots Q (F0 m pc ls (.ref (E.2.1 v) :: .ref (E.2.1 b) :: rest)) := by
  obtain ⟨q0, hq, he⟩ := wd_at hm (e8 (E := E) (st := st) hb)
  refine va_put (D := E.1) (C := RX9) (T := TX9) (N := 9) (ty := .object "PlankBridge$Book") C.1 C.2.1 C.2.2.2.2.1 in8 tyX9 tyX9_ok nmX9 C.2.2.2.1 C.2.2.2.2.2.1 hP C.D hS q0 he rfl 7 (by decide) (C.T q) (fun _ h9 => h9) rfl (by decide +kernel) rfl rfl (Nat.le_of_ble_eq_true rfl) hdg (fun H1 locs1 hP1 hD1 hS1 => kk H1 locs1 ?_ hS1)
  rw [wd_set (st' := uR st b 7 v) C.N hq ?_ sR_o] at hP1
  · exact hP1
  · rw [e8 hb, s8_7]
theorem gf8_8 (C : Cx E L own cc nL p s m args c) (hP : va_P E.1 vwCl (wd E L st) H) {b index : Nat} (hb : kd b = 8) (hm : b ∈ L) (q : .fieldLink own index "PlankBridge" "errorPosition" "I" ∈ lw_tbl) (hdg : decode cc pc = .ok (.getfield index, 3)) (kk : W p l e R s m args below meth c H locs cells slots Q (F0 m (pc + 3) ls (.int (gI st b 8) :: rest))) : W p l e R s m args below meth c H locs cells slots Q (F0 m pc ls (.ref (E.2.1 b) :: rest)) := by
  obtain ⟨q0, -, he⟩ := wd_at hm (e8 (E := E) (st := st) hb)
  exact va_get (D := E.1) (C := RX9) (T := TX9) (N := 9) C.1 C.2.1 C.2.2.2.2.1 in8 C.2.2.2.1 C.2.2.2.2.2.1 hP q0 he rfl 8 (by decide) (C.T q) (fun _ h9 => h9) f8_8 hdg kk
theorem pf8_8 (C : Cx E L own cc nL p s m args c) (hP : va_P E.1 vwCl (wd E L st) H) (hS : va_S (fA E L s.heap.size) s.heap H locs) {b index : Nat} (hb : kd b = 8) (hm : b ∈ L) {v : Int32} (q : .fieldLink own index "PlankBridge" "errorPosition" "I" ∈ lw_tbl) (hdg : decode cc pc = .ok (.putfield index, 3)) (kk : ∀ (H1 : Heap) (locs1 : List Loc), va_P E.1 vwCl (wd E L (uI st b 8 v)) H1 → va_S (fA E L s.heap.size) s.heap H1 locs1 → W p l e R s m args below meth c H1 locs1 cells slots Q (F0 m (pc + 3) ls rest)) : W p l e R s m args below meth c H locs cells slots Q (F0 m pc ls (.int v :: .ref (E.2.1 b) :: rest)) := by
  obtain ⟨q0, hq, he⟩ := wd_at hm (e8 (E := E) (st := st) hb)
  refine va_put (D := E.1) (C := RX9) (T := TX9) (N := 9) (ty := .int) C.1 C.2.1 C.2.2.2.2.1 in8 tyX9 tyX9_ok nmX9 C.2.2.2.1 C.2.2.2.2.2.1 hP C.D hS q0 he rfl 8 (by decide) (C.T q) (fun _ h9 => h9) rfl (by decide +kernel) rfl rfl (Nat.le_of_ble_eq_true rfl) hdg (fun H1 locs1 hP1 hD1 hS1 => kk H1 locs1 ?_ hS1)
  rw [wd_set (st' := uI st b 8 v) C.N hq ?_ sI_o] at hP1
  · exact hP1
  · rw [e8 hb, s8_8]
theorem gf9_0 (C : Cx E L own cc nL p s m args c) (hP : va_P E.1 vwCl (wd E L st) H) {b index : Nat} (hb : kd b = 9) (hm : b ∈ L) (q : .fieldLink own index "PlankBridgeModel$Book" "walkers" "I" ∈ lw_tbl) (hdg : decode cc pc = .ok (.getfield index, 3)) (kk : W p l e R s m args below meth c H locs cells slots Q (F0 m (pc + 3) ls (.int (gI st b 0) :: rest))) : W p l e R s m args below meth c H locs cells slots Q (F0 m pc ls (.ref (E.2.1 b) :: rest)) := by
  obtain ⟨q0, -, he⟩ := wd_at hm (e9 (E := E) (st := st) hb)
  exact va_get (D := E.1) (C := RX10) (T := TX10) (N := 12) C.1 C.2.1 C.2.2.2.2.1 in9 C.2.2.2.1 C.2.2.2.2.2.1 hP q0 he rfl 0 (by decide) (C.T q) (fun _ h9 => h9) f9_0 hdg kk
theorem pf9_0 (C : Cx E L own cc nL p s m args c) (hP : va_P E.1 vwCl (wd E L st) H) (hS : va_S (fA E L s.heap.size) s.heap H locs) {b index : Nat} (hb : kd b = 9) (hm : b ∈ L) {v : Int32} (q : .fieldLink own index "PlankBridgeModel$Book" "walkers" "I" ∈ lw_tbl) (hdg : decode cc pc = .ok (.putfield index, 3)) (kk : ∀ (H1 : Heap) (locs1 : List Loc), va_P E.1 vwCl (wd E L (uI st b 0 v)) H1 → va_S (fA E L s.heap.size) s.heap H1 locs1 → W p l e R s m args below meth c H1 locs1 cells slots Q (F0 m (pc + 3) ls rest)) : W p l e R s m args below meth c H locs cells slots Q (F0 m pc ls (.int v :: .ref (E.2.1 b) :: rest)) := by
  obtain ⟨q0, hq, he⟩ := wd_at hm (e9 (E := E) (st := st) hb)
  refine va_put (D := E.1) (C := RX10) (T := TX10) (N := 12) (ty := .int) C.1 C.2.1 C.2.2.2.2.1 in9 tyX10 tyX10_ok nmX10 C.2.2.2.1 C.2.2.2.2.2.1 hP C.D hS q0 he rfl 0 (by decide) (C.T q) (fun _ h9 => h9) rfl (by decide +kernel) rfl rfl (Nat.le_of_ble_eq_true rfl) hdg (fun H1 locs1 hP1 hD1 hS1 => kk H1 locs1 ?_ hS1)
  rw [wd_set (st' := uI st b 0 v) C.N hq ?_ sI_o] at hP1
  · exact hP1
  · rw [e9 hb, s9_0]
theorem gf9_1 (C : Cx E L own cc nL p s m args c) (hP : va_P E.1 vwCl (wd E L st) H) {b index : Nat} (hb : kd b = 9) (hm : b ∈ L) (q : .fieldLink own index "PlankBridgeModel$Book" "planks" "I" ∈ lw_tbl) (hdg : decode cc pc = .ok (.getfield index, 3)) (kk : W p l e R s m args below meth c H locs cells slots Q (F0 m (pc + 3) ls (.int (gI st b 1) :: rest))) : W p l e R s m args below meth c H locs cells slots Q (F0 m pc ls (.ref (E.2.1 b) :: rest)) := by
  obtain ⟨q0, -, he⟩ := wd_at hm (e9 (E := E) (st := st) hb)
  exact va_get (D := E.1) (C := RX10) (T := TX10) (N := 12) C.1 C.2.1 C.2.2.2.2.1 in9 C.2.2.2.1 C.2.2.2.2.2.1 hP q0 he rfl 1 (by decide) (C.T q) (fun _ h9 => h9) f9_1 hdg kk
theorem pf9_1 (C : Cx E L own cc nL p s m args c) (hP : va_P E.1 vwCl (wd E L st) H) (hS : va_S (fA E L s.heap.size) s.heap H locs) {b index : Nat} (hb : kd b = 9) (hm : b ∈ L) {v : Int32} (q : .fieldLink own index "PlankBridgeModel$Book" "planks" "I" ∈ lw_tbl) (hdg : decode cc pc = .ok (.putfield index, 3)) (kk : ∀ (H1 : Heap) (locs1 : List Loc), va_P E.1 vwCl (wd E L (uI st b 1 v)) H1 → va_S (fA E L s.heap.size) s.heap H1 locs1 → W p l e R s m args below meth c H1 locs1 cells slots Q (F0 m (pc + 3) ls rest)) : W p l e R s m args below meth c H locs cells slots Q (F0 m pc ls (.int v :: .ref (E.2.1 b) :: rest)) := by
  obtain ⟨q0, hq, he⟩ := wd_at hm (e9 (E := E) (st := st) hb)
  refine va_put (D := E.1) (C := RX10) (T := TX10) (N := 12) (ty := .int) C.1 C.2.1 C.2.2.2.2.1 in9 tyX10 tyX10_ok nmX10 C.2.2.2.1 C.2.2.2.2.2.1 hP C.D hS q0 he rfl 1 (by decide) (C.T q) (fun _ h9 => h9) rfl (by decide +kernel) rfl rfl (Nat.le_of_ble_eq_true rfl) hdg (fun H1 locs1 hP1 hD1 hS1 => kk H1 locs1 ?_ hS1)
  rw [wd_set (st' := uI st b 1 v) C.N hq ?_ sI_o] at hP1
  · exact hP1
  · rw [e9 hb, s9_1]
theorem gf9_2 (C : Cx E L own cc nL p s m args c) (hP : va_P E.1 vwCl (wd E L st) H) {b index : Nat} (hb : kd b = 9) (hm : b ∈ L) (q : .fieldLink own index "PlankBridgeModel$Book" "plans" "I" ∈ lw_tbl) (hdg : decode cc pc = .ok (.getfield index, 3)) (kk : W p l e R s m args below meth c H locs cells slots Q (F0 m (pc + 3) ls (.int (gI st b 2) :: rest))) : W p l e R s m args below meth c H locs cells slots Q (F0 m pc ls (.ref (E.2.1 b) :: rest)) := by
  obtain ⟨q0, -, he⟩ := wd_at hm (e9 (E := E) (st := st) hb)
  exact va_get (D := E.1) (C := RX10) (T := TX10) (N := 12) C.1 C.2.1 C.2.2.2.2.1 in9 C.2.2.2.1 C.2.2.2.2.2.1 hP q0 he rfl 2 (by decide) (C.T q) (fun _ h9 => h9) f9_2 hdg kk
theorem pf9_2 (C : Cx E L own cc nL p s m args c) (hP : va_P E.1 vwCl (wd E L st) H) (hS : va_S (fA E L s.heap.size) s.heap H locs) {b index : Nat} (hb : kd b = 9) (hm : b ∈ L) {v : Int32} (q : .fieldLink own index "PlankBridgeModel$Book" "plans" "I" ∈ lw_tbl) (hdg : decode cc pc = .ok (.putfield index, 3)) (kk : ∀ (H1 : Heap) (locs1 : List Loc), va_P E.1 vwCl (wd E L (uI st b 2 v)) H1 → va_S (fA E L s.heap.size) s.heap H1 locs1 → W p l e R s m args below meth c H1 locs1 cells slots Q (F0 m (pc + 3) ls rest)) : W p l e R s m args below meth c H locs cells slots Q (F0 m pc ls (.int v :: .ref (E.2.1 b) :: rest)) := by
  obtain ⟨q0, hq, he⟩ := wd_at hm (e9 (E := E) (st := st) hb)
  refine va_put (D := E.1) (C := RX10) (T := TX10) (N := 12) (ty := .int) C.1 C.2.1 C.2.2.2.2.1 in9 tyX10 tyX10_ok nmX10 C.2.2.2.1 C.2.2.2.2.2.1 hP C.D hS q0 he rfl 2 (by decide) (C.T q) (fun _ h9 => h9) rfl (by decide +kernel) rfl rfl (Nat.le_of_ble_eq_true rfl) hdg (fun H1 locs1 hP1 hD1 hS1 => kk H1 locs1 ?_ hS1)
  rw [wd_set (st' := uI st b 2 v) C.N hq ?_ sI_o] at hP1
  · exact hP1
  · rw [e9 hb, s9_2]
theorem gf9_3 (C : Cx E L own cc nL p s m args c) (hP : va_P E.1 vwCl (wd E L st) H) {b index : Nat} (hb : kd b = 9) (hm : b ∈ L) (q : .fieldLink own index "PlankBridgeModel$Book" "acts" "I" ∈ lw_tbl) (hdg : decode cc pc = .ok (.getfield index, 3)) (kk : W p l e R s m args below meth c H locs cells slots Q (F0 m (pc + 3) ls (.int (gI st b 3) :: rest))) : W p l e R s m args below meth c H locs cells slots Q (F0 m pc ls (.ref (E.2.1 b) :: rest)) := by
  obtain ⟨q0, -, he⟩ := wd_at hm (e9 (E := E) (st := st) hb)
  exact va_get (D := E.1) (C := RX10) (T := TX10) (N := 12) C.1 C.2.1 C.2.2.2.2.1 in9 C.2.2.2.1 C.2.2.2.2.2.1 hP q0 he rfl 3 (by decide) (C.T q) (fun _ h9 => h9) f9_3 hdg kk
theorem pf9_3 (C : Cx E L own cc nL p s m args c) (hP : va_P E.1 vwCl (wd E L st) H) (hS : va_S (fA E L s.heap.size) s.heap H locs) {b index : Nat} (hb : kd b = 9) (hm : b ∈ L) {v : Int32} (q : .fieldLink own index "PlankBridgeModel$Book" "acts" "I" ∈ lw_tbl) (hdg : decode cc pc = .ok (.putfield index, 3)) (kk : ∀ (H1 : Heap) (locs1 : List Loc), va_P E.1 vwCl (wd E L (uI st b 3 v)) H1 → va_S (fA E L s.heap.size) s.heap H1 locs1 → W p l e R s m args below meth c H1 locs1 cells slots Q (F0 m (pc + 3) ls rest)) : W p l e R s m args below meth c H locs cells slots Q (F0 m pc ls (.int v :: .ref (E.2.1 b) :: rest)) := by
  obtain ⟨q0, hq, he⟩ := wd_at hm (e9 (E := E) (st := st) hb)
  refine va_put (D := E.1) (C := RX10) (T := TX10) (N := 12) (ty := .int) C.1 C.2.1 C.2.2.2.2.1 in9 tyX10 tyX10_ok nmX10 C.2.2.2.1 C.2.2.2.2.2.1 hP C.D hS q0 he rfl 3 (by decide) (C.T q) (fun _ h9 => h9) rfl (by decide +kernel) rfl rfl (Nat.le_of_ble_eq_true rfl) hdg (fun H1 locs1 hP1 hD1 hS1 => kk H1 locs1 ?_ hS1)
  rw [wd_set (st' := uI st b 3 v) C.N hq ?_ sI_o] at hP1
  · exact hP1
  · rw [e9 hb, s9_3]
theorem gf9_4 (C : Cx E L own cc nL p s m args c) (hP : va_P E.1 vwCl (wd E L st) H) {b index : Nat} (hb : kd b = 9) (hm : b ∈ L) (q : .fieldLink own index "PlankBridgeModel$Book" "weight" "[I" ∈ lw_tbl) (hdg : decode cc pc = .ok (.getfield index, 3)) (kk : W p l e R s m args below meth c H locs cells slots Q (F0 m (pc + 3) ls (.ref (E.2.1 (b + 1)) :: rest))) : W p l e R s m args below meth c H locs cells slots Q (F0 m pc ls (.ref (E.2.1 b) :: rest)) := by
  obtain ⟨q0, -, he⟩ := wd_at hm (e9 (E := E) (st := st) hb)
  exact va_get (D := E.1) (C := RX10) (T := TX10) (N := 12) C.1 C.2.1 C.2.2.2.2.1 in9 C.2.2.2.1 C.2.2.2.2.2.1 hP q0 he rfl 4 (by decide) (C.T q) (fun _ h9 => h9) f9_4 hdg kk
theorem gf9_5 (C : Cx E L own cc nL p s m args c) (hP : va_P E.1 vwCl (wd E L st) H) {b index : Nat} (hb : kd b = 9) (hm : b ∈ L) (q : .fieldLink own index "PlankBridgeModel$Book" "minutes" "[I" ∈ lw_tbl) (hdg : decode cc pc = .ok (.getfield index, 3)) (kk : W p l e R s m args below meth c H locs cells slots Q (F0 m (pc + 3) ls (.ref (E.2.1 (b + 2)) :: rest))) : W p l e R s m args below meth c H locs cells slots Q (F0 m pc ls (.ref (E.2.1 b) :: rest)) := by
  obtain ⟨q0, -, he⟩ := wd_at hm (e9 (E := E) (st := st) hb)
  exact va_get (D := E.1) (C := RX10) (T := TX10) (N := 12) C.1 C.2.1 C.2.2.2.2.1 in9 C.2.2.2.1 C.2.2.2.2.2.1 hP q0 he rfl 5 (by decide) (C.T q) (fun _ h9 => h9) f9_5 hdg kk
theorem gf9_6 (C : Cx E L own cc nL p s m args c) (hP : va_P E.1 vwCl (wd E L st) H) {b index : Nat} (hb : kd b = 9) (hm : b ∈ L) (q : .fieldLink own index "PlankBridgeModel$Book" "strong" "[I" ∈ lw_tbl) (hdg : decode cc pc = .ok (.getfield index, 3)) (kk : W p l e R s m args below meth c H locs cells slots Q (F0 m (pc + 3) ls (.ref (E.2.1 (b + 3)) :: rest))) : W p l e R s m args below meth c H locs cells slots Q (F0 m pc ls (.ref (E.2.1 b) :: rest)) := by
  obtain ⟨q0, -, he⟩ := wd_at hm (e9 (E := E) (st := st) hb)
  exact va_get (D := E.1) (C := RX10) (T := TX10) (N := 12) C.1 C.2.1 C.2.2.2.2.1 in9 C.2.2.2.1 C.2.2.2.2.2.1 hP q0 he rfl 6 (by decide) (C.T q) (fun _ h9 => h9) f9_6 hdg kk
theorem gf9_7 (C : Cx E L own cc nL p s m args c) (hP : va_P E.1 vwCl (wd E L st) H) {b index : Nat} (hb : kd b = 9) (hm : b ∈ L) (q : .fieldLink own index "PlankBridgeModel$Book" "begins" "[I" ∈ lw_tbl) (hdg : decode cc pc = .ok (.getfield index, 3)) (kk : W p l e R s m args below meth c H locs cells slots Q (F0 m (pc + 3) ls (.ref (E.2.1 (b + 4)) :: rest))) : W p l e R s m args below meth c H locs cells slots Q (F0 m pc ls (.ref (E.2.1 b) :: rest)) := by
  obtain ⟨q0, -, he⟩ := wd_at hm (e9 (E := E) (st := st) hb)
  exact va_get (D := E.1) (C := RX10) (T := TX10) (N := 12) C.1 C.2.1 C.2.2.2.2.1 in9 C.2.2.2.1 C.2.2.2.2.2.1 hP q0 he rfl 7 (by decide) (C.T q) (fun _ h9 => h9) f9_7 hdg kk
theorem gf9_8 (C : Cx E L own cc nL p s m args c) (hP : va_P E.1 vwCl (wd E L st) H) {b index : Nat} (hb : kd b = 9) (hm : b ∈ L) (q : .fieldLink own index "PlankBridgeModel$Book" "orders" "[I" ∈ lw_tbl) (hdg : decode cc pc = .ok (.getfield index, 3)) (kk : W p l e R s m args below meth c H locs cells slots Q (F0 m (pc + 3) ls (.ref (E.2.1 (b + 5)) :: rest))) : W p l e R s m args below meth c H locs cells slots Q (F0 m pc ls (.ref (E.2.1 b) :: rest)) := by
  obtain ⟨q0, -, he⟩ := wd_at hm (e9 (E := E) (st := st) hb)
  exact va_get (D := E.1) (C := RX10) (T := TX10) (N := 12) C.1 C.2.1 C.2.2.2.2.1 in9 C.2.2.2.1 C.2.2.2.2.2.1 hP q0 he rfl 8 (by decide) (C.T q) (fun _ h9 => h9) f9_8 hdg kk
theorem gf9_9 (C : Cx E L own cc nL p s m args c) (hP : va_P E.1 vwCl (wd E L st) H) {b index : Nat} (hb : kd b = 9) (hm : b ∈ L) (q : .fieldLink own index "PlankBridgeModel$Book" "ordered" "I" ∈ lw_tbl) (hdg : decode cc pc = .ok (.getfield index, 3)) (kk : W p l e R s m args below meth c H locs cells slots Q (F0 m (pc + 3) ls (.int (gI st b 9) :: rest))) : W p l e R s m args below meth c H locs cells slots Q (F0 m pc ls (.ref (E.2.1 b) :: rest)) := by
  obtain ⟨q0, -, he⟩ := wd_at hm (e9 (E := E) (st := st) hb)
  exact va_get (D := E.1) (C := RX10) (T := TX10) (N := 12) C.1 C.2.1 C.2.2.2.2.1 in9 C.2.2.2.1 C.2.2.2.2.2.1 hP q0 he rfl 9 (by decide) (C.T q) (fun _ h9 => h9) f9_9 hdg kk
theorem pf9_9 (C : Cx E L own cc nL p s m args c) (hP : va_P E.1 vwCl (wd E L st) H) (hS : va_S (fA E L s.heap.size) s.heap H locs) {b index : Nat} (hb : kd b = 9) (hm : b ∈ L) {v : Int32} (q : .fieldLink own index "PlankBridgeModel$Book" "ordered" "I" ∈ lw_tbl) (hdg : decode cc pc = .ok (.putfield index, 3)) (kk : ∀ (H1 : Heap) (locs1 : List Loc), va_P E.1 vwCl (wd E L (uI st b 9 v)) H1 → va_S (fA E L s.heap.size) s.heap H1 locs1 → W p l e R s m args below meth c H1 locs1 cells slots Q (F0 m (pc + 3) ls rest)) : W p l e R s m args below meth c H locs cells slots Q (F0 m pc ls (.int v :: .ref (E.2.1 b) :: rest)) := by
  obtain ⟨q0, hq, he⟩ := wd_at hm (e9 (E := E) (st := st) hb)
  refine va_put (D := E.1) (C := RX10) (T := TX10) (N := 12) (ty := .int) C.1 C.2.1 C.2.2.2.2.1 in9 tyX10 tyX10_ok nmX10 C.2.2.2.1 C.2.2.2.2.2.1 hP C.D hS q0 he rfl 9 (by decide) (C.T q) (fun _ h9 => h9) rfl (by decide +kernel) rfl rfl (Nat.le_of_ble_eq_true rfl) hdg (fun H1 locs1 hP1 hD1 hS1 => kk H1 locs1 ?_ hS1)
  rw [wd_set (st' := uI st b 9 v) C.N hq ?_ sI_o] at hP1
  · exact hP1
  · rw [e9 hb, s9_9]
theorem gf9_10 (C : Cx E L own cc nL p s m args c) (hP : va_P E.1 vwCl (wd E L st) H) {b index : Nat} (hb : kd b = 9) (hm : b ∈ L) (q : .fieldLink own index "PlankBridgeModel$Book" "compares" "[I" ∈ lw_tbl) (hdg : decode cc pc = .ok (.getfield index, 3)) (kk : W p l e R s m args below meth c H locs cells slots Q (F0 m (pc + 3) ls (.ref (E.2.1 (b + 6)) :: rest))) : W p l e R s m args below meth c H locs cells slots Q (F0 m pc ls (.ref (E.2.1 b) :: rest)) := by
  obtain ⟨q0, -, he⟩ := wd_at hm (e9 (E := E) (st := st) hb)
  exact va_get (D := E.1) (C := RX10) (T := TX10) (N := 12) C.1 C.2.1 C.2.2.2.2.1 in9 C.2.2.2.1 C.2.2.2.2.2.1 hP q0 he rfl 10 (by decide) (C.T q) (fun _ h9 => h9) f9_10 hdg kk
theorem gf9_11 (C : Cx E L own cc nL p s m args c) (hP : va_P E.1 vwCl (wd E L st) H) {b index : Nat} (hb : kd b = 9) (hm : b ∈ L) (q : .fieldLink own index "PlankBridgeModel$Book" "compared" "I" ∈ lw_tbl) (hdg : decode cc pc = .ok (.getfield index, 3)) (kk : W p l e R s m args below meth c H locs cells slots Q (F0 m (pc + 3) ls (.int (gI st b 11) :: rest))) : W p l e R s m args below meth c H locs cells slots Q (F0 m pc ls (.ref (E.2.1 b) :: rest)) := by
  obtain ⟨q0, -, he⟩ := wd_at hm (e9 (E := E) (st := st) hb)
  exact va_get (D := E.1) (C := RX10) (T := TX10) (N := 12) C.1 C.2.1 C.2.2.2.2.1 in9 C.2.2.2.1 C.2.2.2.2.2.1 hP q0 he rfl 11 (by decide) (C.T q) (fun _ h9 => h9) f9_11 hdg kk
theorem pf9_11 (C : Cx E L own cc nL p s m args c) (hP : va_P E.1 vwCl (wd E L st) H) (hS : va_S (fA E L s.heap.size) s.heap H locs) {b index : Nat} (hb : kd b = 9) (hm : b ∈ L) {v : Int32} (q : .fieldLink own index "PlankBridgeModel$Book" "compared" "I" ∈ lw_tbl) (hdg : decode cc pc = .ok (.putfield index, 3)) (kk : ∀ (H1 : Heap) (locs1 : List Loc), va_P E.1 vwCl (wd E L (uI st b 11 v)) H1 → va_S (fA E L s.heap.size) s.heap H1 locs1 → W p l e R s m args below meth c H1 locs1 cells slots Q (F0 m (pc + 3) ls rest)) : W p l e R s m args below meth c H locs cells slots Q (F0 m pc ls (.int v :: .ref (E.2.1 b) :: rest)) := by
  obtain ⟨q0, hq, he⟩ := wd_at hm (e9 (E := E) (st := st) hb)
  refine va_put (D := E.1) (C := RX10) (T := TX10) (N := 12) (ty := .int) C.1 C.2.1 C.2.2.2.2.1 in9 tyX10 tyX10_ok nmX10 C.2.2.2.1 C.2.2.2.2.2.1 hP C.D hS q0 he rfl 11 (by decide) (C.T q) (fun _ h9 => h9) rfl (by decide +kernel) rfl rfl (Nat.le_of_ble_eq_true rfl) hdg (fun H1 locs1 hP1 hD1 hS1 => kk H1 locs1 ?_ hS1)
  rw [wd_set (st' := uI st b 11 v) C.N hq ?_ sI_o] at hP1
  · exact hP1
  · rw [e9 hb, s9_11]
theorem gf10_0 (C : Cx E L own cc nL p s m args c) (hP : va_P E.1 vwCl (wd E L st) H) {b index : Nat} (hb : kd b = 10) (hm : b ∈ L) (q : .fieldLink own index "PlankBridgeModel$Reader" "made" "LPlankBridgeModel$Book;" ∈ lw_tbl) (hdg : decode cc pc = .ok (.getfield index, 3)) (kk : W p l e R s m args below meth c H locs cells slots Q (F0 m (pc + 3) ls (.ref (E.2.1 (b + 2)) :: rest))) : W p l e R s m args below meth c H locs cells slots Q (F0 m pc ls (.ref (E.2.1 b) :: rest)) := by
  obtain ⟨q0, -, he⟩ := wd_at hm (e10 (E := E) (st := st) hb)
  exact va_get (D := E.1) (C := RX11) (T := TX11) (N := 15) C.1 C.2.1 C.2.2.2.2.1 in10 C.2.2.2.1 C.2.2.2.2.2.1 hP q0 he rfl 0 (by decide) (C.T q) (fun _ h9 => h9) f10_0 hdg kk
theorem gn10_0 (C : Cx E L own cc nL p s m args c) (hP : va_P E.1 vwCl (wd E L st) H) {b index : Nat} (hb : kd b = 10) (hm : b ∈ L) (q : .fieldLinkNest own index "PlankBridgeModel$Reader" "made" "LPlankBridgeModel$Book;" host ∈ lw_tbl) (hdg : decode cc pc = .ok (.getfield index, 3)) (kk : W p l e R s m args below meth c H locs cells slots Q (F0 m (pc + 3) ls (.ref (E.2.1 (b + 2)) :: rest))) : W p l e R s m args below meth c H locs cells slots Q (F0 m pc ls (.ref (E.2.1 b) :: rest)) := by
  obtain ⟨q0, -, he⟩ := wd_at hm (e10 (E := E) (st := st) hb)
  exact va_getN (D := E.1) (C := RX11) (T := TX11) (N := 15) C.1 C.2.1 C.2.2.2.2.1 in10 C.2.2.2.1 C.2.2.2.2.2.1 hP q0 he rfl 0 (by decide) (C.Tn q) (fun _ h9 => h9) f10_0 hdg kk
theorem gf10_1 (C : Cx E L own cc nL p s m args c) (hP : va_P E.1 vwCl (wd E L st) H) {b index : Nat} (hb : kd b = 10) (hm : b ∈ L) (q : .fieldLink own index "PlankBridgeModel$Reader" "names" "[J" ∈ lw_tbl) (hdg : decode cc pc = .ok (.getfield index, 3)) (kk : W p l e R s m args below meth c H locs cells slots Q (F0 m (pc + 3) ls (.ref (E.2.1 (b + 1)) :: rest))) : W p l e R s m args below meth c H locs cells slots Q (F0 m pc ls (.ref (E.2.1 b) :: rest)) := by
  obtain ⟨q0, -, he⟩ := wd_at hm (e10 (E := E) (st := st) hb)
  exact va_get (D := E.1) (C := RX11) (T := TX11) (N := 15) C.1 C.2.1 C.2.2.2.2.1 in10 C.2.2.2.1 C.2.2.2.2.2.1 hP q0 he rfl 1 (by decide) (C.T q) (fun _ h9 => h9) f10_1 hdg kk
theorem gf10_2 (C : Cx E L own cc nL p s m args c) (hP : va_P E.1 vwCl (wd E L st) H) {b index : Nat} (hb : kd b = 10) (hm : b ∈ L) (q : .fieldLink own index "PlankBridgeModel$Reader" "named" "I" ∈ lw_tbl) (hdg : decode cc pc = .ok (.getfield index, 3)) (kk : W p l e R s m args below meth c H locs cells slots Q (F0 m (pc + 3) ls (.int (gI st b 2) :: rest))) : W p l e R s m args below meth c H locs cells slots Q (F0 m pc ls (.ref (E.2.1 b) :: rest)) := by
  obtain ⟨q0, -, he⟩ := wd_at hm (e10 (E := E) (st := st) hb)
  exact va_get (D := E.1) (C := RX11) (T := TX11) (N := 15) C.1 C.2.1 C.2.2.2.2.1 in10 C.2.2.2.1 C.2.2.2.2.2.1 hP q0 he rfl 2 (by decide) (C.T q) (fun _ h9 => h9) f10_2 hdg kk
theorem pf10_2 (C : Cx E L own cc nL p s m args c) (hP : va_P E.1 vwCl (wd E L st) H) (hS : va_S (fA E L s.heap.size) s.heap H locs) {b index : Nat} (hb : kd b = 10) (hm : b ∈ L) {v : Int32} (q : .fieldLink own index "PlankBridgeModel$Reader" "named" "I" ∈ lw_tbl) (hdg : decode cc pc = .ok (.putfield index, 3)) (kk : ∀ (H1 : Heap) (locs1 : List Loc), va_P E.1 vwCl (wd E L (uI st b 2 v)) H1 → va_S (fA E L s.heap.size) s.heap H1 locs1 → W p l e R s m args below meth c H1 locs1 cells slots Q (F0 m (pc + 3) ls rest)) : W p l e R s m args below meth c H locs cells slots Q (F0 m pc ls (.int v :: .ref (E.2.1 b) :: rest)) := by
  obtain ⟨q0, hq, he⟩ := wd_at hm (e10 (E := E) (st := st) hb)
  refine va_put (D := E.1) (C := RX11) (T := TX11) (N := 15) (ty := .int) C.1 C.2.1 C.2.2.2.2.1 in10 tyX11 tyX11_ok nmX11 C.2.2.2.1 C.2.2.2.2.2.1 hP C.D hS q0 he rfl 2 (by decide) (C.T q) (fun _ h9 => h9) rfl (by decide +kernel) rfl rfl (Nat.le_of_ble_eq_true rfl) hdg (fun H1 locs1 hP1 hD1 hS1 => kk H1 locs1 ?_ hS1)
  rw [wd_set (st' := uI st b 2 v) C.N hq ?_ sI_o] at hP1
  · exact hP1
  · rw [e10 hb, s10_2]
theorem gf10_3 (C : Cx E L own cc nL p s m args c) (hP : va_P E.1 vwCl (wd E L st) H) {b index : Nat} (hb : kd b = 10) (hm : b ∈ L) (q : .fieldLink own index "PlankBridgeModel$Reader" "walkerNames" "I" ∈ lw_tbl) (hdg : decode cc pc = .ok (.getfield index, 3)) (kk : W p l e R s m args below meth c H locs cells slots Q (F0 m (pc + 3) ls (.int (gI st b 3) :: rest))) : W p l e R s m args below meth c H locs cells slots Q (F0 m pc ls (.ref (E.2.1 b) :: rest)) := by
  obtain ⟨q0, -, he⟩ := wd_at hm (e10 (E := E) (st := st) hb)
  exact va_get (D := E.1) (C := RX11) (T := TX11) (N := 15) C.1 C.2.1 C.2.2.2.2.1 in10 C.2.2.2.1 C.2.2.2.2.2.1 hP q0 he rfl 3 (by decide) (C.T q) (fun _ h9 => h9) f10_3 hdg kk
theorem pf10_3 (C : Cx E L own cc nL p s m args c) (hP : va_P E.1 vwCl (wd E L st) H) (hS : va_S (fA E L s.heap.size) s.heap H locs) {b index : Nat} (hb : kd b = 10) (hm : b ∈ L) {v : Int32} (q : .fieldLink own index "PlankBridgeModel$Reader" "walkerNames" "I" ∈ lw_tbl) (hdg : decode cc pc = .ok (.putfield index, 3)) (kk : ∀ (H1 : Heap) (locs1 : List Loc), va_P E.1 vwCl (wd E L (uI st b 3 v)) H1 → va_S (fA E L s.heap.size) s.heap H1 locs1 → W p l e R s m args below meth c H1 locs1 cells slots Q (F0 m (pc + 3) ls rest)) : W p l e R s m args below meth c H locs cells slots Q (F0 m pc ls (.int v :: .ref (E.2.1 b) :: rest)) := by
  obtain ⟨q0, hq, he⟩ := wd_at hm (e10 (E := E) (st := st) hb)
  refine va_put (D := E.1) (C := RX11) (T := TX11) (N := 15) (ty := .int) C.1 C.2.1 C.2.2.2.2.1 in10 tyX11 tyX11_ok nmX11 C.2.2.2.1 C.2.2.2.2.2.1 hP C.D hS q0 he rfl 3 (by decide) (C.T q) (fun _ h9 => h9) rfl (by decide +kernel) rfl rfl (Nat.le_of_ble_eq_true rfl) hdg (fun H1 locs1 hP1 hD1 hS1 => kk H1 locs1 ?_ hS1)
  rw [wd_set (st' := uI st b 3 v) C.N hq ?_ sI_o] at hP1
  · exact hP1
  · rw [e10 hb, s10_3]
theorem gf10_4 (C : Cx E L own cc nL p s m args c) (hP : va_P E.1 vwCl (wd E L st) H) {b index : Nat} (hb : kd b = 10) (hm : b ∈ L) (q : .fieldLink own index "PlankBridgeModel$Reader" "planNames" "I" ∈ lw_tbl) (hdg : decode cc pc = .ok (.getfield index, 3)) (kk : W p l e R s m args below meth c H locs cells slots Q (F0 m (pc + 3) ls (.int (gI st b 4) :: rest))) : W p l e R s m args below meth c H locs cells slots Q (F0 m pc ls (.ref (E.2.1 b) :: rest)) := by
  obtain ⟨q0, -, he⟩ := wd_at hm (e10 (E := E) (st := st) hb)
  exact va_get (D := E.1) (C := RX11) (T := TX11) (N := 15) C.1 C.2.1 C.2.2.2.2.1 in10 C.2.2.2.1 C.2.2.2.2.2.1 hP q0 he rfl 4 (by decide) (C.T q) (fun _ h9 => h9) f10_4 hdg kk
theorem pf10_4 (C : Cx E L own cc nL p s m args c) (hP : va_P E.1 vwCl (wd E L st) H) (hS : va_S (fA E L s.heap.size) s.heap H locs) {b index : Nat} (hb : kd b = 10) (hm : b ∈ L) {v : Int32} (q : .fieldLink own index "PlankBridgeModel$Reader" "planNames" "I" ∈ lw_tbl) (hdg : decode cc pc = .ok (.putfield index, 3)) (kk : ∀ (H1 : Heap) (locs1 : List Loc), va_P E.1 vwCl (wd E L (uI st b 4 v)) H1 → va_S (fA E L s.heap.size) s.heap H1 locs1 → W p l e R s m args below meth c H1 locs1 cells slots Q (F0 m (pc + 3) ls rest)) : W p l e R s m args below meth c H locs cells slots Q (F0 m pc ls (.int v :: .ref (E.2.1 b) :: rest)) := by
  obtain ⟨q0, hq, he⟩ := wd_at hm (e10 (E := E) (st := st) hb)
  refine va_put (D := E.1) (C := RX11) (T := TX11) (N := 15) (ty := .int) C.1 C.2.1 C.2.2.2.2.1 in10 tyX11 tyX11_ok nmX11 C.2.2.2.1 C.2.2.2.2.2.1 hP C.D hS q0 he rfl 4 (by decide) (C.T q) (fun _ h9 => h9) rfl (by decide +kernel) rfl rfl (Nat.le_of_ble_eq_true rfl) hdg (fun H1 locs1 hP1 hD1 hS1 => kk H1 locs1 ?_ hS1)
  rw [wd_set (st' := uI st b 4 v) C.N hq ?_ sI_o] at hP1
  · exact hP1
  · rw [e10 hb, s10_4]
theorem gf10_5 (C : Cx E L own cc nL p s m args c) (hP : va_P E.1 vwCl (wd E L st) H) {b index : Nat} (hb : kd b = 10) (hm : b ∈ L) (q : .fieldLink own index "PlankBridgeModel$Reader" "at" "I" ∈ lw_tbl) (hdg : decode cc pc = .ok (.getfield index, 3)) (kk : W p l e R s m args below meth c H locs cells slots Q (F0 m (pc + 3) ls (.int (gI st b 5) :: rest))) : W p l e R s m args below meth c H locs cells slots Q (F0 m pc ls (.ref (E.2.1 b) :: rest)) := by
  obtain ⟨q0, -, he⟩ := wd_at hm (e10 (E := E) (st := st) hb)
  exact va_get (D := E.1) (C := RX11) (T := TX11) (N := 15) C.1 C.2.1 C.2.2.2.2.1 in10 C.2.2.2.1 C.2.2.2.2.2.1 hP q0 he rfl 5 (by decide) (C.T q) (fun _ h9 => h9) f10_5 hdg kk
theorem pf10_5 (C : Cx E L own cc nL p s m args c) (hP : va_P E.1 vwCl (wd E L st) H) (hS : va_S (fA E L s.heap.size) s.heap H locs) {b index : Nat} (hb : kd b = 10) (hm : b ∈ L) {v : Int32} (q : .fieldLink own index "PlankBridgeModel$Reader" "at" "I" ∈ lw_tbl) (hdg : decode cc pc = .ok (.putfield index, 3)) (kk : ∀ (H1 : Heap) (locs1 : List Loc), va_P E.1 vwCl (wd E L (uI st b 5 v)) H1 → va_S (fA E L s.heap.size) s.heap H1 locs1 → W p l e R s m args below meth c H1 locs1 cells slots Q (F0 m (pc + 3) ls rest)) : W p l e R s m args below meth c H locs cells slots Q (F0 m pc ls (.int v :: .ref (E.2.1 b) :: rest)) := by
  obtain ⟨q0, hq, he⟩ := wd_at hm (e10 (E := E) (st := st) hb)
  refine va_put (D := E.1) (C := RX11) (T := TX11) (N := 15) (ty := .int) C.1 C.2.1 C.2.2.2.2.1 in10 tyX11 tyX11_ok nmX11 C.2.2.2.1 C.2.2.2.2.2.1 hP C.D hS q0 he rfl 5 (by decide) (C.T q) (fun _ h9 => h9) rfl (by decide +kernel) rfl rfl (Nat.le_of_ble_eq_true rfl) hdg (fun H1 locs1 hP1 hD1 hS1 => kk H1 locs1 ?_ hS1)
  rw [wd_set (st' := uI st b 5 v) C.N hq ?_ sI_o] at hP1
  · exact hP1
  · rw [e10 hb, s10_5]
theorem gf10_6 (C : Cx E L own cc nL p s m args c) (hP : va_P E.1 vwCl (wd E L st) H) {b index : Nat} (hb : kd b = 10) (hm : b ∈ L) (q : .fieldLink own index "PlankBridgeModel$Reader" "kind" "I" ∈ lw_tbl) (hdg : decode cc pc = .ok (.getfield index, 3)) (kk : W p l e R s m args below meth c H locs cells slots Q (F0 m (pc + 3) ls (.int (gI st b 6) :: rest))) : W p l e R s m args below meth c H locs cells slots Q (F0 m pc ls (.ref (E.2.1 b) :: rest)) := by
  obtain ⟨q0, -, he⟩ := wd_at hm (e10 (E := E) (st := st) hb)
  exact va_get (D := E.1) (C := RX11) (T := TX11) (N := 15) C.1 C.2.1 C.2.2.2.2.1 in10 C.2.2.2.1 C.2.2.2.2.2.1 hP q0 he rfl 6 (by decide) (C.T q) (fun _ h9 => h9) f10_6 hdg kk
theorem pf10_6 (C : Cx E L own cc nL p s m args c) (hP : va_P E.1 vwCl (wd E L st) H) (hS : va_S (fA E L s.heap.size) s.heap H locs) {b index : Nat} (hb : kd b = 10) (hm : b ∈ L) {v : Int32} (q : .fieldLink own index "PlankBridgeModel$Reader" "kind" "I" ∈ lw_tbl) (hdg : decode cc pc = .ok (.putfield index, 3)) (kk : ∀ (H1 : Heap) (locs1 : List Loc), va_P E.1 vwCl (wd E L (uI st b 6 v)) H1 → va_S (fA E L s.heap.size) s.heap H1 locs1 → W p l e R s m args below meth c H1 locs1 cells slots Q (F0 m (pc + 3) ls rest)) : W p l e R s m args below meth c H locs cells slots Q (F0 m pc ls (.int v :: .ref (E.2.1 b) :: rest)) := by
  obtain ⟨q0, hq, he⟩ := wd_at hm (e10 (E := E) (st := st) hb)
  refine va_put (D := E.1) (C := RX11) (T := TX11) (N := 15) (ty := .int) C.1 C.2.1 C.2.2.2.2.1 in10 tyX11 tyX11_ok nmX11 C.2.2.2.1 C.2.2.2.2.2.1 hP C.D hS q0 he rfl 6 (by decide) (C.T q) (fun _ h9 => h9) rfl (by decide +kernel) rfl rfl (Nat.le_of_ble_eq_true rfl) hdg (fun H1 locs1 hP1 hD1 hS1 => kk H1 locs1 ?_ hS1)
  rw [wd_set (st' := uI st b 6 v) C.N hq ?_ sI_o] at hP1
  · exact hP1
  · rw [e10 hb, s10_6]
theorem gf10_7 (C : Cx E L own cc nL p s m args c) (hP : va_P E.1 vwCl (wd E L st) H) {b index : Nat} (hb : kd b = 10) (hm : b ∈ L) (q : .fieldLink own index "PlankBridgeModel$Reader" "from" "I" ∈ lw_tbl) (hdg : decode cc pc = .ok (.getfield index, 3)) (kk : W p l e R s m args below meth c H locs cells slots Q (F0 m (pc + 3) ls (.int (gI st b 7) :: rest))) : W p l e R s m args below meth c H locs cells slots Q (F0 m pc ls (.ref (E.2.1 b) :: rest)) := by
  obtain ⟨q0, -, he⟩ := wd_at hm (e10 (E := E) (st := st) hb)
  exact va_get (D := E.1) (C := RX11) (T := TX11) (N := 15) C.1 C.2.1 C.2.2.2.2.1 in10 C.2.2.2.1 C.2.2.2.2.2.1 hP q0 he rfl 7 (by decide) (C.T q) (fun _ h9 => h9) f10_7 hdg kk
theorem pf10_7 (C : Cx E L own cc nL p s m args c) (hP : va_P E.1 vwCl (wd E L st) H) (hS : va_S (fA E L s.heap.size) s.heap H locs) {b index : Nat} (hb : kd b = 10) (hm : b ∈ L) {v : Int32} (q : .fieldLink own index "PlankBridgeModel$Reader" "from" "I" ∈ lw_tbl) (hdg : decode cc pc = .ok (.putfield index, 3)) (kk : ∀ (H1 : Heap) (locs1 : List Loc), va_P E.1 vwCl (wd E L (uI st b 7 v)) H1 → va_S (fA E L s.heap.size) s.heap H1 locs1 → W p l e R s m args below meth c H1 locs1 cells slots Q (F0 m (pc + 3) ls rest)) : W p l e R s m args below meth c H locs cells slots Q (F0 m pc ls (.int v :: .ref (E.2.1 b) :: rest)) := by
  obtain ⟨q0, hq, he⟩ := wd_at hm (e10 (E := E) (st := st) hb)
  refine va_put (D := E.1) (C := RX11) (T := TX11) (N := 15) (ty := .int) C.1 C.2.1 C.2.2.2.2.1 in10 tyX11 tyX11_ok nmX11 C.2.2.2.1 C.2.2.2.2.2.1 hP C.D hS q0 he rfl 7 (by decide) (C.T q) (fun _ h9 => h9) rfl (by decide +kernel) rfl rfl (Nat.le_of_ble_eq_true rfl) hdg (fun H1 locs1 hP1 hD1 hS1 => kk H1 locs1 ?_ hS1)
  rw [wd_set (st' := uI st b 7 v) C.N hq ?_ sI_o] at hP1
  · exact hP1
  · rw [e10 hb, s10_7]
theorem gf10_8 (C : Cx E L own cc nL p s m args c) (hP : va_P E.1 vwCl (wd E L st) H) {b index : Nat} (hb : kd b = 10) (hm : b ∈ L) (q : .fieldLink own index "PlankBridgeModel$Reader" "number" "I" ∈ lw_tbl) (hdg : decode cc pc = .ok (.getfield index, 3)) (kk : W p l e R s m args below meth c H locs cells slots Q (F0 m (pc + 3) ls (.int (gI st b 8) :: rest))) : W p l e R s m args below meth c H locs cells slots Q (F0 m pc ls (.ref (E.2.1 b) :: rest)) := by
  obtain ⟨q0, -, he⟩ := wd_at hm (e10 (E := E) (st := st) hb)
  exact va_get (D := E.1) (C := RX11) (T := TX11) (N := 15) C.1 C.2.1 C.2.2.2.2.1 in10 C.2.2.2.1 C.2.2.2.2.2.1 hP q0 he rfl 8 (by decide) (C.T q) (fun _ h9 => h9) f10_8 hdg kk
theorem pf10_8 (C : Cx E L own cc nL p s m args c) (hP : va_P E.1 vwCl (wd E L st) H) (hS : va_S (fA E L s.heap.size) s.heap H locs) {b index : Nat} (hb : kd b = 10) (hm : b ∈ L) {v : Int32} (q : .fieldLink own index "PlankBridgeModel$Reader" "number" "I" ∈ lw_tbl) (hdg : decode cc pc = .ok (.putfield index, 3)) (kk : ∀ (H1 : Heap) (locs1 : List Loc), va_P E.1 vwCl (wd E L (uI st b 8 v)) H1 → va_S (fA E L s.heap.size) s.heap H1 locs1 → W p l e R s m args below meth c H1 locs1 cells slots Q (F0 m (pc + 3) ls rest)) : W p l e R s m args below meth c H locs cells slots Q (F0 m pc ls (.int v :: .ref (E.2.1 b) :: rest)) := by
  obtain ⟨q0, hq, he⟩ := wd_at hm (e10 (E := E) (st := st) hb)
  refine va_put (D := E.1) (C := RX11) (T := TX11) (N := 15) (ty := .int) C.1 C.2.1 C.2.2.2.2.1 in10 tyX11 tyX11_ok nmX11 C.2.2.2.1 C.2.2.2.2.2.1 hP C.D hS q0 he rfl 8 (by decide) (C.T q) (fun _ h9 => h9) rfl (by decide +kernel) rfl rfl (Nat.le_of_ble_eq_true rfl) hdg (fun H1 locs1 hP1 hD1 hS1 => kk H1 locs1 ?_ hS1)
  rw [wd_set (st' := uI st b 8 v) C.N hq ?_ sI_o] at hP1
  · exact hP1
  · rw [e10 hb, s10_8]
theorem gf10_9 (C : Cx E L own cc nL p s m args c) (hP : va_P E.1 vwCl (wd E L st) H) {b index : Nat} (hb : kd b = 10) (hm : b ∈ L) (q : .fieldLink own index "PlankBridgeModel$Reader" "name" "J" ∈ lw_tbl) (hdg : decode cc pc = .ok (.getfield index, 3)) (kk : W p l e R s m args below meth c H locs cells slots Q (F0 m (pc + 3) ls (.long (gJ st b 9) :: rest))) : W p l e R s m args below meth c H locs cells slots Q (F0 m pc ls (.ref (E.2.1 b) :: rest)) := by
  obtain ⟨q0, -, he⟩ := wd_at hm (e10 (E := E) (st := st) hb)
  exact va_get (D := E.1) (C := RX11) (T := TX11) (N := 15) C.1 C.2.1 C.2.2.2.2.1 in10 C.2.2.2.1 C.2.2.2.2.2.1 hP q0 he rfl 9 (by decide) (C.T q) (fun _ h9 => h9) f10_9 hdg kk
theorem pf10_9 (C : Cx E L own cc nL p s m args c) (hP : va_P E.1 vwCl (wd E L st) H) (hS : va_S (fA E L s.heap.size) s.heap H locs) {b index : Nat} (hb : kd b = 10) (hm : b ∈ L) {v : Int64} (q : .fieldLink own index "PlankBridgeModel$Reader" "name" "J" ∈ lw_tbl) (hdg : decode cc pc = .ok (.putfield index, 3)) (kk : ∀ (H1 : Heap) (locs1 : List Loc), va_P E.1 vwCl (wd E L (uJ st b 9 v)) H1 → va_S (fA E L s.heap.size) s.heap H1 locs1 → W p l e R s m args below meth c H1 locs1 cells slots Q (F0 m (pc + 3) ls rest)) : W p l e R s m args below meth c H locs cells slots Q (F0 m pc ls (.long v :: .ref (E.2.1 b) :: rest)) := by
  obtain ⟨q0, hq, he⟩ := wd_at hm (e10 (E := E) (st := st) hb)
  refine va_put (D := E.1) (C := RX11) (T := TX11) (N := 15) (ty := .long) C.1 C.2.1 C.2.2.2.2.1 in10 tyX11 tyX11_ok nmX11 C.2.2.2.1 C.2.2.2.2.2.1 hP C.D hS q0 he rfl 9 (by decide) (C.T q) (fun _ h9 => h9) rfl (by decide +kernel) rfl rfl (Nat.le_of_ble_eq_true rfl) hdg (fun H1 locs1 hP1 hD1 hS1 => kk H1 locs1 ?_ hS1)
  rw [wd_set (st' := uJ st b 9 v) C.N hq ?_ sJ_o] at hP1
  · exact hP1
  · rw [e10 hb, s10_9]
theorem gf10_10 (C : Cx E L own cc nL p s m args c) (hP : va_P E.1 vwCl (wd E L st) H) {b index : Nat} (hb : kd b = 10) (hm : b ∈ L) (q : .fieldLink own index "PlankBridgeModel$Reader" "tokens" "I" ∈ lw_tbl) (hdg : decode cc pc = .ok (.getfield index, 3)) (kk : W p l e R s m args below meth c H locs cells slots Q (F0 m (pc + 3) ls (.int (gI st b 10) :: rest))) : W p l e R s m args below meth c H locs cells slots Q (F0 m pc ls (.ref (E.2.1 b) :: rest)) := by
  obtain ⟨q0, -, he⟩ := wd_at hm (e10 (E := E) (st := st) hb)
  exact va_get (D := E.1) (C := RX11) (T := TX11) (N := 15) C.1 C.2.1 C.2.2.2.2.1 in10 C.2.2.2.1 C.2.2.2.2.2.1 hP q0 he rfl 10 (by decide) (C.T q) (fun _ h9 => h9) f10_10 hdg kk
theorem pf10_10 (C : Cx E L own cc nL p s m args c) (hP : va_P E.1 vwCl (wd E L st) H) (hS : va_S (fA E L s.heap.size) s.heap H locs) {b index : Nat} (hb : kd b = 10) (hm : b ∈ L) {v : Int32} (q : .fieldLink own index "PlankBridgeModel$Reader" "tokens" "I" ∈ lw_tbl) (hdg : decode cc pc = .ok (.putfield index, 3)) (kk : ∀ (H1 : Heap) (locs1 : List Loc), va_P E.1 vwCl (wd E L (uI st b 10 v)) H1 → va_S (fA E L s.heap.size) s.heap H1 locs1 → W p l e R s m args below meth c H1 locs1 cells slots Q (F0 m (pc + 3) ls rest)) : W p l e R s m args below meth c H locs cells slots Q (F0 m pc ls (.int v :: .ref (E.2.1 b) :: rest)) := by
  obtain ⟨q0, hq, he⟩ := wd_at hm (e10 (E := E) (st := st) hb)
  refine va_put (D := E.1) (C := RX11) (T := TX11) (N := 15) (ty := .int) C.1 C.2.1 C.2.2.2.2.1 in10 tyX11 tyX11_ok nmX11 C.2.2.2.1 C.2.2.2.2.2.1 hP C.D hS q0 he rfl 10 (by decide) (C.T q) (fun _ h9 => h9) rfl (by decide +kernel) rfl rfl (Nat.le_of_ble_eq_true rfl) hdg (fun H1 locs1 hP1 hD1 hS1 => kk H1 locs1 ?_ hS1)
  rw [wd_set (st' := uI st b 10 v) C.N hq ?_ sI_o] at hP1
  · exact hP1
  · rw [e10 hb, s10_10]
theorem gf10_11 (C : Cx E L own cc nL p s m args c) (hP : va_P E.1 vwCl (wd E L st) H) {b index : Nat} (hb : kd b = 10) (hm : b ∈ L) (q : .fieldLink own index "PlankBridgeModel$Reader" "fault" "I" ∈ lw_tbl) (hdg : decode cc pc = .ok (.getfield index, 3)) (kk : W p l e R s m args below meth c H locs cells slots Q (F0 m (pc + 3) ls (.int (gI st b 11) :: rest))) : W p l e R s m args below meth c H locs cells slots Q (F0 m pc ls (.ref (E.2.1 b) :: rest)) := by
  obtain ⟨q0, -, he⟩ := wd_at hm (e10 (E := E) (st := st) hb)
  exact va_get (D := E.1) (C := RX11) (T := TX11) (N := 15) C.1 C.2.1 C.2.2.2.2.1 in10 C.2.2.2.1 C.2.2.2.2.2.1 hP q0 he rfl 11 (by decide) (C.T q) (fun _ h9 => h9) f10_11 hdg kk
theorem pf10_11 (C : Cx E L own cc nL p s m args c) (hP : va_P E.1 vwCl (wd E L st) H) (hS : va_S (fA E L s.heap.size) s.heap H locs) {b index : Nat} (hb : kd b = 10) (hm : b ∈ L) {v : Int32} (q : .fieldLink own index "PlankBridgeModel$Reader" "fault" "I" ∈ lw_tbl) (hdg : decode cc pc = .ok (.putfield index, 3)) (kk : ∀ (H1 : Heap) (locs1 : List Loc), va_P E.1 vwCl (wd E L (uI st b 11 v)) H1 → va_S (fA E L s.heap.size) s.heap H1 locs1 → W p l e R s m args below meth c H1 locs1 cells slots Q (F0 m (pc + 3) ls rest)) : W p l e R s m args below meth c H locs cells slots Q (F0 m pc ls (.int v :: .ref (E.2.1 b) :: rest)) := by
  obtain ⟨q0, hq, he⟩ := wd_at hm (e10 (E := E) (st := st) hb)
  refine va_put (D := E.1) (C := RX11) (T := TX11) (N := 15) (ty := .int) C.1 C.2.1 C.2.2.2.2.1 in10 tyX11 tyX11_ok nmX11 C.2.2.2.1 C.2.2.2.2.2.1 hP C.D hS q0 he rfl 11 (by decide) (C.T q) (fun _ h9 => h9) rfl (by decide +kernel) rfl rfl (Nat.le_of_ble_eq_true rfl) hdg (fun H1 locs1 hP1 hD1 hS1 => kk H1 locs1 ?_ hS1)
  rw [wd_set (st' := uI st b 11 v) C.N hq ?_ sI_o] at hP1
  · exact hP1
  · rw [e10 hb, s10_11]
theorem gn10_11 (C : Cx E L own cc nL p s m args c) (hP : va_P E.1 vwCl (wd E L st) H) {b index : Nat} (hb : kd b = 10) (hm : b ∈ L) (q : .fieldLinkNest own index "PlankBridgeModel$Reader" "fault" "I" host ∈ lw_tbl) (hdg : decode cc pc = .ok (.getfield index, 3)) (kk : W p l e R s m args below meth c H locs cells slots Q (F0 m (pc + 3) ls (.int (gI st b 11) :: rest))) : W p l e R s m args below meth c H locs cells slots Q (F0 m pc ls (.ref (E.2.1 b) :: rest)) := by
  obtain ⟨q0, -, he⟩ := wd_at hm (e10 (E := E) (st := st) hb)
  exact va_getN (D := E.1) (C := RX11) (T := TX11) (N := 15) C.1 C.2.1 C.2.2.2.2.1 in10 C.2.2.2.1 C.2.2.2.2.2.1 hP q0 he rfl 11 (by decide) (C.Tn q) (fun _ h9 => h9) f10_11 hdg kk
theorem pn10_11 (C : Cx E L own cc nL p s m args c) (hP : va_P E.1 vwCl (wd E L st) H) (hS : va_S (fA E L s.heap.size) s.heap H locs) {b index : Nat} (hb : kd b = 10) (hm : b ∈ L) {v : Int32} (q : .fieldLinkNest own index "PlankBridgeModel$Reader" "fault" "I" host ∈ lw_tbl) (hdg : decode cc pc = .ok (.putfield index, 3)) (kk : ∀ (H1 : Heap) (locs1 : List Loc), va_P E.1 vwCl (wd E L (uI st b 11 v)) H1 → va_S (fA E L s.heap.size) s.heap H1 locs1 → W p l e R s m args below meth c H1 locs1 cells slots Q (F0 m (pc + 3) ls rest)) : W p l e R s m args below meth c H locs cells slots Q (F0 m pc ls (.int v :: .ref (E.2.1 b) :: rest)) := by
  obtain ⟨q0, hq, he⟩ := wd_at hm (e10 (E := E) (st := st) hb)
  refine va_putN (D := E.1) (C := RX11) (T := TX11) (N := 15) (ty := .int) C.1 C.2.1 C.2.2.2.2.1 in10 tyX11 tyX11_ok nmX11 C.2.2.2.1 C.2.2.2.2.2.1 hP C.D hS q0 he rfl 11 (by decide) (C.Tn q) (fun _ h9 => h9) rfl (by decide +kernel) rfl rfl (Nat.le_of_ble_eq_true rfl) hdg (fun H1 locs1 hP1 hD1 hS1 => kk H1 locs1 ?_ hS1)
  rw [wd_set (st' := uI st b 11 v) C.N hq ?_ sI_o] at hP1
  · exact hP1
  · rw [e10 hb, s10_11]
theorem gf10_12 (C : Cx E L own cc nL p s m args c) (hP : va_P E.1 vwCl (wd E L st) H) {b index : Nat} (hb : kd b = 10) (hm : b ∈ L) (q : .fieldLink own index "PlankBridgeModel$Reader" "faultAt" "I" ∈ lw_tbl) (hdg : decode cc pc = .ok (.getfield index, 3)) (kk : W p l e R s m args below meth c H locs cells slots Q (F0 m (pc + 3) ls (.int (gI st b 12) :: rest))) : W p l e R s m args below meth c H locs cells slots Q (F0 m pc ls (.ref (E.2.1 b) :: rest)) := by
  obtain ⟨q0, -, he⟩ := wd_at hm (e10 (E := E) (st := st) hb)
  exact va_get (D := E.1) (C := RX11) (T := TX11) (N := 15) C.1 C.2.1 C.2.2.2.2.1 in10 C.2.2.2.1 C.2.2.2.2.2.1 hP q0 he rfl 12 (by decide) (C.T q) (fun _ h9 => h9) f10_12 hdg kk
theorem pf10_12 (C : Cx E L own cc nL p s m args c) (hP : va_P E.1 vwCl (wd E L st) H) (hS : va_S (fA E L s.heap.size) s.heap H locs) {b index : Nat} (hb : kd b = 10) (hm : b ∈ L) {v : Int32} (q : .fieldLink own index "PlankBridgeModel$Reader" "faultAt" "I" ∈ lw_tbl) (hdg : decode cc pc = .ok (.putfield index, 3)) (kk : ∀ (H1 : Heap) (locs1 : List Loc), va_P E.1 vwCl (wd E L (uI st b 12 v)) H1 → va_S (fA E L s.heap.size) s.heap H1 locs1 → W p l e R s m args below meth c H1 locs1 cells slots Q (F0 m (pc + 3) ls rest)) : W p l e R s m args below meth c H locs cells slots Q (F0 m pc ls (.int v :: .ref (E.2.1 b) :: rest)) := by
  obtain ⟨q0, hq, he⟩ := wd_at hm (e10 (E := E) (st := st) hb)
  refine va_put (D := E.1) (C := RX11) (T := TX11) (N := 15) (ty := .int) C.1 C.2.1 C.2.2.2.2.1 in10 tyX11 tyX11_ok nmX11 C.2.2.2.1 C.2.2.2.2.2.1 hP C.D hS q0 he rfl 12 (by decide) (C.T q) (fun _ h9 => h9) rfl (by decide +kernel) rfl rfl (Nat.le_of_ble_eq_true rfl) hdg (fun H1 locs1 hP1 hD1 hS1 => kk H1 locs1 ?_ hS1)
  rw [wd_set (st' := uI st b 12 v) C.N hq ?_ sI_o] at hP1
  · exact hP1
  · rw [e10 hb, s10_12]
theorem gn10_12 (C : Cx E L own cc nL p s m args c) (hP : va_P E.1 vwCl (wd E L st) H) {b index : Nat} (hb : kd b = 10) (hm : b ∈ L) (q : .fieldLinkNest own index "PlankBridgeModel$Reader" "faultAt" "I" host ∈ lw_tbl) (hdg : decode cc pc = .ok (.getfield index, 3)) (kk : W p l e R s m args below meth c H locs cells slots Q (F0 m (pc + 3) ls (.int (gI st b 12) :: rest))) : W p l e R s m args below meth c H locs cells slots Q (F0 m pc ls (.ref (E.2.1 b) :: rest)) := by
  obtain ⟨q0, -, he⟩ := wd_at hm (e10 (E := E) (st := st) hb)
  exact va_getN (D := E.1) (C := RX11) (T := TX11) (N := 15) C.1 C.2.1 C.2.2.2.2.1 in10 C.2.2.2.1 C.2.2.2.2.2.1 hP q0 he rfl 12 (by decide) (C.Tn q) (fun _ h9 => h9) f10_12 hdg kk
theorem pn10_12 (C : Cx E L own cc nL p s m args c) (hP : va_P E.1 vwCl (wd E L st) H) (hS : va_S (fA E L s.heap.size) s.heap H locs) {b index : Nat} (hb : kd b = 10) (hm : b ∈ L) {v : Int32} (q : .fieldLinkNest own index "PlankBridgeModel$Reader" "faultAt" "I" host ∈ lw_tbl) (hdg : decode cc pc = .ok (.putfield index, 3)) (kk : ∀ (H1 : Heap) (locs1 : List Loc), va_P E.1 vwCl (wd E L (uI st b 12 v)) H1 → va_S (fA E L s.heap.size) s.heap H1 locs1 → W p l e R s m args below meth c H1 locs1 cells slots Q (F0 m (pc + 3) ls rest)) : W p l e R s m args below meth c H locs cells slots Q (F0 m pc ls (.int v :: .ref (E.2.1 b) :: rest)) := by
  obtain ⟨q0, hq, he⟩ := wd_at hm (e10 (E := E) (st := st) hb)
  refine va_putN (D := E.1) (C := RX11) (T := TX11) (N := 15) (ty := .int) C.1 C.2.1 C.2.2.2.2.1 in10 tyX11 tyX11_ok nmX11 C.2.2.2.1 C.2.2.2.2.2.1 hP C.D hS q0 he rfl 12 (by decide) (C.Tn q) (fun _ h9 => h9) rfl (by decide +kernel) rfl rfl (Nat.le_of_ble_eq_true rfl) hdg (fun H1 locs1 hP1 hD1 hS1 => kk H1 locs1 ?_ hS1)
  rw [wd_set (st' := uI st b 12 v) C.N hq ?_ sI_o] at hP1
  · exact hP1
  · rw [e10 hb, s10_12]
theorem gf10_13 (C : Cx E L own cc nL p s m args c) (hP : va_P E.1 vwCl (wd E L st) H) {b index : Nat} (hb : kd b = 10) (hm : b ∈ L) (q : .fieldLink own index "PlankBridgeModel$Reader" "wrongAt" "I" ∈ lw_tbl) (hdg : decode cc pc = .ok (.getfield index, 3)) (kk : W p l e R s m args below meth c H locs cells slots Q (F0 m (pc + 3) ls (.int (gI st b 13) :: rest))) : W p l e R s m args below meth c H locs cells slots Q (F0 m pc ls (.ref (E.2.1 b) :: rest)) := by
  obtain ⟨q0, -, he⟩ := wd_at hm (e10 (E := E) (st := st) hb)
  exact va_get (D := E.1) (C := RX11) (T := TX11) (N := 15) C.1 C.2.1 C.2.2.2.2.1 in10 C.2.2.2.1 C.2.2.2.2.2.1 hP q0 he rfl 13 (by decide) (C.T q) (fun _ h9 => h9) f10_13 hdg kk
theorem pf10_13 (C : Cx E L own cc nL p s m args c) (hP : va_P E.1 vwCl (wd E L st) H) (hS : va_S (fA E L s.heap.size) s.heap H locs) {b index : Nat} (hb : kd b = 10) (hm : b ∈ L) {v : Int32} (q : .fieldLink own index "PlankBridgeModel$Reader" "wrongAt" "I" ∈ lw_tbl) (hdg : decode cc pc = .ok (.putfield index, 3)) (kk : ∀ (H1 : Heap) (locs1 : List Loc), va_P E.1 vwCl (wd E L (uI st b 13 v)) H1 → va_S (fA E L s.heap.size) s.heap H1 locs1 → W p l e R s m args below meth c H1 locs1 cells slots Q (F0 m (pc + 3) ls rest)) : W p l e R s m args below meth c H locs cells slots Q (F0 m pc ls (.int v :: .ref (E.2.1 b) :: rest)) := by
  obtain ⟨q0, hq, he⟩ := wd_at hm (e10 (E := E) (st := st) hb)
  refine va_put (D := E.1) (C := RX11) (T := TX11) (N := 15) (ty := .int) C.1 C.2.1 C.2.2.2.2.1 in10 tyX11 tyX11_ok nmX11 C.2.2.2.1 C.2.2.2.2.2.1 hP C.D hS q0 he rfl 13 (by decide) (C.T q) (fun _ h9 => h9) rfl (by decide +kernel) rfl rfl (Nat.le_of_ble_eq_true rfl) hdg (fun H1 locs1 hP1 hD1 hS1 => kk H1 locs1 ?_ hS1)
  rw [wd_set (st' := uI st b 13 v) C.N hq ?_ sI_o] at hP1
  · exact hP1
  · rw [e10 hb, s10_13]
theorem gn10_13 (C : Cx E L own cc nL p s m args c) (hP : va_P E.1 vwCl (wd E L st) H) {b index : Nat} (hb : kd b = 10) (hm : b ∈ L) (q : .fieldLinkNest own index "PlankBridgeModel$Reader" "wrongAt" "I" host ∈ lw_tbl) (hdg : decode cc pc = .ok (.getfield index, 3)) (kk : W p l e R s m args below meth c H locs cells slots Q (F0 m (pc + 3) ls (.int (gI st b 13) :: rest))) : W p l e R s m args below meth c H locs cells slots Q (F0 m pc ls (.ref (E.2.1 b) :: rest)) := by
  obtain ⟨q0, -, he⟩ := wd_at hm (e10 (E := E) (st := st) hb)
  exact va_getN (D := E.1) (C := RX11) (T := TX11) (N := 15) C.1 C.2.1 C.2.2.2.2.1 in10 C.2.2.2.1 C.2.2.2.2.2.1 hP q0 he rfl 13 (by decide) (C.Tn q) (fun _ h9 => h9) f10_13 hdg kk
theorem pn10_13 (C : Cx E L own cc nL p s m args c) (hP : va_P E.1 vwCl (wd E L st) H) (hS : va_S (fA E L s.heap.size) s.heap H locs) {b index : Nat} (hb : kd b = 10) (hm : b ∈ L) {v : Int32} (q : .fieldLinkNest own index "PlankBridgeModel$Reader" "wrongAt" "I" host ∈ lw_tbl) (hdg : decode cc pc = .ok (.putfield index, 3)) (kk : ∀ (H1 : Heap) (locs1 : List Loc), va_P E.1 vwCl (wd E L (uI st b 13 v)) H1 → va_S (fA E L s.heap.size) s.heap H1 locs1 → W p l e R s m args below meth c H1 locs1 cells slots Q (F0 m (pc + 3) ls rest)) : W p l e R s m args below meth c H locs cells slots Q (F0 m pc ls (.int v :: .ref (E.2.1 b) :: rest)) := by
  obtain ⟨q0, hq, he⟩ := wd_at hm (e10 (E := E) (st := st) hb)
  refine va_putN (D := E.1) (C := RX11) (T := TX11) (N := 15) (ty := .int) C.1 C.2.1 C.2.2.2.2.1 in10 tyX11 tyX11_ok nmX11 C.2.2.2.1 C.2.2.2.2.2.1 hP C.D hS q0 he rfl 13 (by decide) (C.Tn q) (fun _ h9 => h9) rfl (by decide +kernel) rfl rfl (Nat.le_of_ble_eq_true rfl) hdg (fun H1 locs1 hP1 hD1 hS1 => kk H1 locs1 ?_ hS1)
  rw [wd_set (st' := uI st b 13 v) C.N hq ?_ sI_o] at hP1
  · exact hP1
  · rw [e10 hb, s10_13]
theorem gf10_14 (C : Cx E L own cc nL p s m args c) (hP : va_P E.1 vwCl (wd E L st) H) {b index : Nat} (hb : kd b = 10) (hm : b ∈ L) (q : .fieldLink own index "PlankBridgeModel$Reader" "this$0" "LPlankBridgeModel;" ∈ lw_tbl) (hdg : decode cc pc = .ok (.getfield index, 3)) (kk : W p l e R s m args below meth c H locs cells slots Q (F0 m (pc + 3) ls (.ref (E.2.1 54) :: rest))) : W p l e R s m args below meth c H locs cells slots Q (F0 m pc ls (.ref (E.2.1 b) :: rest)) := by
  obtain ⟨q0, -, he⟩ := wd_at hm (e10 (E := E) (st := st) hb)
  exact va_get (D := E.1) (C := RX11) (T := TX11) (N := 15) C.1 C.2.1 C.2.2.2.2.1 in10 C.2.2.2.1 C.2.2.2.2.2.1 hP q0 he rfl 14 (by decide) (C.T q) (fun _ h9 => h9) f10_14 hdg kk
theorem gf11_0 (C : Cx E L own cc nL p s m args c) (hP : va_P E.1 vwCl (wd E L st) H) {b index : Nat} (hb : kd b = 11) (hm : b ∈ L) (q : .fieldLink own index "PlankBridgeModel" "thrown" "I" ∈ lw_tbl) (hdg : decode cc pc = .ok (.getfield index, 3)) (kk : W p l e R s m args below meth c H locs cells slots Q (F0 m (pc + 3) ls (.int (gI st b 0) :: rest))) : W p l e R s m args below meth c H locs cells slots Q (F0 m pc ls (.ref (E.2.1 b) :: rest)) := by
  obtain ⟨q0, -, he⟩ := wd_at hm (e11 (E := E) (st := st) hb)
  exact va_get (D := E.1) (C := RX12) (T := TX12) (N := 9) C.1 C.2.1 C.2.2.2.2.1 in11 C.2.2.2.1 C.2.2.2.2.2.1 hP q0 he rfl 0 (by decide) (C.T q) (fun _ h9 => h9) f11_0 hdg kk
theorem pf11_0 (C : Cx E L own cc nL p s m args c) (hP : va_P E.1 vwCl (wd E L st) H) (hS : va_S (fA E L s.heap.size) s.heap H locs) {b index : Nat} (hb : kd b = 11) (hm : b ∈ L) {v : Int32} (q : .fieldLink own index "PlankBridgeModel" "thrown" "I" ∈ lw_tbl) (hdg : decode cc pc = .ok (.putfield index, 3)) (kk : ∀ (H1 : Heap) (locs1 : List Loc), va_P E.1 vwCl (wd E L (uI st b 0 v)) H1 → va_S (fA E L s.heap.size) s.heap H1 locs1 → W p l e R s m args below meth c H1 locs1 cells slots Q (F0 m (pc + 3) ls rest)) : W p l e R s m args below meth c H locs cells slots Q (F0 m pc ls (.int v :: .ref (E.2.1 b) :: rest)) := by
  obtain ⟨q0, hq, he⟩ := wd_at hm (e11 (E := E) (st := st) hb)
  refine va_put (D := E.1) (C := RX12) (T := TX12) (N := 9) (ty := .int) C.1 C.2.1 C.2.2.2.2.1 in11 tyX12 tyX12_ok nmX12 C.2.2.2.1 C.2.2.2.2.2.1 hP C.D hS q0 he rfl 0 (by decide) (C.T q) (fun _ h9 => h9) rfl (by decide +kernel) rfl rfl (Nat.le_of_ble_eq_true rfl) hdg (fun H1 locs1 hP1 hD1 hS1 => kk H1 locs1 ?_ hS1)
  rw [wd_set (st' := uI st b 0 v) C.N hq ?_ sI_o] at hP1
  · exact hP1
  · rw [e11 hb, s11_0]
theorem gf11_1 (C : Cx E L own cc nL p s m args c) (hP : va_P E.1 vwCl (wd E L st) H) {b index : Nat} (hb : kd b = 11) (hm : b ∈ L) (q : .fieldLink own index "PlankBridgeModel" "tape" "[B" ∈ lw_tbl) (hdg : decode cc pc = .ok (.getfield index, 3)) (kk : W p l e R s m args below meth c H locs cells slots Q (F0 m (pc + 3) ls (.ref (E.2.1 (b + 1)) :: rest))) : W p l e R s m args below meth c H locs cells slots Q (F0 m pc ls (.ref (E.2.1 b) :: rest)) := by
  obtain ⟨q0, -, he⟩ := wd_at hm (e11 (E := E) (st := st) hb)
  exact va_get (D := E.1) (C := RX12) (T := TX12) (N := 9) C.1 C.2.1 C.2.2.2.2.1 in11 C.2.2.2.1 C.2.2.2.2.2.1 hP q0 he rfl 1 (by decide) (C.T q) (fun _ h9 => h9) f11_1 hdg kk
theorem gn11_1 (C : Cx E L own cc nL p s m args c) (hP : va_P E.1 vwCl (wd E L st) H) {b index : Nat} (hb : kd b = 11) (hm : b ∈ L) (q : .fieldLinkNest own index "PlankBridgeModel" "tape" "[B" host ∈ lw_tbl) (hdg : decode cc pc = .ok (.getfield index, 3)) (kk : W p l e R s m args below meth c H locs cells slots Q (F0 m (pc + 3) ls (.ref (E.2.1 (b + 1)) :: rest))) : W p l e R s m args below meth c H locs cells slots Q (F0 m pc ls (.ref (E.2.1 b) :: rest)) := by
  obtain ⟨q0, -, he⟩ := wd_at hm (e11 (E := E) (st := st) hb)
  exact va_getN (D := E.1) (C := RX12) (T := TX12) (N := 9) C.1 C.2.1 C.2.2.2.2.1 in11 C.2.2.2.1 C.2.2.2.2.2.1 hP q0 he rfl 1 (by decide) (C.Tn q) (fun _ h9 => h9) f11_1 hdg kk
theorem gf11_2 (C : Cx E L own cc nL p s m args c) (hP : va_P E.1 vwCl (wd E L st) H) {b index : Nat} (hb : kd b = 11) (hm : b ∈ L) (q : .fieldLink own index "PlankBridgeModel" "size" "I" ∈ lw_tbl) (hdg : decode cc pc = .ok (.getfield index, 3)) (kk : W p l e R s m args below meth c H locs cells slots Q (F0 m (pc + 3) ls (.int (gI st b 2) :: rest))) : W p l e R s m args below meth c H locs cells slots Q (F0 m pc ls (.ref (E.2.1 b) :: rest)) := by
  obtain ⟨q0, -, he⟩ := wd_at hm (e11 (E := E) (st := st) hb)
  exact va_get (D := E.1) (C := RX12) (T := TX12) (N := 9) C.1 C.2.1 C.2.2.2.2.1 in11 C.2.2.2.1 C.2.2.2.2.2.1 hP q0 he rfl 2 (by decide) (C.T q) (fun _ h9 => h9) f11_2 hdg kk
theorem pf11_2 (C : Cx E L own cc nL p s m args c) (hP : va_P E.1 vwCl (wd E L st) H) (hS : va_S (fA E L s.heap.size) s.heap H locs) {b index : Nat} (hb : kd b = 11) (hm : b ∈ L) {v : Int32} (q : .fieldLink own index "PlankBridgeModel" "size" "I" ∈ lw_tbl) (hdg : decode cc pc = .ok (.putfield index, 3)) (kk : ∀ (H1 : Heap) (locs1 : List Loc), va_P E.1 vwCl (wd E L (uI st b 2 v)) H1 → va_S (fA E L s.heap.size) s.heap H1 locs1 → W p l e R s m args below meth c H1 locs1 cells slots Q (F0 m (pc + 3) ls rest)) : W p l e R s m args below meth c H locs cells slots Q (F0 m pc ls (.int v :: .ref (E.2.1 b) :: rest)) := by
  obtain ⟨q0, hq, he⟩ := wd_at hm (e11 (E := E) (st := st) hb)
  refine va_put (D := E.1) (C := RX12) (T := TX12) (N := 9) (ty := .int) C.1 C.2.1 C.2.2.2.2.1 in11 tyX12 tyX12_ok nmX12 C.2.2.2.1 C.2.2.2.2.2.1 hP C.D hS q0 he rfl 2 (by decide) (C.T q) (fun _ h9 => h9) rfl (by decide +kernel) rfl rfl (Nat.le_of_ble_eq_true rfl) hdg (fun H1 locs1 hP1 hD1 hS1 => kk H1 locs1 ?_ hS1)
  rw [wd_set (st' := uI st b 2 v) C.N hq ?_ sI_o] at hP1
  · exact hP1
  · rw [e11 hb, s11_2]
theorem gn11_2 (C : Cx E L own cc nL p s m args c) (hP : va_P E.1 vwCl (wd E L st) H) {b index : Nat} (hb : kd b = 11) (hm : b ∈ L) (q : .fieldLinkNest own index "PlankBridgeModel" "size" "I" host ∈ lw_tbl) (hdg : decode cc pc = .ok (.getfield index, 3)) (kk : W p l e R s m args below meth c H locs cells slots Q (F0 m (pc + 3) ls (.int (gI st b 2) :: rest))) : W p l e R s m args below meth c H locs cells slots Q (F0 m pc ls (.ref (E.2.1 b) :: rest)) := by
  obtain ⟨q0, -, he⟩ := wd_at hm (e11 (E := E) (st := st) hb)
  exact va_getN (D := E.1) (C := RX12) (T := TX12) (N := 9) C.1 C.2.1 C.2.2.2.2.1 in11 C.2.2.2.1 C.2.2.2.2.2.1 hP q0 he rfl 2 (by decide) (C.Tn q) (fun _ h9 => h9) f11_2 hdg kk
theorem pn11_2 (C : Cx E L own cc nL p s m args c) (hP : va_P E.1 vwCl (wd E L st) H) (hS : va_S (fA E L s.heap.size) s.heap H locs) {b index : Nat} (hb : kd b = 11) (hm : b ∈ L) {v : Int32} (q : .fieldLinkNest own index "PlankBridgeModel" "size" "I" host ∈ lw_tbl) (hdg : decode cc pc = .ok (.putfield index, 3)) (kk : ∀ (H1 : Heap) (locs1 : List Loc), va_P E.1 vwCl (wd E L (uI st b 2 v)) H1 → va_S (fA E L s.heap.size) s.heap H1 locs1 → W p l e R s m args below meth c H1 locs1 cells slots Q (F0 m (pc + 3) ls rest)) : W p l e R s m args below meth c H locs cells slots Q (F0 m pc ls (.int v :: .ref (E.2.1 b) :: rest)) := by
  obtain ⟨q0, hq, he⟩ := wd_at hm (e11 (E := E) (st := st) hb)
  refine va_putN (D := E.1) (C := RX12) (T := TX12) (N := 9) (ty := .int) C.1 C.2.1 C.2.2.2.2.1 in11 tyX12 tyX12_ok nmX12 C.2.2.2.1 C.2.2.2.2.2.1 hP C.D hS q0 he rfl 2 (by decide) (C.Tn q) (fun _ h9 => h9) rfl (by decide +kernel) rfl rfl (Nat.le_of_ble_eq_true rfl) hdg (fun H1 locs1 hP1 hD1 hS1 => kk H1 locs1 ?_ hS1)
  rw [wd_set (st' := uI st b 2 v) C.N hq ?_ sI_o] at hP1
  · exact hP1
  · rw [e11 hb, s11_2]
theorem gf11_3 (C : Cx E L own cc nL p s m args c) (hP : va_P E.1 vwCl (wd E L st) H) {b index : Nat} (hb : kd b = 11) (hm : b ∈ L) (q : .fieldLink own index "PlankBridgeModel" "errorAt" "I" ∈ lw_tbl) (hdg : decode cc pc = .ok (.getfield index, 3)) (kk : W p l e R s m args below meth c H locs cells slots Q (F0 m (pc + 3) ls (.int (gI st b 3) :: rest))) : W p l e R s m args below meth c H locs cells slots Q (F0 m pc ls (.ref (E.2.1 b) :: rest)) := by
  obtain ⟨q0, -, he⟩ := wd_at hm (e11 (E := E) (st := st) hb)
  exact va_get (D := E.1) (C := RX12) (T := TX12) (N := 9) C.1 C.2.1 C.2.2.2.2.1 in11 C.2.2.2.1 C.2.2.2.2.2.1 hP q0 he rfl 3 (by decide) (C.T q) (fun _ h9 => h9) f11_3 hdg kk
theorem pf11_3 (C : Cx E L own cc nL p s m args c) (hP : va_P E.1 vwCl (wd E L st) H) (hS : va_S (fA E L s.heap.size) s.heap H locs) {b index : Nat} (hb : kd b = 11) (hm : b ∈ L) {v : Int32} (q : .fieldLink own index "PlankBridgeModel" "errorAt" "I" ∈ lw_tbl) (hdg : decode cc pc = .ok (.putfield index, 3)) (kk : ∀ (H1 : Heap) (locs1 : List Loc), va_P E.1 vwCl (wd E L (uI st b 3 v)) H1 → va_S (fA E L s.heap.size) s.heap H1 locs1 → W p l e R s m args below meth c H1 locs1 cells slots Q (F0 m (pc + 3) ls rest)) : W p l e R s m args below meth c H locs cells slots Q (F0 m pc ls (.int v :: .ref (E.2.1 b) :: rest)) := by
  obtain ⟨q0, hq, he⟩ := wd_at hm (e11 (E := E) (st := st) hb)
  refine va_put (D := E.1) (C := RX12) (T := TX12) (N := 9) (ty := .int) C.1 C.2.1 C.2.2.2.2.1 in11 tyX12 tyX12_ok nmX12 C.2.2.2.1 C.2.2.2.2.2.1 hP C.D hS q0 he rfl 3 (by decide) (C.T q) (fun _ h9 => h9) rfl (by decide +kernel) rfl rfl (Nat.le_of_ble_eq_true rfl) hdg (fun H1 locs1 hP1 hD1 hS1 => kk H1 locs1 ?_ hS1)
  rw [wd_set (st' := uI st b 3 v) C.N hq ?_ sI_o] at hP1
  · exact hP1
  · rw [e11 hb, s11_3]
theorem gf11_4 (C : Cx E L own cc nL p s m args c) (hP : va_P E.1 vwCl (wd E L st) H) {b index : Nat} (hb : kd b = 11) (hm : b ∈ L) (q : .fieldLink own index "PlankBridgeModel" "book" "LPlankBridgeModel$Book;" ∈ lw_tbl) (hdg : decode cc pc = .ok (.getfield index, 3)) (kk : W p l e R s m args below meth c H locs cells slots Q (F0 m (pc + 3) ls (.ref (E.2.1 60) :: rest))) : W p l e R s m args below meth c H locs cells slots Q (F0 m pc ls (.ref (E.2.1 b) :: rest)) := by
  obtain ⟨q0, -, he⟩ := wd_at hm (e11 (E := E) (st := st) hb)
  exact va_get (D := E.1) (C := RX12) (T := TX12) (N := 9) C.1 C.2.1 C.2.2.2.2.1 in11 C.2.2.2.1 C.2.2.2.2.2.1 hP q0 he rfl 4 (by decide) (C.T q) (fun _ h9 => h9) f11_4 hdg kk
theorem gf11_5 (C : Cx E L own cc nL p s m args c) (hP : va_P E.1 vwCl (wd E L st) H) {b index : Nat} (hb : kd b = 11) (hm : b ∈ L) (q : .fieldLink own index "PlankBridgeModel" "now" "[I" ∈ lw_tbl) (hdg : decode cc pc = .ok (.getfield index, 3)) (kk : W p l e R s m args below meth c H locs cells slots Q (F0 m (pc + 3) ls (.ref (E.2.1 (b + 2)) :: rest))) : W p l e R s m args below meth c H locs cells slots Q (F0 m pc ls (.ref (E.2.1 b) :: rest)) := by
  obtain ⟨q0, -, he⟩ := wd_at hm (e11 (E := E) (st := st) hb)
  exact va_get (D := E.1) (C := RX12) (T := TX12) (N := 9) C.1 C.2.1 C.2.2.2.2.1 in11 C.2.2.2.1 C.2.2.2.2.2.1 hP q0 he rfl 5 (by decide) (C.T q) (fun _ h9 => h9) f11_5 hdg kk
theorem gf11_6 (C : Cx E L own cc nL p s m args c) (hP : va_P E.1 vwCl (wd E L st) H) {b index : Nat} (hb : kd b = 11) (hm : b ∈ L) (q : .fieldLink own index "PlankBridgeModel" "kept" "[I" ∈ lw_tbl) (hdg : decode cc pc = .ok (.getfield index, 3)) (kk : W p l e R s m args below meth c H locs cells slots Q (F0 m (pc + 3) ls (.ref (E.2.1 (b + 3)) :: rest))) : W p l e R s m args below meth c H locs cells slots Q (F0 m pc ls (.ref (E.2.1 b) :: rest)) := by
  obtain ⟨q0, -, he⟩ := wd_at hm (e11 (E := E) (st := st) hb)
  exact va_get (D := E.1) (C := RX12) (T := TX12) (N := 9) C.1 C.2.1 C.2.2.2.2.1 in11 C.2.2.2.1 C.2.2.2.2.2.1 hP q0 he rfl 6 (by decide) (C.T q) (fun _ h9 => h9) f11_6 hdg kk
theorem gf11_7 (C : Cx E L own cc nL p s m args c) (hP : va_P E.1 vwCl (wd E L st) H) {b index : Nat} (hb : kd b = 11) (hm : b ∈ L) (q : .fieldLink own index "PlankBridgeModel" "line" "[I" ∈ lw_tbl) (hdg : decode cc pc = .ok (.getfield index, 3)) (kk : W p l e R s m args below meth c H locs cells slots Q (F0 m (pc + 3) ls (.ref (E.2.1 (b + 4)) :: rest))) : W p l e R s m args below meth c H locs cells slots Q (F0 m pc ls (.ref (E.2.1 b) :: rest)) := by
  obtain ⟨q0, -, he⟩ := wd_at hm (e11 (E := E) (st := st) hb)
  exact va_get (D := E.1) (C := RX12) (T := TX12) (N := 9) C.1 C.2.1 C.2.2.2.2.1 in11 C.2.2.2.1 C.2.2.2.2.2.1 hP q0 he rfl 7 (by decide) (C.T q) (fun _ h9 => h9) f11_7 hdg kk
theorem gf11_8 (C : Cx E L own cc nL p s m args c) (hP : va_P E.1 vwCl (wd E L st) H) {b index : Nat} (hb : kd b = 11) (hm : b ∈ L) (q : .fieldLink own index "PlankBridgeModel" "far" "[I" ∈ lw_tbl) (hdg : decode cc pc = .ok (.getfield index, 3)) (kk : W p l e R s m args below meth c H locs cells slots Q (F0 m (pc + 3) ls (.ref (E.2.1 (b + 5)) :: rest))) : W p l e R s m args below meth c H locs cells slots Q (F0 m pc ls (.ref (E.2.1 b) :: rest)) := by
  obtain ⟨q0, -, he⟩ := wd_at hm (e11 (E := E) (st := st) hb)
  exact va_get (D := E.1) (C := RX12) (T := TX12) (N := 9) C.1 C.2.1 C.2.2.2.2.1 in11 C.2.2.2.1 C.2.2.2.2.2.1 hP q0 he rfl 8 (by decide) (C.T q) (fun _ h9 => h9) f11_8 hdg kk
end ZF

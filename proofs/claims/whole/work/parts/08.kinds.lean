/-! the constants of Kind: read, compared, asked their place; static tables; copies of whole rows -/
def kin (v : Option Nat) : Prop := ∀ k, v = some k → k < 37
theorem kin_l {k : Nat} (h : k < 37) : kin (some k) := fun j e => by cases e; exact h
theorem i32_eq {x y : Int32} (h : x.toInt = y.toInt) : x = y := Int32.toInt_inj.mp h
section ZK
variable {p : Program} {l : Launch} {e : Env} {R : Room} {s : State} {m : MethodId} {args : Array Value} {below : List Frame} {meth : Method} {c : Code} {H : Heap} {locs : List Loc} {cells slots : Nat} {Q : State → Prop}
variable {E : En0} {L : List Nat} {own host : String} {cc : ByteArray} {nL index : Nat} {st : St} {pc : Nat} {ls : Array Slot} {rest : List Value}
theorem Cx.K (C : Cx E L own cc nL p s m args c) : CO E (fA E L s.heap.size) s s.heap := C.2.2.2.2.2.2.2.1
theorem z_cat (f : Nat → Nat) (v : Option Nat) : (va_re f v).category = 1 := by cases v <;> rfl
theorem z_aloadE_n (hexec : p.tables.exec = Jvm.exec) (hb : c.code = cc) {v : Option Nat} {k : Fin 4} {i : Nat} (hdg : decode cc pc = .ok (.aload_n k, 1)) (hi : (k : Nat) = i) (hl : ls[i]? = some (.val (va_re E.2.2.1 v)))
    (kk : W p l e R s m args below meth c H locs cells slots Q (F0 m (pc + 1) ls (va_re E.2.2.1 v :: rest))) : W p l e R s m args below meth c H locs cells slots Q (F0 m pc ls rest) := by
  cases v with
  | none => exact lv_aload_nN hexec hb hdg hi hl kk
  | some x => exact lv_aload_n hexec hb hdg hi hl kk
theorem z_aloadE (hexec : p.tables.exec = Jvm.exec) (hb : c.code = cc) {v : Option Nat} {i : Nat} (hdg : decode cc pc = .ok (.aload i, 2)) (hl : ls[i]? = some (.val (va_re E.2.2.1 v)))
    (kk : W p l e R s m args below meth c H locs cells slots Q (F0 m (pc + 2) ls (va_re E.2.2.1 v :: rest))) : W p l e R s m args below meth c H locs cells slots Q (F0 m pc ls rest) := by
  cases v with
  | none => exact lv_aloadN hexec hb hdg hl kk
  | some x => exact lv_aload hexec hb hdg hl kk
theorem z_astoreE_n (hexec : p.tables.exec = Jvm.exec) (hb : c.code = cc) {v : Option Nat} {k : Fin 4} {i nL : Nat} {lv lv' : List (Nat × Value)} (hdg : decode cc pc = .ok (.astore_n k, 1)) (hi : (k : Nat) = i) (h : lv_has ls nL lv) (hn : i < nL) (hl : (i, va_re E.2.2.1 v) :: lv.filter (fun q => !(q.1 == i) && !(q.1 + 1 == i && q.2.category == 2)) = lv')
    (kk : ∀ ls' : Array Slot, lv_has ls' nL lv' → W p l e R s m args below meth c H locs cells slots Q (F0 m (pc + 1) ls' rest)) : W p l e R s m args below meth c H locs cells slots Q (F0 m pc ls (va_re E.2.2.1 v :: rest)) := by
  cases v with
  | none => exact lv_astore_nN hexec hb hdg hi h hn hl kk
  | some x => exact lv_astore_n hexec hb hdg hi h hn hl kk
theorem z_astoreE (hexec : p.tables.exec = Jvm.exec) (hb : c.code = cc) {v : Option Nat} {i nL : Nat} {lv lv' : List (Nat × Value)} (hdg : decode cc pc = .ok (.astore i, 2)) (h : lv_has ls nL lv) (hn : i < nL) (hl : (i, va_re E.2.2.1 v) :: lv.filter (fun q => !(q.1 == i) && !(q.1 + 1 == i && q.2.category == 2)) = lv')
    (kk : ∀ ls' : Array Slot, lv_has ls' nL lv' → W p l e R s m args below meth c H locs cells slots Q (F0 m (pc + 2) ls' rest)) : W p l e R s m args below meth c H locs cells slots Q (F0 m pc ls (va_re E.2.2.1 v :: rest)) := by
  cases v with
  | none => exact lv_astoreN hexec hb hdg h hn hl kk
  | some x => exact lv_astore hexec hb hdg h hn hl kk
theorem kin_eq (C : Cx E L own cc nL p s m args c) {a b : Option Nat} (ha : kin a) (hb : kin b) : a.map E.2.2.1 = b.map E.2.2.1 ↔ a = b := by
  constructor
  · intro h
    cases a with
    | none => cases b with
      | none => rfl
      | some y => cases h
    | some x => cases b with
      | none => cases h
      | some y => rw [C.K.1.2 x y (ha x rfl) (hb y rfl) (Option.some.inj h)]
  · intro h; rw [h]
theorem z_acmp_eq (C : Cx E L own cc nL p s m args c) {a b : Option Nat} (ha : kin a) (hb : kin b) {off : Int} {tgt : Nat} (hdg : decode cc pc = .ok (.if_acmp .eq off, 3)) (ht : (pc : Int) + off = (tgt : Int))
    (kt : a = b → W p l e R s m args below meth c H locs cells slots Q (F0 m tgt ls rest)) (kf : ¬ a = b → W p l e R s m args below meth c H locs cells slots Q (F0 m (pc + 3) ls rest)) : W p l e R s m args below meth c H locs cells slots Q (F0 m pc ls (va_re E.2.2.1 b :: va_re E.2.2.1 a :: rest)) :=
  lv_acmp_eq (rx := a.map E.2.2.1) (ry := b.map E.2.2.1) C.1 C.2.1 hdg ht (fun h => kt ((kin_eq C ha hb).mp h)) (fun h => kf (fun q => h ((kin_eq C ha hb).mpr q)))
theorem z_acmp_ne (C : Cx E L own cc nL p s m args c) {a b : Option Nat} (ha : kin a) (hb : kin b) {off : Int} {tgt : Nat} (hdg : decode cc pc = .ok (.if_acmp .ne off, 3)) (ht : (pc : Int) + off = (tgt : Int))
    (kt : ¬ a = b → W p l e R s m args below meth c H locs cells slots Q (F0 m tgt ls rest)) (kf : a = b → W p l e R s m args below meth c H locs cells slots Q (F0 m (pc + 3) ls rest)) : W p l e R s m args below meth c H locs cells slots Q (F0 m pc ls (va_re E.2.2.1 b :: va_re E.2.2.1 a :: rest)) :=
  lv_acmp_ne (rx := a.map E.2.2.1) (ry := b.map E.2.2.1) C.1 C.2.1 hdg ht (fun h => kt (fun q => h ((kin_eq C ha hb).mpr q))) (fun h => kf ((kin_eq C ha hb).mp h))
theorem z_nonnull {v : Option Nat} (hexec : p.tables.exec = Jvm.exec) (hb : c.code = cc) {off : Int} {tgt : Nat} (hdg : decode cc pc = .ok (.ifnonnull off, 3)) (ht : (pc : Int) + off = (tgt : Int))
    (kt : ¬ v = none → W p l e R s m args below meth c H locs cells slots Q (F0 m tgt ls rest)) (kf : v = none → W p l e R s m args below meth c H locs cells slots Q (F0 m (pc + 3) ls rest)) : W p l e R s m args below meth c H locs cells slots Q (F0 m pc ls (va_re E.2.2.1 v :: rest)) := by
  cases v with
  | none => exact lv_ifnonnullN hexec hb hdg (kf rfl)
  | some x => exact lv_ifnonnull hexec hb hdg ht (kt (fun h => by cases h))
theorem z_kst (C : Cx E L own cc nL p s m args c) (hS : va_S (fA E L s.heap.size) s.heap H locs) {i : Nat} {nm : String} (hi : i < 37) (hn : kNm.getD i "" = nm) (q : .fieldLink own index "PlankBridge$Kind" nm "LPlankBridge$Kind;" ∈ lw_tbl) (hdg : decode cc pc = .ok (.getstatic index, 3))
    (kk : W p l e R s m args below meth c H locs cells slots Q (F0 m (pc + 3) ls (va_re E.2.2.1 (some i) :: rest))) : W p l e R s m args below meth c H locs cells slots Q (F0 m pc ls rest) := by
  subst hn
  exact va_gets C.1 C.2.1 (C.K.1.1 i hi).1 hS C.2.2.2.1 (C.T q) (fun _ h => h) hdg kk
theorem z_kald (C : Cx E L own cc nL p s m args c) (hP : va_P E.1 vwCl (wd E L st) H) {b n : Nat} (hb : kd b = 24) (hn : ln b = n) (hm : b ∈ L) {i : Int32} (hin : vp_in i n) (hdg : decode cc pc = .ok (.aaload, 1)) (kk : W p l e R s m args below meth c H locs cells slots Q (F0 m (pc + 1) ls (va_re E.2.2.1 (gK st b i.toNatClampNeg) :: rest))) : W p l e R s m args below meth c H locs cells slots Q (F0 m pc ls (.int i :: .ref (E.2.1 b) :: rest)) := by
  subst hn
  obtain ⟨q, hq, he⟩ := wd_at hm (e24 (E := E) (st := st) hb)
  exact va_aldq C.1 C.2.1 C.2.2.2.2.2.1 hP q 4 he rfl hin hdg kk
theorem z_any (C : Cx E L own cc nL p s m args c) (hS : va_S (fA E L s.heap.size) s.heap H locs) {k : Nat} (hk : k < 37) : va_Any "PlankBridge$Kind" s H (E.2.2.1 k) := by
  obtain ⟨cell, h1, h2, h3⟩ := va_recvE C.K.1 (i := k) hk hS
  obtain ⟨kC, hkC, -⟩ := Vm.findClass_spec h3
  refine ⟨cell, h1, h2, ⟨kC, hkC⟩, fun comp hc => ?_⟩
  have he : comp = cell.cls := Option.some.inj (hc.symm.trans h3)
  subst he
  unfold Vm.assignable
  rw [show (256 : Nat) = 255 + 1 from rfl, Vm.assignableAux, beq_self_eq_true, Bool.true_or]
theorem z_kast (C : Cx E L own cc nL p s m args c) (hP : va_P E.1 vwCl (wd E L st) H) (hS : va_S (fA E L s.heap.size) s.heap H locs) {b n : Nat} (hb : kd b = 24) (hn : ln b = n) (hm : b ∈ L) {i : Int32} {x : Option Nat} (hin : vp_in i n) (hx : kin x) (hdg : decode cc pc = .ok (.aastore, 1))
    (kk : ∀ (H1 : Heap) (locs1 : List Loc), va_P E.1 vwCl (wd E L (uK st b i.toNatClampNeg x)) H1 → va_S (fA E L s.heap.size) s.heap H1 locs1 → W p l e R s m args below meth c H1 locs1 cells slots Q (F0 m (pc + 1) ls rest)) : W p l e R s m args below meth c H locs cells slots Q (F0 m pc ls (va_re E.2.2.1 x :: .int i :: .ref (E.2.1 b) :: rest)) := by
  subst hn
  obtain ⟨q, hq, he⟩ := wd_at hm (e24 (E := E) (st := st) hb)
  have hu : ∀ y : Option Nat, (fun n => (va_up (st.2.2.1 b) i.toNatClampNeg y n).map E.2.2.1) = va_up (fun n => (st.2.2.1 b n).map E.2.2.1) i.toNatClampNeg (y.map E.2.2.1) := fun y => by
    funext n
    by_cases h : n = i.toNatClampNeg
    · subst h; simp only [up_s]
    · simp only [up_n h]
  cases x with
  | none =>
    refine va_astqN C.1 C.2.1 C.2.2.2.2.2.1 hP C.D hS q 4 he rfl hin hdg (fun H1 locs1 hP1 hD1 hS1 => kk H1 locs1 ?_ hS1)
    rw [wd_set (st' := uK st b i.toNatClampNeg none) C.N hq ?_ sK_o] at hP1
    · exact hP1
    · rw [e24 hb]
      simp only [uK, sK, sw_s, hu]
      rfl
  | some k =>
    refine va_astqM C.1 C.2.1 C.2.2.2.2.2.1 hP C.D hS q 4 he rfl (z_any C hS (hx k rfl)) hin hdg (fun H1 locs1 hP1 hD1 hS1 => kk H1 locs1 ?_ hS1)
    rw [wd_set (st' := uK st b i.toNatClampNeg (some k)) C.N hq ?_ sK_o] at hP1
    · exact hP1
    · rw [e24 hb]
      simp only [uK, sK, sw_s, hu]
      rfl
/-- the row of all constants: its length, a place of it, a constant's code -/
theorem z_all (C : Cx E L own cc nL p s m args c) (hS : va_S (fA E L s.heap.size) s.heap H locs) (q : .fieldLink own index "PlankBridge$Kind" "ALL" "[LPlankBridge$Kind;" ∈ lw_tbl) (hdg : decode cc pc = .ok (.getstatic index, 3))
    (kk : ∀ t : Nat, va_T (.object "PlankBridge$Kind") t 37 (fun j => .ref (E.2.2.1 j)) (fA E L s.heap.size) s s.heap → W p l e R s m args below meth c H locs cells slots Q (F0 m (pc + 3) ls (.ref t :: rest))) : W p l e R s m args below meth c H locs cells slots Q (F0 m pc ls rest) := by
  obtain ⟨t, h1, h2⟩ := C.K.2.2.1
  exact va_gets C.1 C.2.1 h1 hS C.2.2.2.1 (C.T q) (fun _ h => h) hdg (kk t h2)
theorem z_allat (C : Cx E L own cc nL p s m args c) (hS : va_S (fA E L s.heap.size) s.heap H locs) {t : Nat} (hT : va_T (.object "PlankBridge$Kind") t 37 (fun j => .ref (E.2.2.1 j)) (fA E L s.heap.size) s s.heap) {i : Int32} (hin : vp_in i 37) (hdg : decode cc pc = .ok (.aaload, 1))
    (kk : W p l e R s m args below meth c H locs cells slots Q (F0 m (pc + 1) ls (va_re E.2.2.1 (some i.toNatClampNeg) :: rest))) : W p l e R s m args below meth c H locs cells slots Q (F0 m pc ls (.int i :: .ref t :: rest)) := by
  obtain ⟨cell, h1, h2, h3, h4, h5, h6, h7⟩ := hT
  have hlt : i.toNatClampNeg < 37 := Nat.not_le.mp fun q => hin (Or.inr q)
  have hin' : ¬ (i < 0 ∨ cell.slots.size ≤ i.toNatClampNeg) := by
    intro q
    rcases q with q | q
    · exact hin (Or.inl q)
    · omega
  exact W.aald (v := .ref (E.2.2.1 i.toNatClampNeg)) (ty := .object "PlankBridge$Kind") C.1 C.2.1 (by rw [hS.2.1 t (Array.getElem?_eq_some_iff.mp h1).1 h7]; exact h1) h2 rfl h3 hin' (h6 _ hlt) rfl rfl hdg kk
theorem z_kcode (C : Cx E L own cc nL p s m args c) (hS : va_S (fA E L s.heap.size) s.heap H locs) {i : Nat} (hi : i < 37) (q : .fieldLink own index "PlankBridge$Kind" "code" "J" ∈ lw_tbl) (hdg : decode cc pc = .ok (.getfield index, 3))
    (kk : W p l e R s m args below meth c H locs cells slots Q (F0 m (pc + 3) ls (.long (kCode i) :: rest))) : W p l e R s m args below meth c H locs cells slots Q (F0 m pc ls (va_re E.2.2.1 (some i) :: rest)) :=
  va_getX C.1 C.2.1 C.K.2.1 hi hS C.2.2.2.1 (C.T q) (fun _ h => h) hdg kk
/-- the switch's table -/
theorem z_sw (C : Cx E L own cc nL p s m args c) (hS : va_S (fA E L s.heap.size) s.heap H locs) (q : .fieldLink own index "PlankBridge$1" "$SwitchMap$PlankBridge$Kind" "[I" ∈ lw_tbl) (hdg : decode cc pc = .ok (.getstatic index, 3))
    (kk : ∀ t : Nat, va_T .int t 37 (fun j => .int (kSw j)) (fA E L s.heap.size) s s.heap → W p l e R s m args below meth c H locs cells slots Q (F0 m (pc + 3) ls (.ref t :: rest))) : W p l e R s m args below meth c H locs cells slots Q (F0 m pc ls rest) := by
  obtain ⟨t, h1, h2⟩ := C.K.2.2.2.1
  exact va_gets C.1 C.2.1 h1 hS C.2.2.2.1 (C.T q) (fun _ h => h) hdg (kk t h2)
def rmOrd : Room := { frames := 0, cells := 0, slots := 0, locals := 0 }
set_option maxRecDepth 100000 in
theorem t_ord {E : En0} {L : List Nat} {l : Launch} (hE : EK E L) {k : Nat} (hk : k < 37) {st : St} : Mz l yJx29ce0_ordinal_8abf5 cJx29ce0_ordinal_8abf5 1 (some .int) rmOrd E L [.ref (E.2.2.1 k)] st (zI E L (fun r u => r = Int32.ofNat k ∧ u = st)) := by
  refine Mz.of hE (by decide) (Nat.le_of_ble_eq_true rfl) ?_
  intro p e s m below meth c ls C hr hlk _ hl hP
  have hS : va_S (fA E L s.heap.size) s.heap s.heap [] := va_S.rf
  replace hl : lv_has ls 1 [(0, .ref (E.2.2.1 k))] := hl
  refine lv_aload_n C.1 C.2.1 dJx29ce0_ordinal_8abf5_0 rfl (lv_at hl 0 rfl) ?_
  refine va_getE C.1 C.2.1 C.K.1 (i := k) hk hS C.2.2.2.1 (q := ("java/lang/Enum", "ordinal", "I", (List.range 37).map Int32.ofNat)) (List.mem_singleton.mpr rfl) (C.T q1973) (fun _ h => h) dJx29ce0_ordinal_8abf5_1 ?_
  refine z_ri C hr hlk rfl hP hS ⟨?_, rfl⟩ dJx29ce0_ordinal_8abf5_4
  show ((List.range 37).map Int32.ofNat).getD k 0 = _
  rw [List.getD_eq_getElem?_getD, List.getElem?_map, List.getElem?_range hk]
  rfl
theorem z_ord (C : Cx E L own cc nL p s m args c) (hP : va_P E.1 vwCl (wd E L st) H) (hS : va_S (fA E L s.heap.size) s.heap H locs) {k : Nat} (hk : k < 37) (q : .methodLink own index ⟨"PlankBridge$Kind", "ordinal", "()I"⟩ ∈ lw_tbl) (hR : 1 ≤ R.frames ∧ 20 ≤ R.locals) (hf : cells ≤ R.cells ∧ slots ≤ R.slots) (hsz : ls.size = nL) (hW : 2 * (F0 m pc ls (.ref (E.2.2.1 k) :: rest)).monitorRoom + (rest.map fun v => v.category).sum ≤ 8) (hdg : decode cc pc = .ok (.invokevirtual index, 3))
    (kk : ∀ (H1 : Heap) (locs1 : List Loc), va_P E.1 vwCl (wd E L st) H1 → va_S (fA E L s.heap.size) s.heap H1 locs1 → W p l e R s m args below meth c H1 locs1 cells slots Q (F0 m (pc + 3) ls (.int (Int32.ofNat k) :: rest))) : W p l e R s m args below meth c H locs cells slots Q (F0 m pc ls (va_re E.2.2.1 (some k) :: rest)) := by
  have hG : GoodIn lw_g (va_wsU own index "PlankBridge$Kind" "java/lang/Enum" ⟨"PlankBridge$Kind", "ordinal", "()I"⟩ yJx29ce0_ordinal_8abf5 (Cond.code yJx29ce0_ordinal_8abf5 cJx29ce0_ordinal_8abf5 1 (some .int) :: lw_g)) := g_in (by
    intro w hw
    rcases List.mem_append.mp hw with hw | hw
    · rcases List.mem_cons.mp hw with rfl | hw
      · exact lw_gm q rfl
      rcases List.mem_cons.mp hw with rfl | hw
      · exact lw_gm q592 rfl
      rcases List.mem_cons.mp hw with rfl | hw
      · exact lw_gm q594 rfl
      rcases List.mem_cons.mp hw with rfl | hw
      · exact lw_gm q595 rfl
      rcases List.mem_cons.mp hw with rfl | hw
      · exact lw_gm q110 rfl
      exact absurd hw List.not_mem_nil
    · rcases List.mem_cons.mp hw with rfl | hw
      · exact lw_gm q596 rfl
      exact hw)
  have hcu := va_cwU (R := R) (rm := rmOrd) (mc := 0) (ms := 0) 0 C.F.2.2.2.2 hG rfl rfl rfl rfl (by decide +kernel) ⟨hR.1, hR.2⟩
  exact z_ki hS (va_runU (rest := rest) C.F (t_ord C.2.2.2.2.2.2.1 hk H.size) hcu ⟨z_blind, va_recvE C.K.1 (i := k) hk hS, z_pre C hP hS [.ref (E.2.2.1 k)]⟩ rfl rfl hsz rfl hW hdg hf) (fun r u H1 locs1 hp hP1 hS1 => by obtain ⟨rfl, rfl⟩ := hp; exact kk H1 locs1 hP1 hS1)
/-- a method of a constant of Kind -/
theorem z_runK {bytes : ByteArray} {maxL n : Nat} {st0 As : List Value} {y : MethodName} {ret : Option FieldType} {rm : Room} {Qf : (Nat → Prop) → Array Value → State → Outcome → State → Prop} (C : Cx E L own cc nL p s m args c) (hP : va_P E.1 vwCl (wd E L st) H) (hS : va_S (fA E L s.heap.size) s.heap H locs) {k : Nat} (hk : k < 37)
    (hM : Mz l y bytes maxL ret rm E L (.ref (E.2.2.1 k) :: As) st Qf) (h1 : Cond.methodLink own index y ∈ lw_tbl) (h2 : Cond.instanceMethod y ∈ lw_tbl) (h3 : Cond.selects "PlankBridge$Kind" y y ∈ lw_tbl) (h4 : Cond.initialized "PlankBridge$Kind" ∈ lw_tbl) (h5 : Cond.code y bytes maxL ret ∈ lw_tbl)
    (hd : y.cls = "PlankBridge$Kind" ∧ y.cls ≠ "java/lang/invoke/MethodHandle" ∧ y.cls ≠ "java/lang/invoke/VarHandle" ∧ (parseMethodDescriptor y.desc).map (fun d => d.parameters.length) = some n) (hR : rm.frames + 1 ≤ R.frames ∧ 8 + (maxL + 11) + rm.locals ≤ R.locals) (hf : cells + rm.cells ≤ R.cells ∧ slots + rm.slots ≤ R.slots)
    (hn : As.length = n) (hsz : ls.size = nL) (hst : st0 = As.reverse ++ va_re E.2.2.1 (some k) :: rest) (hW : 2 * (F0 m pc ls st0).monitorRoom + (rest.map fun v => v.category).sum ≤ 8) (hdg : decode cc pc = .ok (.invokevirtual index, 3)) :
    va_Run p l e R s m args below meth c H locs cells slots rm.cells rm.slots (F0 m pc ls st0) rest (Qf (fA E L H.size) (.ref (E.2.2.1 k) :: As).toArray) (fA E L H.size) :=
  va_runV C.F (hM H.size) (cwV n C.F.2.2.2.2 (gV h1 h2 h3 h4 h5) rfl rfl rfl hd hR) ⟨z_blind, va_recvE C.K.1 (i := k) hk hS, z_pre C hP hS _⟩ rfl hn hsz hst hW hdg hf
/-- System.arraycopy of whole rows of ints -/
theorem z_copyi (C : Cx E L own cc nL p s m args c) (hP : va_P E.1 vwCl (wd E L st) H) (hS : va_S (fA E L s.heap.size) s.heap H locs) {lv : List (Nat × Value)} (hl : lv_has ls nL lv) {b0 n0 b1 n1 : Nat} (hb0 : kd b0 = 20) (hn0 : ln b0 = n0) (hm0 : b0 ∈ L) (hb1 : kd b1 = 20) (hn1 : ln b1 = n1) (hm1 : b1 ∈ L)
    (q1 : .methodLink own index arraycopyName ∈ lw_tbl) (q2 : .native arraycopyName ∈ lw_tbl) (q3 : .static arraycopyName ∈ lw_tbl) (q4 : .initialized "java/lang/System" ∈ lw_tbl) {sp dp n : Int32} (h1 : ¬ sp < 0) (h2 : ¬ dp < 0) (h3 : ¬ n < 0) (h4 : sp.toNatClampNeg + n.toNatClampNeg ≤ n0) (h5 : dp.toNatClampNeg + n.toNatClampNeg ≤ n1)
    (hframes : 1 ≤ R.frames) (hlocals : (rest.map fun v => v.category).sum + (nativeFrameWords "java/lang/System" "arraycopy" 5 + 11) ≤ R.locals) (hdg : decode cc pc = .ok (.invokestatic index, 3))
    (kk : ∀ (H1 : Heap) (locs1 : List Loc), va_P E.1 vwCl (wd E L (sI st b1 (va_cpy (st.1 b0) (st.1 b1) sp.toNatClampNeg dp.toNatClampNeg n.toNatClampNeg))) H1 → va_S (fA E L s.heap.size) s.heap H1 locs1 → W p l e R s m args below meth c H1 locs1 cells slots Q (F0 m (pc + 3) ls rest)) : W p l e R s m args below meth c H locs cells slots Q (F0 m pc ls (.int n :: .int dp :: .ref (E.2.1 b1) :: .int sp :: .ref (E.2.1 b0) :: rest)) := by
  subst hn0; subst hn1
  obtain ⟨p0, hp0, he0⟩ := wd_at hm0 (e20 (E := E) (st := st) hb0)
  obtain ⟨p1, hp1, he1⟩ := wd_at hm1 (e20 (E := E) (st := st) hb1)
  refine va_copyi C.1 C.2.1 (C.2.2.1.trans hl.1.symm) C.2.2.2.1 (C.T q1) (C.T q2) (C.T q3) (C.T q4) C.2.2.2.2.2.1 hP C.D hS p0 p1 0 0 he0 he1 rfl rfl rfl h1 h2 h3 h4 h5 (fun i _ => rfl) hframes hlocals hdg (fun H1 locs1 hP1 hD1 hS1 => kk H1 locs1 ?_ hS1)
  rw [wd_set (st' := sI st b1 (va_cpy (st.1 b0) (st.1 b1) sp.toNatClampNeg dp.toNatClampNeg n.toNatClampNeg)) C.N hp1 ?_ sI_o] at hP1
  · exact hP1
  · rw [e20 hb1]
    simp only [sI, sw_s]
theorem z_copyz (C : Cx E L own cc nL p s m args c) (hP : va_P E.1 vwCl (wd E L st) H) (hS : va_S (fA E L s.heap.size) s.heap H locs) {lv : List (Nat × Value)} (hl : lv_has ls nL lv) {b0 n0 b1 n1 : Nat} (hb0 : kd b0 = 21) (hn0 : ln b0 = n0) (hm0 : b0 ∈ L) (hb1 : kd b1 = 21) (hn1 : ln b1 = n1) (hm1 : b1 ∈ L)
    {sp dp n : Int32} (hz : ∀ i, i < n.toNatClampNeg → bz (gI st b0 (sp.toNatClampNeg + i))) (q1 : .methodLink own index arraycopyName ∈ lw_tbl) (q2 : .native arraycopyName ∈ lw_tbl) (q3 : .static arraycopyName ∈ lw_tbl) (q4 : .initialized "java/lang/System" ∈ lw_tbl) (h1 : ¬ sp < 0) (h2 : ¬ dp < 0) (h3 : ¬ n < 0) (h4 : sp.toNatClampNeg + n.toNatClampNeg ≤ n0) (h5 : dp.toNatClampNeg + n.toNatClampNeg ≤ n1)
    (hframes : 1 ≤ R.frames) (hlocals : (rest.map fun v => v.category).sum + (nativeFrameWords "java/lang/System" "arraycopy" 5 + 11) ≤ R.locals) (hdg : decode cc pc = .ok (.invokestatic index, 3))
    (kk : ∀ (H1 : Heap) (locs1 : List Loc), va_P E.1 vwCl (wd E L (sI st b1 (va_cpy (st.1 b0) (st.1 b1) sp.toNatClampNeg dp.toNatClampNeg n.toNatClampNeg))) H1 → va_S (fA E L s.heap.size) s.heap H1 locs1 → W p l e R s m args below meth c H1 locs1 cells slots Q (F0 m (pc + 3) ls rest)) : W p l e R s m args below meth c H locs cells slots Q (F0 m pc ls (.int n :: .int dp :: .ref (E.2.1 b1) :: .int sp :: .ref (E.2.1 b0) :: rest)) := by
  subst hn0; subst hn1
  obtain ⟨p0, hp0, he0⟩ := wd_at hm0 (e21 (E := E) (st := st) hb0)
  obtain ⟨p1, hp1, he1⟩ := wd_at hm1 (e21 (E := E) (st := st) hb1)
  refine va_copyi C.1 C.2.1 (C.2.2.1.trans hl.1.symm) C.2.2.2.1 (C.T q1) (C.T q2) (C.T q3) (C.T q4) C.2.2.2.2.2.1 hP C.D hS p0 p1 1 1 he0 he1 rfl rfl rfl h1 h2 h3 h4 h5 (fun i hi => bz_f (hz i hi)) hframes hlocals hdg (fun H1 locs1 hP1 hD1 hS1 => kk H1 locs1 ?_ hS1)
  rw [wd_set (st' := sI st b1 (va_cpy (st.1 b0) (st.1 b1) sp.toNatClampNeg dp.toNatClampNeg n.toNatClampNeg)) C.N hp1 ?_ sI_o] at hP1
  · exact hP1
  · rw [e21 hb1]
    simp only [sI, sw_s]
end ZK

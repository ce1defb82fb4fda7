/-! String.length and charAt of the words' texts, by contract over the one world -/
def sCh (k j : Nat) : Int32 := (((sByt.getD k []).getD j 0 &&& 255).toUInt32 % 65536).toInt32
theorem sCh_char (x : Int32) : narrow .char (.int (x.toUInt32 % 65536).toInt32) = .int (x.toUInt32 % 65536).toInt32 := pk_nc x
theorem sLen_lt : ∀ k, sLen.getD k 0 < 2 ^ 31 := by
  intro k
  by_cases h : k < 26
  · exact (show ∀ k, k < 26 → sLen.getD k 0 < 2 ^ 31 by decide +kernel) k h
  · rw [List.getD_eq_getElem?_getD, List.getElem?_eq_none (by show 26 ≤ k; omega)]; decide
section ZS
variable {p : Program} {l : Launch} {e : Env} {R : Room} {s : State} {m : MethodId} {args : Array Value} {below : List Frame} {meth : Method} {c : Code} {H : Heap} {locs : List Loc} {cells slots : Nat} {Q : State → Prop}
variable {E : En0} {L : List Nat} {own : String} {cc : ByteArray} {nL index : Nat} {st : St} {pc : Nat} {ls : Array Slot} {rest : List Value}
theorem z_zq (C : Cx E L own cc nL p s m args c) (hS : va_S (fA E L s.heap.size) s.heap H locs) (q : .fieldLink own index "jdk/internal/util/Preconditions" "SIOOBE_FORMATTER" "Ljava/util/function/BiFunction;" ∈ lw_tbl) (hdg : decode cc pc = .ok (.getstatic index, 3))
    (kk : ∀ r : Option Nat, W p l e R s m args below meth c H locs cells slots Q (F0 m (pc + 3) ls (va_rf r :: rest))) : W p l e R s m args below meth c H locs cells slots Q (F0 m pc ls rest) := by
  rcases C.K.2.2.2.2.2.2.2.1 with h | ⟨t, h⟩
  · exact va_gets C.1 C.2.1 h hS C.2.2.2.1 (C.T q) (fun _ h => h) hdg (kk none)
  · exact va_gets C.1 C.2.1 h hS C.2.2.2.1 (C.T q) (fun _ h => h) hdg (kk (some t))
end ZS
section ZT
variable {l : Launch} {E : En0} {L : List Nat} {st : St}
def rm_pci : Room := { frames := 0, cells := 0, slots := 0, locals := 0 }
set_option maxRecDepth 100000 in
theorem t_pci (hE : EK E L) {i n : Int32} (h0 : ¬ i < 0) (h1 : i < n) {r : Option Nat} : Mz l yJ3_checkIndex_8e157 cJ3_checkIndex_8e157 3 (some .int) rm_pci E L [.int i, .int n, va_rf r] st (zI E L (fun _ u => u = st)) := by
  refine Mz.of hE (by decide) (by cases r <;> exact Nat.le_of_ble_eq_true rfl) ?_
  intro p e s m below meth c ls C hr hlk _ hl hP
  have hS : va_S (fA E L s.heap.size) s.heap s.heap [] := va_S.rf
  replace hl : lv_has ls 3 [(0, .int i), (1, .int n)] := by
    cases r <;> exact lv_sub hl [0, 1] rfl
  refine lv_iload_n C.1 C.2.1 dJ3_checkIndex_8e157_0 rfl (lv_at hl 0 rfl) ?_
  refine lv_if_lt C.1 C.2.1 (tgt := 9) dJ3_checkIndex_8e157_1 (by decide) (fun hc => absurd hc h0) (fun hc => ?_)
  refine lv_iload_n C.1 C.2.1 dJ3_checkIndex_8e157_4 rfl (lv_at hl 0 rfl) ?_
  refine lv_iload_n C.1 C.2.1 dJ3_checkIndex_8e157_5 rfl (lv_at hl 1 rfl) ?_
  refine lv_icmp_lt C.1 C.2.1 (tgt := 16) dJ3_checkIndex_8e157_6 (by decide) (fun hc => ?_) (fun hc => absurd h1 hc)
  refine lv_iload_n C.1 C.2.1 dJ3_checkIndex_8e157_16 rfl (lv_at hl 0 rfl) ?_
  exact z_ri C hr hlk rfl hP hS rfl dJ3_checkIndex_8e157_17
def rm_sci : Room := { frames := 1, cells := 0, slots := 0, locals := 22 }
theorem hd_pci : yJ3_checkIndex_8e157.cls ≠ "java/lang/invoke/MethodHandle" ∧ yJ3_checkIndex_8e157.cls ≠ "java/lang/invoke/VarHandle" ∧ (parseMethodDescriptor yJ3_checkIndex_8e157.desc).map (fun d => d.parameters.length) = some 3 := by decide +kernel
theorem hd_sci : yJ0_checkIndex_df160.cls ≠ "java/lang/invoke/MethodHandle" ∧ yJ0_checkIndex_df160.cls ≠ "java/lang/invoke/VarHandle" ∧ (parseMethodDescriptor yJ0_checkIndex_df160.desc).map (fun d => d.parameters.length) = some 2 := by decide +kernel
theorem hd_l1c : yJ1_charAt_3b067.cls ≠ "java/lang/invoke/MethodHandle" ∧ yJ1_charAt_3b067.cls ≠ "java/lang/invoke/VarHandle" ∧ (parseMethodDescriptor yJ1_charAt_3b067.desc).map (fun d => d.parameters.length) = some 2 := by decide +kernel
set_option maxRecDepth 100000 in
theorem t_sci (hE : EK E L) {i n : Int32} (h0 : ¬ i < 0) (h1 : i < n) : Mz l yJ0_checkIndex_df160 cJ0_checkIndex_df160 2 none rm_sci E L [.int i, .int n] st (zV E L (fun u => u = st)) := by
  refine Mz.of hE (by decide) (Nat.le_of_ble_eq_true rfl) ?_
  intro p e s m below meth c ls C hr hlk _ hl hP
  replace C : Cx E L "java/lang/String" cJ0_checkIndex_df160 2 p s m _ c := C
  have hS : va_S (fA E L s.heap.size) s.heap s.heap [] := va_S.rf
  replace hl : lv_has ls 2 [(0, .int i), (1, .int n)] := hl
  refine lv_iload_n C.1 C.2.1 dJ0_checkIndex_df160_0 rfl (lv_at hl 0 rfl) ?_
  refine lv_iload_n C.1 C.2.1 dJ0_checkIndex_df160_1 rfl (lv_at hl 1 rfl) ?_
  refine z_zq C hS q1540 dJ0_checkIndex_df160_2 (fun r => ?_)
  refine z_ki hS (z_runS (As := [.int i, .int n, va_rf r]) (rest := []) C hP hS (t_pci C.2.2.2.2.2.2.1 h0 h1) q1542 q1543 q127 q1544 hd_pci ⟨Nat.le_of_ble_eq_true rfl, Nat.le_of_ble_eq_true rfl⟩ ⟨Nat.zero_le _, Nat.zero_le _⟩ rfl hl.1 rfl (lv_room (Nat.le_of_ble_eq_true rfl)) dJ0_checkIndex_df160_5) (fun r1 u H locs h hP hS => ?_)
  rw [h] at hP
  refine lv_pop C.1 C.2.1 dJ0_checkIndex_df160_8 rfl ?_
  exact z_rv C hr hlk hP hS rfl dJ0_checkIndex_df160_9
def rm_l1c : Room := { frames := 2, cells := 0, slots := 0, locals := 43 }
set_option maxRecDepth 100000 in
theorem t_l1c (hE : EK E L) {k : Nat} (hk : k < 26) {i : Int32} (hin : vp_in i (sLen.getD k 0)) : Mz l yJ1_charAt_3b067 cJ1_charAt_3b067 2 (some .char) rm_l1c E L [.ref (E.2.2.1 (200 + k)), .int i] st (zI E L (fun r u => r = sCh k i.toNatClampNeg ∧ u = st)) := by
  refine Mz.of hE (by decide) (Nat.le_of_ble_eq_true rfl) ?_
  intro p e s m below meth c ls C hr hlk _ hl hP
  replace C : Cx E L "java/lang/StringLatin1" cJ1_charAt_3b067 2 p s m _ c := C
  have hS : va_S (fA E L s.heap.size) s.heap s.heap [] := va_S.rf
  replace hl : lv_has ls 2 [(0, .ref (E.2.2.1 (200 + k))), (1, .int i)] := hl
  have hT := (C.K.2.2.2.2.1.1 k hk).2.2.2
  have h0 : ¬ i < 0 := fun h => hin (Or.inl h)
  have h1 : i < Int32.ofNat (sLen.getD k 0) := by
    rw [Int32.lt_iff_toInt_lt]
    have h2 : (Int32.ofNat (sLen.getD k 0)).toInt = (sLen.getD k 0 : Int) := nI_toInt (sLen_lt k)
    rw [h2]
    exact (vp_in_iff.mp hin).2
  refine lv_iload_n C.1 C.2.1 dJ1_charAt_3b067_0 rfl (lv_at hl 1 rfl) ?_
  refine lv_aload_n C.1 C.2.1 dJ1_charAt_3b067_1 rfl (lv_at hl 0 rfl) ?_
  refine va_tlen C.1 C.2.1 hT hS rfl dJ1_charAt_3b067_2 ?_
  refine z_kv hS (z_runS (As := [.int i, .int (Int32.ofNat (sLen.getD k 0))]) (rest := []) C hP hS (t_sci C.2.2.2.2.2.2.1 h0 h1) q1537 q1538 q125 q1539 hd_sci ⟨Nat.le_of_ble_eq_true rfl, Nat.le_of_ble_eq_true rfl⟩ ⟨Nat.zero_le _, Nat.zero_le _⟩ rfl hl.1 rfl (lv_room (Nat.le_of_ble_eq_true rfl)) dJ1_charAt_3b067_3) (fun u H locs h hP hS => ?_)
  rw [h] at hP
  refine lv_aload_n C.1 C.2.1 dJ1_charAt_3b067_6 rfl (lv_at hl 0 rfl) ?_
  refine lv_iload_n C.1 C.2.1 dJ1_charAt_3b067_7 rfl (lv_at hl 1 rfl) ?_
  refine va_tb C.1 C.2.1 hT hS hin rfl dJ1_charAt_3b067_8 ?_
  refine lv_sipush C.1 C.2.1 (v := 255) dJ1_charAt_3b067_9 rfl ?_
  refine lv_iand C.1 C.2.1 dJ1_charAt_3b067_12 ?_
  refine lv_i2c C.1 C.2.1 dJ1_charAt_3b067_13 rfl ?_
  exact z_ri C hr hlk (pk_nc _) hP hS ⟨rfl, rfl⟩ dJ1_charAt_3b067_14
def rm_s0 : Room := { frames := 0, cells := 0, slots := 0, locals := 0 }
set_option maxRecDepth 100000 in
theorem t_isl (hE : EK E L) {k : Nat} (hk : k < 26) : Mz l yJ0_isLatin1_aae02 cJ0_isLatin1_aae02 1 (some .boolean) rm_s0 E L [.ref (E.2.2.1 (100 + k))] st (zI E L (fun r u => r = 1 ∧ u = st)) := by
  refine Mz.of hE (by decide) (Nat.le_of_ble_eq_true rfl) ?_
  intro p e s m below meth c ls C hr hlk _ hl hP
  replace C : Cx E L "java/lang/String" cJ0_isLatin1_aae02 1 p s m _ c := C
  have hS : va_S (fA E L s.heap.size) s.heap s.heap [] := va_S.rf
  replace hl : lv_has ls 1 [(0, .ref (E.2.2.1 (100 + k)))] := hl
  refine va_gets C.1 C.2.1 C.K.2.2.2.2.2.2.1 hS C.2.2.2.1 (C.T q1524) (fun _ h => h) dJ0_isLatin1_aae02_0 ?_
  refine lv_if_eq C.1 C.2.1 (tgt := 17) dJ0_isLatin1_aae02_3 (by decide) (fun hc => absurd hc (by decide)) (fun hc => ?_)
  refine lv_aload_n C.1 C.2.1 dJ0_isLatin1_aae02_6 rfl (lv_at hl 0 rfl) ?_
  refine vk_getf C.1 C.2.1 (C.K.2.2.2.2.1.1 k hk).2.1 hS C.2.2.2.1 (C.T q1975) (fun _ h => h) dJ0_isLatin1_aae02_7 ?_
  refine lv_if_ne C.1 C.2.1 (tgt := 17) dJ0_isLatin1_aae02_10 (by decide) (fun hc => absurd rfl hc) (fun hc => ?_)
  refine lv_iconst C.1 C.2.1 (v := 1) dJ0_isLatin1_aae02_13 rfl ?_
  refine lv_goto C.1 C.2.1 (tgt := 18) dJ0_isLatin1_aae02_14 (by decide) ?_
  exact z_ri C hr hlk rfl hP hS ⟨rfl, rfl⟩ dJ0_isLatin1_aae02_18
set_option maxRecDepth 100000 in
theorem t_coder (hE : EK E L) {k : Nat} (hk : k < 26) : Mz l yJ0_coder_7d493 cJ0_coder_7d493 1 (some .byte) rm_s0 E L [.ref (E.2.2.1 (100 + k))] st (zI E L (fun r u => r = 0 ∧ u = st)) := by
  refine Mz.of hE (by decide) (Nat.le_of_ble_eq_true rfl) ?_
  intro p e s m below meth c ls C hr hlk _ hl hP
  replace C : Cx E L "java/lang/String" cJ0_coder_7d493 1 p s m _ c := C
  have hS : va_S (fA E L s.heap.size) s.heap s.heap [] := va_S.rf
  replace hl : lv_has ls 1 [(0, .ref (E.2.2.1 (100 + k)))] := hl
  refine va_gets C.1 C.2.1 C.K.2.2.2.2.2.2.1 hS C.2.2.2.1 (C.T q1524) (fun _ h => h) dJ0_coder_7d493_0 ?_
  refine lv_if_eq C.1 C.2.1 (tgt := 13) dJ0_coder_7d493_3 (by decide) (fun hc => absurd hc (by decide)) (fun hc => ?_)
  refine lv_aload_n C.1 C.2.1 dJ0_coder_7d493_6 rfl (lv_at hl 0 rfl) ?_
  refine vk_getf C.1 C.2.1 (C.K.2.2.2.2.1.1 k hk).2.1 hS C.2.2.2.1 (C.T q1975) (fun _ h => h) dJ0_coder_7d493_7 ?_
  refine lv_goto C.1 C.2.1 (tgt := 14) dJ0_coder_7d493_10 (by decide) ?_
  exact z_ri C hr hlk rfl hP hS ⟨rfl, rfl⟩ dJ0_coder_7d493_14
end ZT
section ZS2
variable {p : Program} {l : Launch} {e : Env} {R : Room} {s : State} {m : MethodId} {args : Array Value} {below : List Frame} {meth : Method} {c : Code} {H : Heap} {locs : List Loc} {cells slots : Nat} {Q : State → Prop}
variable {E : En0} {L : List Nat} {own : String} {cc bytes : ByteArray} {nL index maxL n : Nat} {st : St} {pc : Nat} {ls : Array Slot} {rest st0 As : List Value} {y : MethodName} {ret : Option FieldType} {rm : Room} {Qf : (Nat → Prop) → Array Value → State → Outcome → State → Prop}
theorem z_runStr (C : Cx E L own cc nL p s m args c) (hP : va_P E.1 vwCl (wd E L st) H) (hS : va_S (fA E L s.heap.size) s.heap H locs) {k : Nat} (hk : k < 26)
    (hM : Mz l y bytes maxL ret rm E L (.ref (E.2.2.1 (100 + k)) :: As) st Qf) (h1 : Cond.methodLink own index y ∈ lw_tbl) (h2 : Cond.instanceMethod y ∈ lw_tbl) (h3 : Cond.selects "java/lang/String" y y ∈ lw_tbl) (h4 : Cond.initialized "java/lang/String" ∈ lw_tbl) (h5 : Cond.code y bytes maxL ret ∈ lw_tbl)
    (hd : y.cls = "java/lang/String" ∧ y.cls ≠ "java/lang/invoke/MethodHandle" ∧ y.cls ≠ "java/lang/invoke/VarHandle" ∧ (parseMethodDescriptor y.desc).map (fun d => d.parameters.length) = some n) (hR : rm.frames + 1 ≤ R.frames ∧ 8 + (maxL + 11) + rm.locals ≤ R.locals) (hf : cells + rm.cells ≤ R.cells ∧ slots + rm.slots ≤ R.slots)
    (hn : As.length = n) (hsz : ls.size = nL) (hst : st0 = As.reverse ++ .ref (E.2.2.1 (100 + k)) :: rest) (hW : 2 * (F0 m pc ls st0).monitorRoom + (rest.map fun v => v.category).sum ≤ 8) (hdg : decode cc pc = .ok (.invokevirtual index, 3)) :
    va_Run p l e R s m args below meth c H locs cells slots rm.cells rm.slots (F0 m pc ls st0) rest (Qf (fA E L H.size) (.ref (E.2.2.1 (100 + k)) :: As).toArray) (fA E L H.size) :=
  va_runV C.F (hM H.size) (cwV n C.F.2.2.2.2 (gV h1 h2 h3 h4 h5) rfl rfl rfl hd hR) ⟨z_blind, vk_recv (adK := fun k => E.2.2.1 (100 + k)) (i := k) C.K.2.2.2.2.1 hk hS, z_pre C hP hS _⟩ rfl hn hsz hst hW hdg hf
end ZS2
section ZT2
variable {l : Launch} {E : En0} {L : List Nat} {st : St}
theorem hd_len : yJ0_length_8abf5.cls = "java/lang/String" ∧ yJ0_length_8abf5.cls ≠ "java/lang/invoke/MethodHandle" ∧ yJ0_length_8abf5.cls ≠ "java/lang/invoke/VarHandle" ∧ (parseMethodDescriptor yJ0_length_8abf5.desc).map (fun d => d.parameters.length) = some 0 := by decide +kernel
theorem hd_chr : yJ0_charAt_5068e.cls = "java/lang/String" ∧ yJ0_charAt_5068e.cls ≠ "java/lang/invoke/MethodHandle" ∧ yJ0_charAt_5068e.cls ≠ "java/lang/invoke/VarHandle" ∧ (parseMethodDescriptor yJ0_charAt_5068e.desc).map (fun d => d.parameters.length) = some 1 := by decide +kernel
theorem hd_cod : yJ0_coder_7d493.cls = "java/lang/String" ∧ yJ0_coder_7d493.cls ≠ "java/lang/invoke/MethodHandle" ∧ yJ0_coder_7d493.cls ≠ "java/lang/invoke/VarHandle" ∧ (parseMethodDescriptor yJ0_coder_7d493.desc).map (fun d => d.parameters.length) = some 0 := by decide +kernel
theorem hd_isl : yJ0_isLatin1_aae02.cls = "java/lang/String" ∧ yJ0_isLatin1_aae02.cls ≠ "java/lang/invoke/MethodHandle" ∧ yJ0_isLatin1_aae02.cls ≠ "java/lang/invoke/VarHandle" ∧ (parseMethodDescriptor yJ0_isLatin1_aae02.desc).map (fun d => d.parameters.length) = some 0 := by decide +kernel
def rm_len : Room := { frames := 1, cells := 0, slots := 0, locals := 20 }
set_option maxRecDepth 100000 in
theorem t_len (hE : EK E L) {k : Nat} (hk : k < 26) : Mz l yJ0_length_8abf5 cJ0_length_8abf5 1 (some .int) rm_len E L [.ref (E.2.2.1 (100 + k))] st (zI E L (fun r u => r = nI (sLen.getD k 0) ∧ u = st)) := by
  refine Mz.of hE (by decide) (Nat.le_of_ble_eq_true rfl) ?_
  intro p e s m below meth c ls C hr hlk _ hl hP
  replace C : Cx E L "java/lang/String" cJ0_length_8abf5 1 p s m _ c := C
  have hS : va_S (fA E L s.heap.size) s.heap s.heap [] := va_S.rf
  replace hl : lv_has ls 1 [(0, .ref (E.2.2.1 (100 + k)))] := hl
  refine lv_aload_n C.1 C.2.1 dJ0_length_8abf5_0 rfl (lv_at hl 0 rfl) ?_
  refine vk_getf C.1 C.2.1 (C.K.2.2.2.2.1.1 k hk).2.2.1 hS C.2.2.2.1 (C.T q1974) (fun _ h => h) dJ0_length_8abf5_1 ?_
  refine va_tlen C.1 C.2.1 (C.K.2.2.2.2.1.1 k hk).2.2.2 hS rfl dJ0_length_8abf5_4 ?_
  refine lv_aload_n C.1 C.2.1 dJ0_length_8abf5_5 rfl (lv_at hl 0 rfl) ?_
  refine z_ki hS (z_runStr (As := []) (rest := [.int (Int32.ofNat (sLen.getD k 0))]) C hP hS hk (t_coder C.2.2.2.2.2.2.1 hk) q1520 q1521 q1522 q125 q1523 hd_cod ⟨Nat.le_of_ble_eq_true rfl, Nat.le_of_ble_eq_true rfl⟩ ⟨Nat.zero_le _, Nat.zero_le _⟩ rfl hl.1 rfl (lv_room (Nat.le_of_ble_eq_true rfl)) dJ0_length_8abf5_6) (fun r1 u H locs h hP hS => ?_)
  obtain ⟨rfl, e2⟩ := h
  rw [e2] at hP
  refine lv_ishr C.1 C.2.1 dJ0_length_8abf5_9 ?_
  exact z_ri C hr hlk rfl hP hS ⟨sc_shr0 (sLen_lt k), rfl⟩ dJ0_length_8abf5_10
def rm_chr : Room := { frames := 3, cells := 0, slots := 0, locals := 64 }
set_option maxRecDepth 100000 in
theorem t_chr (hE : EK E L) {k : Nat} (hk : k < 26) {i : Int32} (hin : vp_in i (sLen.getD k 0)) : Mz l yJ0_charAt_5068e cJ0_charAt_5068e 2 (some .char) rm_chr E L [.ref (E.2.2.1 (100 + k)), .int i] st (zI E L (fun r u => r = sCh k i.toNatClampNeg ∧ u = st)) := by
  refine Mz.of hE (by decide) (Nat.le_of_ble_eq_true rfl) ?_
  intro p e s m below meth c ls C hr hlk _ hl hP
  replace C : Cx E L "java/lang/String" cJ0_charAt_5068e 2 p s m _ c := C
  have hS : va_S (fA E L s.heap.size) s.heap s.heap [] := va_S.rf
  replace hl : lv_has ls 2 [(0, .ref (E.2.2.1 (100 + k))), (1, .int i)] := hl
  refine lv_aload_n C.1 C.2.1 dJ0_charAt_5068e_0 rfl (lv_at hl 0 rfl) ?_
  refine z_ki hS (z_runStr (As := []) (rest := []) C hP hS hk (t_isl C.2.2.2.2.2.2.1 hk) q1530 q1531 q1532 q125 q1533 hd_isl ⟨Nat.le_of_ble_eq_true rfl, Nat.le_of_ble_eq_true rfl⟩ ⟨Nat.zero_le _, Nat.zero_le _⟩ rfl hl.1 rfl (lv_room (Nat.le_of_ble_eq_true rfl)) dJ0_charAt_5068e_1) (fun r1 u H locs h hP hS => ?_)
  obtain ⟨rfl, e2⟩ := h
  rw [e2] at hP
  refine lv_if_eq C.1 C.2.1 (tgt := 16) dJ0_charAt_5068e_4 (by decide) (fun hc => absurd hc (by decide)) (fun hc => ?_)
  refine lv_aload_n C.1 C.2.1 dJ0_charAt_5068e_7 rfl (lv_at hl 0 rfl) ?_
  refine vk_getf C.1 C.2.1 (C.K.2.2.2.2.1.1 k hk).2.2.1 hS C.2.2.2.1 (C.T q1974) (fun _ h => h) dJ0_charAt_5068e_8 ?_
  refine lv_iload_n C.1 C.2.1 dJ0_charAt_5068e_11 rfl (lv_at hl 1 rfl) ?_
  refine z_ki hS (z_runS (As := [.ref (E.2.2.1 (200 + k)), .int i]) (rest := []) C hP hS (t_l1c C.2.2.2.2.2.2.1 hk hin) q1534 q1535 q126 q1536 hd_l1c ⟨Nat.le_of_ble_eq_true rfl, Nat.le_of_ble_eq_true rfl⟩ ⟨Nat.zero_le _, Nat.zero_le _⟩ rfl hl.1 rfl (lv_room (Nat.le_of_ble_eq_true rfl)) dJ0_charAt_5068e_12) (fun r1 u H locs h hP hS => ?_)
  obtain ⟨rfl, e2⟩ := h
  rw [e2] at hP
  exact z_ri C hr hlk (pk_nc _) hP hS ⟨rfl, rfl⟩ dJ0_charAt_5068e_15
end ZT2
section ZS3
variable {p : Program} {l : Launch} {e : Env} {R : Room} {s : State} {m : MethodId} {args : Array Value} {below : List Frame} {meth : Method} {c : Code} {H : Heap} {locs : List Loc} {cells slots : Nat} {Q : State → Prop}
variable {E : En0} {L : List Nat} {own : String} {cc : ByteArray} {nL index : Nat} {st : St} {pc : Nat} {ls : Array Slot} {rest : List Value}
theorem z_len (C : Cx E L own cc nL p s m args c) (hP : va_P E.1 vwCl (wd E L st) H) (hS : va_S (fA E L s.heap.size) s.heap H locs) {k : Nat} (hk : k < 26) (q : .methodLink own index yJ0_length_8abf5 ∈ lw_tbl) (hR : 2 ≤ R.frames ∧ 40 ≤ R.locals) (hf : cells ≤ R.cells ∧ slots ≤ R.slots) (hsz : ls.size = nL) (hW : 2 * (F0 m pc ls (.ref (E.2.2.1 (100 + k)) :: rest)).monitorRoom + (rest.map fun v => v.category).sum ≤ 8) (hdg : decode cc pc = .ok (.invokevirtual index, 3))
    (kk : ∀ (H1 : Heap) (locs1 : List Loc), va_P E.1 vwCl (wd E L st) H1 → va_S (fA E L s.heap.size) s.heap H1 locs1 → W p l e R s m args below meth c H1 locs1 cells slots Q (F0 m (pc + 3) ls (.int (nI (sLen.getD k 0)) :: rest))) : W p l e R s m args below meth c H locs cells slots Q (F0 m pc ls (.ref (E.2.2.1 (100 + k)) :: rest)) :=
  z_ki hS (z_runStr (As := []) (rest := rest) C hP hS hk (t_len C.2.2.2.2.2.2.1 hk) q q1517 q1518 q125 q1519 hd_len ⟨hR.1, hR.2⟩ hf rfl hsz rfl hW hdg) (fun r u H1 locs1 hp hP1 hS1 => by obtain ⟨rfl, rfl⟩ := hp; exact kk H1 locs1 hP1 hS1)
theorem z_chr (C : Cx E L own cc nL p s m args c) (hP : va_P E.1 vwCl (wd E L st) H) (hS : va_S (fA E L s.heap.size) s.heap H locs) {k : Nat} (hk : k < 26) {i : Int32} (hin : vp_in i (sLen.getD k 0)) (q : .methodLink own index yJ0_charAt_5068e ∈ lw_tbl) (hR : 4 ≤ R.frames ∧ 85 ≤ R.locals) (hf : cells ≤ R.cells ∧ slots ≤ R.slots) (hsz : ls.size = nL) (hW : 2 * (F0 m pc ls (.int i :: .ref (E.2.2.1 (100 + k)) :: rest)).monitorRoom + (rest.map fun v => v.category).sum ≤ 8) (hdg : decode cc pc = .ok (.invokevirtual index, 3))
    (kk : ∀ (H1 : Heap) (locs1 : List Loc), va_P E.1 vwCl (wd E L st) H1 → va_S (fA E L s.heap.size) s.heap H1 locs1 → W p l e R s m args below meth c H1 locs1 cells slots Q (F0 m (pc + 3) ls (.int (sCh k i.toNatClampNeg) :: rest))) : W p l e R s m args below meth c H locs cells slots Q (F0 m pc ls (.int i :: .ref (E.2.2.1 (100 + k)) :: rest)) :=
  z_ki hS (z_runStr (As := [.int i]) (rest := rest) C hP hS hk (t_chr C.2.2.2.2.2.2.1 hk hin) q q1527 q1528 q125 q1529 hd_chr ⟨hR.1, hR.2⟩ hf rfl hsz rfl hW hdg) (fun r u H1 locs1 hp hP1 hS1 => by obtain ⟨rfl, rfl⟩ := hp; exact kk H1 locs1 hP1 hS1)
/-- the row of the words -/
theorem z_words (C : Cx E L own cc nL p s m args c) (hS : va_S (fA E L s.heap.size) s.heap H locs) {host : String} (q : .fieldLinkNest own index "PlankBridgeModel" "WORDS" "[Ljava/lang/String;" host ∈ lw_tbl) (hdg : decode cc pc = .ok (.getstatic index, 3))
    (kk : ∀ t : Nat, va_T (.object "java/lang/String") t 26 (fun j => .ref (E.2.2.1 (100 + j))) (fA E L s.heap.size) s s.heap → W p l e R s m args below meth c H locs cells slots Q (F0 m (pc + 3) ls (.ref t :: rest))) : W p l e R s m args below meth c H locs cells slots Q (F0 m pc ls rest) := by
  obtain ⟨t, h1, h2⟩ := C.K.2.2.2.2.2.1
  exact va_getsN C.1 C.2.1 h1 hS C.2.2.2.1 (C.Tn q) (fun _ h => h) hdg (kk t h2)
theorem z_wordat (C : Cx E L own cc nL p s m args c) (hS : va_S (fA E L s.heap.size) s.heap H locs) {t : Nat} (hT : va_T (.object "java/lang/String") t 26 (fun j => .ref (E.2.2.1 (100 + j))) (fA E L s.heap.size) s s.heap) {i : Int32} (hin : vp_in i 26) (hdg : decode cc pc = .ok (.aaload, 1))
    (kk : W p l e R s m args below meth c H locs cells slots Q (F0 m (pc + 1) ls (.ref (E.2.2.1 (100 + i.toNatClampNeg)) :: rest))) : W p l e R s m args below meth c H locs cells slots Q (F0 m pc ls (.int i :: .ref t :: rest)) := by
  obtain ⟨cell, h1, h2, h3, h4, h5, h6, h7⟩ := hT
  have hlt : i.toNatClampNeg < 26 := Nat.not_le.mp fun q => hin (Or.inr q)
  have hin' : ¬ (i < 0 ∨ cell.slots.size ≤ i.toNatClampNeg) := by
    intro q
    rcases q with q | q
    · exact hin (Or.inl q)
    · omega
  exact W.aald (v := .ref (E.2.2.1 (100 + i.toNatClampNeg))) (ty := .object "java/lang/String") C.1 C.2.1 (by rw [hS.2.1 t (Array.getElem?_eq_some_iff.mp h1).1 h7]; exact h1) h2 rfl h3 hin' (h6 _ hlt) rfl rfl hdg kk
end ZS3

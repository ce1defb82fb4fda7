def rmJ6_bitCount_0f7a4 : Room := { frames := 0, cells := 0, slots := 0, locals := 0 }
def wJ6_bitCount_0f7a4 (p1 : Int32) (st : St) (Q : Int32 → St → Prop) : Prop :=
  (∀ x1 : Int32, x1 = (p1 - ((((p1 : Int32).toUInt32 >>> ((1 : Int32).toUInt32 &&& Int32.toUInt32 31)).toInt32) &&& 1431655765)) → (∀ x2 : Int32, x2 = ((x1 &&& 858993459) + ((((x1 : Int32).toUInt32 >>> ((2 : Int32).toUInt32 &&& Int32.toUInt32 31)).toInt32) &&& 858993459)) → (∀ x3 : Int32, x3 = ((x2 + (((x2 : Int32).toUInt32 >>> ((4 : Int32).toUInt32 &&& Int32.toUInt32 31)).toInt32)) &&& 252645135) → (∀ x4 : Int32, x4 = (x3 + (((x3 : Int32).toUInt32 >>> ((8 : Int32).toUInt32 &&& Int32.toUInt32 31)).toInt32)) → (∀ x5 : Int32, x5 = (x4 + (((x4 : Int32).toUInt32 >>> ((16 : Int32).toUInt32 &&& Int32.toUInt32 31)).toInt32)) → Q (x5 &&& 63) st)))))
theorem hdJ6_bitCount_0f7a4 : yJ6_bitCount_0f7a4.cls ≠ "java/lang/invoke/MethodHandle" ∧ yJ6_bitCount_0f7a4.cls ≠ "java/lang/invoke/VarHandle" ∧ (parseMethodDescriptor yJ6_bitCount_0f7a4.desc).map (fun d => d.parameters.length) = some 1 := by decide +kernel
set_option maxHeartbeats 4000000 in
set_option maxRecDepth 100000 in
theorem tJ6_bitCount_0f7a4 {l : Launch} {E : En0} {L : List Nat} (hE : EK E L) (hL : Cov 0 54 L) {p1 : Int32} {st : St} {Q : Int32 → St → Prop}  (h : wJ6_bitCount_0f7a4 p1 st Q) : Mz l yJ6_bitCount_0f7a4 cJ6_bitCount_0f7a4 1 (some .int) rmJ6_bitCount_0f7a4 E L [.int p1] st (zI E L Q) := by
  refine Mz.of hE (by decide) (Nat.le_of_ble_eq_true rfl) ?_
  intro p e s m below meth c ls C hr hlk _ hl hP
  replace C : Cx E L "java/lang/Integer" cJ6_bitCount_0f7a4 1 p s m _ c := C
  have hS : va_S (fA E L s.heap.size) s.heap s.heap [] := va_S.rf
  replace hl : lv_has ls 1 [(0, .int p1)] := hl
  unfold wJ6_bitCount_0f7a4 at h
  refine lv_iload_n C.1 C.2.1 dJ6_bitCount_0f7a4_0 rfl (lv_at hl 0 rfl) ?_
  refine lv_iload_n C.1 C.2.1 dJ6_bitCount_0f7a4_1 rfl (lv_at hl 0 rfl) ?_
  refine lv_iconst C.1 C.2.1 (v := 1) dJ6_bitCount_0f7a4_2 rfl ?_
  refine t_iushr C.1 C.2.1 dJ6_bitCount_0f7a4_3  rfl ?_
  refine lv_ldcw C.1 C.2.1 C.2.2.2.1 (C.T q719) dJ6_bitCount_0f7a4_4 ?_
  refine lv_iand C.1 C.2.1 dJ6_bitCount_0f7a4_7  ?_
  refine lv_isub C.1 C.2.1 dJ6_bitCount_0f7a4_8  ?_
  refine lv_topi (fun x1 ex1 => ?_)
  have h := h x1 ex1
  refine lv_istore_n C.1 C.2.1 dJ6_bitCount_0f7a4_9 rfl hl (Nat.le_of_ble_eq_true rfl) rfl (fun ls hl => ?_)
  have hl : lv_has ls 1 [(0, .int x1)] := hl
  refine lv_iload_n C.1 C.2.1 dJ6_bitCount_0f7a4_10 rfl (lv_at hl 0 rfl) ?_
  refine lv_ldcw C.1 C.2.1 C.2.2.2.1 (C.T q720) dJ6_bitCount_0f7a4_11 ?_
  refine lv_iand C.1 C.2.1 dJ6_bitCount_0f7a4_14  ?_
  refine lv_iload_n C.1 C.2.1 dJ6_bitCount_0f7a4_15 rfl (lv_at hl 0 rfl) ?_
  refine lv_iconst C.1 C.2.1 (v := 2) dJ6_bitCount_0f7a4_16 rfl ?_
  refine t_iushr C.1 C.2.1 dJ6_bitCount_0f7a4_17  rfl ?_
  refine lv_ldcw C.1 C.2.1 C.2.2.2.1 (C.T q720) dJ6_bitCount_0f7a4_18 ?_
  refine lv_iand C.1 C.2.1 dJ6_bitCount_0f7a4_21  ?_
  refine lv_iadd C.1 C.2.1 dJ6_bitCount_0f7a4_22  ?_
  refine lv_topi (fun x2 ex2 => ?_)
  have h := h x2 ex2
  refine lv_istore_n C.1 C.2.1 dJ6_bitCount_0f7a4_23 rfl hl (Nat.le_of_ble_eq_true rfl) rfl (fun ls hl => ?_)
  have hl : lv_has ls 1 [(0, .int x2)] := hl
  refine lv_iload_n C.1 C.2.1 dJ6_bitCount_0f7a4_24 rfl (lv_at hl 0 rfl) ?_
  refine lv_iload_n C.1 C.2.1 dJ6_bitCount_0f7a4_25 rfl (lv_at hl 0 rfl) ?_
  refine lv_iconst C.1 C.2.1 (v := 4) dJ6_bitCount_0f7a4_26 rfl ?_
  refine t_iushr C.1 C.2.1 dJ6_bitCount_0f7a4_27  rfl ?_
  refine lv_iadd C.1 C.2.1 dJ6_bitCount_0f7a4_28  ?_
  refine lv_ldcw C.1 C.2.1 C.2.2.2.1 (C.T q721) dJ6_bitCount_0f7a4_29 ?_
  refine lv_iand C.1 C.2.1 dJ6_bitCount_0f7a4_32  ?_
  refine lv_topi (fun x3 ex3 => ?_)
  have h := h x3 ex3
  refine lv_istore_n C.1 C.2.1 dJ6_bitCount_0f7a4_33 rfl hl (Nat.le_of_ble_eq_true rfl) rfl (fun ls hl => ?_)
  have hl : lv_has ls 1 [(0, .int x3)] := hl
  refine lv_iload_n C.1 C.2.1 dJ6_bitCount_0f7a4_34 rfl (lv_at hl 0 rfl) ?_
  refine lv_iload_n C.1 C.2.1 dJ6_bitCount_0f7a4_35 rfl (lv_at hl 0 rfl) ?_
  refine lv_bipush C.1 C.2.1 (v := 8) dJ6_bitCount_0f7a4_36 rfl ?_
  refine t_iushr C.1 C.2.1 dJ6_bitCount_0f7a4_38  rfl ?_
  refine lv_iadd C.1 C.2.1 dJ6_bitCount_0f7a4_39  ?_
  refine lv_topi (fun x4 ex4 => ?_)
  have h := h x4 ex4
  refine lv_istore_n C.1 C.2.1 dJ6_bitCount_0f7a4_40 rfl hl (Nat.le_of_ble_eq_true rfl) rfl (fun ls hl => ?_)
  have hl : lv_has ls 1 [(0, .int x4)] := hl
  refine lv_iload_n C.1 C.2.1 dJ6_bitCount_0f7a4_41 rfl (lv_at hl 0 rfl) ?_
  refine lv_iload_n C.1 C.2.1 dJ6_bitCount_0f7a4_42 rfl (lv_at hl 0 rfl) ?_
  refine lv_bipush C.1 C.2.1 (v := 16) dJ6_bitCount_0f7a4_43 rfl ?_
  refine t_iushr C.1 C.2.1 dJ6_bitCount_0f7a4_45  rfl ?_
  refine lv_iadd C.1 C.2.1 dJ6_bitCount_0f7a4_46  ?_
  refine lv_topi (fun x5 ex5 => ?_)
  have h := h x5 ex5
  refine lv_istore_n C.1 C.2.1 dJ6_bitCount_0f7a4_47 rfl hl (Nat.le_of_ble_eq_true rfl) rfl (fun ls hl => ?_)
  have hl : lv_has ls 1 [(0, .int x5)] := hl
  refine lv_iload_n C.1 C.2.1 dJ6_bitCount_0f7a4_48 rfl (lv_at hl 0 rfl) ?_
  refine lv_bipush C.1 C.2.1 (v := 63) dJ6_bitCount_0f7a4_49 rfl ?_
  refine lv_iand C.1 C.2.1 dJ6_bitCount_0f7a4_51  ?_
  exact z_ri C hr hlk rfl hP hS h dJ6_bitCount_0f7a4_52
def rmX2_countNear : Room := { frames := 1, cells := 0, slots := 0, locals := 20 }
def wX2_countNear (b : Nat) (st : St) (Q : Int32 → St → Prop) : Prop :=
  (wJ6_bitCount_0f7a4 (gI st b 3) st (fun r2 st1 => Q r2 st1))
theorem hdX2_countNear : yX2_countNear.cls = "PlankBridge$Bridge" ∧ yX2_countNear.cls ≠ "java/lang/invoke/MethodHandle" ∧ yX2_countNear.cls ≠ "java/lang/invoke/VarHandle" ∧ (parseMethodDescriptor yX2_countNear.desc).map (fun d => d.parameters.length) = some 0 := by decide +kernel
set_option maxHeartbeats 4000000 in
set_option maxRecDepth 100000 in
theorem tX2_countNear {l : Launch} {E : En0} {L : List Nat} (hE : EK E L) (hL : Cov 0 54 L) {b : Nat} {st : St} {Q : Int32 → St → Prop} (hb : kd b = 2) (h : wX2_countNear b st Q) : Mz l yX2_countNear cX2_countNear 1 (some .int) rmX2_countNear E L [.ref (E.2.1 b)] st (zI E L Q) := by
  refine Mz.of hE (by decide) (Nat.le_of_ble_eq_true rfl) ?_
  intro p e s m below meth c ls C hr hlk _ hl hP
  replace C : Cx E L "PlankBridge$Bridge" cX2_countNear 1 p s m _ c := C
  have hS : va_S (fA E L s.heap.size) s.heap s.heap [] := va_S.rf
  replace hl : lv_has ls 1 [(0, .ref (E.2.1 b))] := hl
  unfold wX2_countNear at h
  refine lv_aload_n C.1 C.2.1 dX2_countNear_0 rfl (lv_at hl 0 rfl) ?_
  refine gf2_3 C hP hb (m2 hb hL) q296 dX2_countNear_1 ?_
  refine z_ki hS (z_runS (As := [.int (gI st b 3)]) (rest := []) C hP hS (tJ6_bitCount_0f7a4 C.2.2.2.2.2.2.1 (hL.mo (Nat.le_of_ble_eq_true rfl) (Nat.le_of_ble_eq_true rfl))  h) q716 q717 q131 q718 hdJ6_bitCount_0f7a4 ⟨Nat.le_of_ble_eq_true rfl, Nat.le_of_ble_eq_true rfl⟩ ⟨Nat.zero_le _, Nat.zero_le _⟩ rfl hl.1 rfl (lv_room (Nat.le_of_ble_eq_true rfl)) dX2_countNear_4) (fun r2 st1 H locs h hP hS => ?_)
  exact z_ri C hr hlk rfl hP hS h dX2_countNear_7
def rmX2_countFar : Room := { frames := 1, cells := 0, slots := 0, locals := 20 }
def wX2_countFar (b : Nat) (st : St) (Q : Int32 → St → Prop) : Prop :=
  (wJ6_bitCount_0f7a4 (gI st b 3) st (fun r2 st1 => Q ((gI st b 0) - r2) st1))
theorem hdX2_countFar : yX2_countFar.cls = "PlankBridge$Bridge" ∧ yX2_countFar.cls ≠ "java/lang/invoke/MethodHandle" ∧ yX2_countFar.cls ≠ "java/lang/invoke/VarHandle" ∧ (parseMethodDescriptor yX2_countFar.desc).map (fun d => d.parameters.length) = some 0 := by decide +kernel
set_option maxHeartbeats 4000000 in
set_option maxRecDepth 100000 in
theorem tX2_countFar {l : Launch} {E : En0} {L : List Nat} (hE : EK E L) (hL : Cov 0 54 L) {b : Nat} {st : St} {Q : Int32 → St → Prop} (hb : kd b = 2) (h : wX2_countFar b st Q) : Mz l yX2_countFar cX2_countFar 1 (some .int) rmX2_countFar E L [.ref (E.2.1 b)] st (zI E L Q) := by
  refine Mz.of hE (by decide) (Nat.le_of_ble_eq_true rfl) ?_
  intro p e s m below meth c ls C hr hlk _ hl hP
  replace C : Cx E L "PlankBridge$Bridge" cX2_countFar 1 p s m _ c := C
  have hS : va_S (fA E L s.heap.size) s.heap s.heap [] := va_S.rf
  replace hl : lv_has ls 1 [(0, .ref (E.2.1 b))] := hl
  unfold wX2_countFar at h
  refine lv_aload_n C.1 C.2.1 dX2_countFar_0 rfl (lv_at hl 0 rfl) ?_
  refine gf2_0 C hP hb (m2 hb hL) q289 dX2_countFar_1 ?_
  refine lv_aload_n C.1 C.2.1 dX2_countFar_4 rfl (lv_at hl 0 rfl) ?_
  refine gf2_3 C hP hb (m2 hb hL) q296 dX2_countFar_5 ?_
  refine z_ki hS (z_runS (As := [.int (gI st b 3)]) (rest := [.int (gI st b 0)]) C hP hS (tJ6_bitCount_0f7a4 C.2.2.2.2.2.2.1 (hL.mo (Nat.le_of_ble_eq_true rfl) (Nat.le_of_ble_eq_true rfl))  h) q716 q717 q131 q718 hdJ6_bitCount_0f7a4 ⟨Nat.le_of_ble_eq_true rfl, Nat.le_of_ble_eq_true rfl⟩ ⟨Nat.zero_le _, Nat.zero_le _⟩ rfl hl.1 rfl (lv_room (Nat.le_of_ble_eq_true rfl)) dX2_countFar_8) (fun r2 st1 H locs h hP hS => ?_)
  refine lv_isub C.1 C.2.1 dX2_countFar_11  ?_
  exact z_ri C hr hlk rfl hP hS h dX2_countFar_12
def rmX2_rankOf : Room := { frames := 1, cells := 0, slots := 0, locals := 21 }
def wX2_rankOf (b : Nat) (p1 : Option Nat) (p2 : Int32) (st : St) (Q : Int32 → St → Prop) : Prop :=
  (wX2_hasWalker b p2 st (fun r2 st1 => ((¬ r2 = 0 → (∃ k4, p1 = some k4 ∧ k4 < 37 ∧ (vp_in (Int32.ofNat k4) 37 ∧ ((((kSw (Int32.ofNat k4 : Int32).toNatClampNeg : Int32).toInt < 8 ∨ 10 < (kSw (Int32.ofNat k4 : Int32).toNatClampNeg : Int32).toInt) → (vp_in p2 8 ∧ Q (gI st1 (b + 1) (p2 : Int32).toNatClampNeg) st1)) ∧ (((kSw (Int32.ofNat k4 : Int32).toNatClampNeg) = 8 → (vp_in p2 8 ∧ Q (-(gI st1 (b + 2) (p2 : Int32).toNatClampNeg)) st1)) ∧ ((kSw (Int32.ofNat k4 : Int32).toNatClampNeg) = 9 → (vp_in p2 8 ∧ Q (gI st1 (b + 2) (p2 : Int32).toNatClampNeg) st1)) ∧ ((kSw (Int32.ofNat k4 : Int32).toNatClampNeg) = 10 → (vp_in p2 8 ∧ Q (-(gI st1 (b + 1) (p2 : Int32).toNatClampNeg)) st1))))))) ∧ (r2 = 0 → Q 0 st1))))
theorem hdX2_rankOf : yX2_rankOf.cls = "PlankBridge$Bridge" ∧ yX2_rankOf.cls ≠ "java/lang/invoke/MethodHandle" ∧ yX2_rankOf.cls ≠ "java/lang/invoke/VarHandle" ∧ (parseMethodDescriptor yX2_rankOf.desc).map (fun d => d.parameters.length) = some 2 := by decide +kernel
set_option maxHeartbeats 4000000 in
set_option maxRecDepth 100000 in
theorem tX2_rankOf {l : Launch} {E : En0} {L : List Nat} (hE : EK E L) (hL : Cov 0 54 L) {b : Nat} {p1 : Option Nat} {p2 : Int32} {st : St} {Q : Int32 → St → Prop} (hb : kd b = 2) (h : wX2_rankOf b p1 p2 st Q) : Mz l yX2_rankOf cX2_rankOf 3 (some .int) rmX2_rankOf E L [.ref (E.2.1 b), va_re E.2.2.1 p1, .int p2] st (zI E L Q) := by
  refine Mz.of hE (by decide) (by cases p1 <;> exact Nat.le_of_ble_eq_true rfl) ?_
  intro p e s m below meth c ls C hr hlk _ hl hP
  replace C : Cx E L "PlankBridge$Bridge" cX2_rankOf 3 p s m _ c := C
  have hS : va_S (fA E L s.heap.size) s.heap s.heap [] := va_S.rf
  replace hl : lv_has ls 3 [(0, .ref (E.2.1 b)), (1, va_re E.2.2.1 p1), (2, .int p2)] := (by cases p1 <;> exact hl)
  unfold wX2_rankOf at h
  refine lv_aload_n C.1 C.2.1 dX2_rankOf_0 rfl (lv_at hl 0 rfl) ?_
  refine lv_iload_n C.1 C.2.1 dX2_rankOf_1 rfl (lv_at hl 2 rfl) ?_
  refine z_ki hS (z_runV (As := [.int p2]) (rest := []) C hP hS (m2 hb hL) (e2 hb) rfl (tX2_hasWalker C.2.2.2.2.2.2.1 (hL.mo (Nat.le_of_ble_eq_true rfl) (Nat.le_of_ble_eq_true rfl)) hb h) q811 q812 q813 q112 q814 hdX2_hasWalker ⟨Nat.le_of_ble_eq_true rfl, Nat.le_of_ble_eq_true rfl⟩ ⟨Nat.zero_le _, Nat.zero_le _⟩ rfl hl.1 rfl (lv_room (Nat.le_of_ble_eq_true rfl)) dX2_rankOf_2) (fun r2 st1 H locs h hP hS => ?_)
  obtain ⟨hr2, h⟩ := h
  refine lv_if_ne C.1 C.2.1 (tgt := 10) dX2_rankOf_5 (by decide) (fun hc => ?_) (fun hc => ?_)
  · have h := h.1 hc
    refine z_sw C hS q1172 dX2_rankOf_10 (fun t3 ht3 => ?_)
    refine z_aloadE_n C.1 C.2.1 dX2_rankOf_13 rfl (lv_at hl 1 rfl) ?_
    obtain ⟨k4, ek4, lk4, h⟩ := h
    refine z_ordE C hP hS ek4 lk4 q1173 ⟨Nat.le_of_ble_eq_true rfl, Nat.le_of_ble_eq_true rfl⟩ ⟨Nat.zero_le _, Nat.zero_le _⟩ hl.1 (lv_room (Nat.le_of_ble_eq_true rfl)) dX2_rankOf_14 (fun H locs hP hS => ?_)
    obtain ⟨hi5, h⟩ := h
    refine va_ti C.1 C.2.1 ht3 hS hi5 rfl dX2_rankOf_17 ?_
    rcases Classical.em ((kSw (Int32.ofNat k4 : Int32).toNatClampNeg : Int32).toInt < 8 ∨ 10 < (kSw (Int32.ofNat k4 : Int32).toNatClampNeg : Int32).toInt) with hx | hx
    · have h := h.1 hx
      refine lv_tableOut C.1 C.2.1 (tgt := 67) dX2_rankOf_18 hx (by decide) ?_
      refine lv_aload_n C.1 C.2.1 dX2_rankOf_67 rfl (lv_at hl 0 rfl) ?_
      refine gf2_1 C hP hb (m2 hb hL) q292 dX2_rankOf_68 ?_
      refine lv_iload_n C.1 C.2.1 dX2_rankOf_71 rfl (lv_at hl 2 rfl) ?_
      obtain ⟨hi, h⟩ := h
      refine z_iald C hP (k2_1 hb) (l2_1 hb) (m2_1 hb hL) hi dX2_rankOf_72 ?_
      exact z_ri C hr hlk rfl hP hS h dX2_rankOf_73
    · have h := h.2
      have hx : (kSw (Int32.ofNat k4 : Int32).toNatClampNeg : Int32).toInt = 8 ∨ (kSw (Int32.ofNat k4 : Int32).toNatClampNeg : Int32).toInt = 9 ∨ (kSw (Int32.ofNat k4 : Int32).toNatClampNeg : Int32).toInt = 10 := by omega
      rcases hx with hx | hx | hx
      · have h := h.1 (i32_eq (hx.trans (by decide)))
        refine lv_tableIn C.1 C.2.1 (off := 26) (tgt := 44) dX2_rankOf_18 (by omega) (by omega) (by rw [hx]; rfl) (by decide) ?_
        refine lv_aload_n C.1 C.2.1 dX2_rankOf_44 rfl (lv_at hl 0 rfl) ?_
        refine gf2_2 C hP hb (m2 hb hL) q294 dX2_rankOf_45 ?_
        refine lv_iload_n C.1 C.2.1 dX2_rankOf_48 rfl (lv_at hl 2 rfl) ?_
        obtain ⟨hi, h⟩ := h
        refine z_iald C hP (k2_2 hb) (l2_2 hb) (m2_2 hb hL) hi dX2_rankOf_49 ?_
        refine lv_ineg C.1 C.2.1 dX2_rankOf_50 ?_
        exact z_ri C hr hlk rfl hP hS h dX2_rankOf_51
      · have h := h.2.1 (i32_eq (hx.trans (by decide)))
        refine lv_tableIn C.1 C.2.1 (off := 34) (tgt := 52) dX2_rankOf_18 (by omega) (by omega) (by rw [hx]; rfl) (by decide) ?_
        refine lv_aload_n C.1 C.2.1 dX2_rankOf_52 rfl (lv_at hl 0 rfl) ?_
        refine gf2_2 C hP hb (m2 hb hL) q294 dX2_rankOf_53 ?_
        refine lv_iload_n C.1 C.2.1 dX2_rankOf_56 rfl (lv_at hl 2 rfl) ?_
        obtain ⟨hi, h⟩ := h
        refine z_iald C hP (k2_2 hb) (l2_2 hb) (m2_2 hb hL) hi dX2_rankOf_57 ?_
        exact z_ri C hr hlk rfl hP hS h dX2_rankOf_58
      · have h := h.2.2 (i32_eq (hx.trans (by decide)))
        refine lv_tableIn C.1 C.2.1 (off := 41) (tgt := 59) dX2_rankOf_18 (by omega) (by omega) (by rw [hx]; rfl) (by decide) ?_
        refine lv_aload_n C.1 C.2.1 dX2_rankOf_59 rfl (lv_at hl 0 rfl) ?_
        refine gf2_1 C hP hb (m2 hb hL) q292 dX2_rankOf_60 ?_
        refine lv_iload_n C.1 C.2.1 dX2_rankOf_63 rfl (lv_at hl 2 rfl) ?_
        obtain ⟨hi, h⟩ := h
        refine z_iald C hP (k2_1 hb) (l2_1 hb) (m2_1 hb hL) hi dX2_rankOf_64 ?_
        refine lv_ineg C.1 C.2.1 dX2_rankOf_65 ?_
        exact z_ri C hr hlk rfl hP hS h dX2_rankOf_66
  · have h := h.2 hc
    refine lv_iconst C.1 C.2.1 (v := 0) dX2_rankOf_8 rfl ?_
    exact z_ri C hr hlk rfl hP hS h dX2_rankOf_9
def rmX2_choose : Room := { frames := 2, cells := 0, slots := 0, locals := 43 }
def wX2_choose_L64 (b : Nat) (p1 : Option Nat) (p2 : Int32) (R8 : (Option Nat) × Int32 × Int32 × Int32 × Int32 × St → Prop) (v1 : Option Nat) (v2 : Int32) (v3 : Int32) (v4 : Int32) (v5 : Int32) (st : St) (Q : Int32 → St → Prop) : Prop :=
  (∀ x5 : Int32, x5 = v5 + 1 → R8 (v1, v2, v3, v4, x5, st))
def wX2_choose_L57 (b : Nat) (p1 : Option Nat) (p2 : Int32) (R8 : (Option Nat) × Int32 × Int32 × Int32 × Int32 × St → Prop) (v1 : Option Nat) (v2 : Int32) (v5 : Int32) (v6 : Int32) (st : St) (Q : Int32 → St → Prop) : Prop :=
  wX2_choose_L64 b p1 p2 R8 v1 v2 v5 v6 v5 st Q
def wX2_choose_L8 (b : Nat) (p1 : Option Nat) (p2 : Int32)  (R8 : (Option Nat) × Int32 × Int32 × Int32 × Int32 × St → Prop) (v1 : Option Nat) (v2 : Int32) (v3 : Int32) (v4 : Int32) (v5 : Int32) (st : St) (Q : Int32 → St → Prop) : Prop :=
  (((gI st b 0) ≤ v5 → Q v3 st) ∧ (¬ (gI st b 0) ≤ v5 → ((v5 = v2 → wX2_choose_L64 b p1 p2 R8 v1 v2 v3 v4 v5 st Q) ∧ (¬ v5 = v2 → (wX2_standsNear b v5 st (fun r2 st1 => ((¬ r2 = (gI st1 b 7) → wX2_choose_L64 b p1 p2 R8 v1 v2 v3 v4 v5 st1 Q) ∧ (r2 = (gI st1 b 7) → (wX2_rankOf b v1 v5 st1 (fun r4 st3 => ((v3 = (-1) → wX2_choose_L57 b p1 p2 R8 v1 v2 v5 r4 st3 Q) ∧ (¬ v3 = (-1) → ((r4 ≤ v4 → wX2_choose_L64 b p1 p2 R8 v1 v2 v3 v4 v5 st3 Q) ∧ (¬ r4 ≤ v4 → wX2_choose_L57 b p1 p2 R8 v1 v2 v5 r4 st3 Q))))))))))))))
def wX2_choose (b : Nat) (p1 : Option Nat) (p2 : Int32) (st : St) (Q : Int32 → St → Prop) : Prop :=
  (∃ n, lp (fun R s => wX2_choose_L8 b p1 p2 R s.1 s.2.1 s.2.2.1 s.2.2.2.1 s.2.2.2.2.1 s.2.2.2.2.2 Q) n (p1, p2, (-1), 0, 0, st))
theorem hdX2_choose : yX2_choose.cls = "PlankBridge$Bridge" ∧ yX2_choose.cls ≠ "java/lang/invoke/MethodHandle" ∧ yX2_choose.cls ≠ "java/lang/invoke/VarHandle" ∧ (parseMethodDescriptor yX2_choose.desc).map (fun d => d.parameters.length) = some 2 := by decide +kernel
set_option maxHeartbeats 4000000 in
set_option maxRecDepth 100000 in
theorem tX2_choose_L64 {l : Launch} {p : Program} {e : Env} {s : State} {m : MethodId} {args : Array Value} {below : List Frame} {meth : Method} {c : Code} {E : En0} {L : List Nat} (hL : Cov 0 54 L) (C : Cx E L "PlankBridge$Bridge" cX2_choose 7 p s m args c) (hr : meth.sig.returnType = (some .int)) (hlk : meth.locks = false) {b : Nat} {p1 : Option Nat} {p2 : Int32} {Q : Int32 → St → Prop} (hb : kd b = 2) {R8 : (Option Nat) × Int32 × Int32 × Int32 × Int32 × St → Prop} (hR8 : ∀ (v1 : Option Nat) (v2 : Int32) (v3 : Int32) (v4 : Int32) (v5 : Int32) (st : St), ∀ (H : Heap) (locs : List Loc) (ls : Array Slot), R8 (v1, v2, v3, v4, v5, st) → lv_has ls 7 [(0, .ref (E.2.1 b)), (1, va_re E.2.2.1 v1), (2, .int v2), (3, .int v3), (4, .int v4), (5, .int v5)] → va_P E.1 vwCl (wd E L st) H → va_S (fA E L s.heap.size) s.heap H locs → W p l e rmX2_choose s m args below meth c H locs 0 0 (MQ below (zI E L Q (fA E L s.heap.size)) args s rmX2_choose.cells rmX2_choose.slots (fA E L s.heap.size)) (F0 m 8 ls [])) {v1 : Option Nat} {v2 : Int32} {v3 : Int32} {v4 : Int32} {v5 : Int32}  {st : St} (H : Heap) (locs : List Loc) (ls : Array Slot) (h : wX2_choose_L64 b p1 p2 R8 v1 v2 v3 v4 v5 st Q) (hl : lv_has ls 7 [(0, .ref (E.2.1 b)), (1, va_re E.2.2.1 v1), (2, .int v2), (3, .int v3), (4, .int v4), (5, .int v5)]) (hP : va_P E.1 vwCl (wd E L st) H) (hS : va_S (fA E L s.heap.size) s.heap H locs) : W p l e rmX2_choose s m args below meth c H locs 0 0 (MQ below (zI E L Q (fA E L s.heap.size)) args s rmX2_choose.cells rmX2_choose.slots (fA E L s.heap.size)) (F0 m 64 ls []) := by
  unfold wX2_choose_L64 at h
  obtain ⟨x5, ex5⟩ : ∃ z, z = v5 + 1 := ⟨_, rfl⟩
  have h := h x5 ex5
  refine lv_iinc C.1 C.2.1 dX2_choose_64 hl (k := 5) rfl ex5.symm (Nat.le_of_ble_eq_true rfl) rfl (fun ls hl => ?_)
  have hl : lv_has ls 7 [(5, .int x5), (0, .ref (E.2.1 b)), (1, va_re E.2.2.1 v1), (2, .int v2), (3, .int v3), (4, .int v4)] := hl
  refine lv_goto C.1 C.2.1 (tgt := 8) dX2_choose_67 (by decide) ?_
  exact hR8 v1 v2 v3 v4 x5 st _ _ _ h (lv_sub hl [1, 2, 3, 4, 5, 0] rfl) hP hS
set_option maxHeartbeats 4000000 in
set_option maxRecDepth 100000 in
theorem tX2_choose_L57 {l : Launch} {p : Program} {e : Env} {s : State} {m : MethodId} {args : Array Value} {below : List Frame} {meth : Method} {c : Code} {E : En0} {L : List Nat} (hL : Cov 0 54 L) (C : Cx E L "PlankBridge$Bridge" cX2_choose 7 p s m args c) (hr : meth.sig.returnType = (some .int)) (hlk : meth.locks = false) {b : Nat} {p1 : Option Nat} {p2 : Int32} {Q : Int32 → St → Prop} (hb : kd b = 2) {R8 : (Option Nat) × Int32 × Int32 × Int32 × Int32 × St → Prop} (hR8 : ∀ (v1 : Option Nat) (v2 : Int32) (v3 : Int32) (v4 : Int32) (v5 : Int32) (st : St), ∀ (H : Heap) (locs : List Loc) (ls : Array Slot), R8 (v1, v2, v3, v4, v5, st) → lv_has ls 7 [(0, .ref (E.2.1 b)), (1, va_re E.2.2.1 v1), (2, .int v2), (3, .int v3), (4, .int v4), (5, .int v5)] → va_P E.1 vwCl (wd E L st) H → va_S (fA E L s.heap.size) s.heap H locs → W p l e rmX2_choose s m args below meth c H locs 0 0 (MQ below (zI E L Q (fA E L s.heap.size)) args s rmX2_choose.cells rmX2_choose.slots (fA E L s.heap.size)) (F0 m 8 ls [])) {v1 : Option Nat} {v2 : Int32} {v5 : Int32} {v6 : Int32}  {st : St} (H : Heap) (locs : List Loc) (ls : Array Slot) (h : wX2_choose_L57 b p1 p2 R8 v1 v2 v5 v6 st Q) (hl : lv_has ls 7 [(0, .ref (E.2.1 b)), (1, va_re E.2.2.1 v1), (2, .int v2), (5, .int v5), (6, .int v6)]) (hP : va_P E.1 vwCl (wd E L st) H) (hS : va_S (fA E L s.heap.size) s.heap H locs) : W p l e rmX2_choose s m args below meth c H locs 0 0 (MQ below (zI E L Q (fA E L s.heap.size)) args s rmX2_choose.cells rmX2_choose.slots (fA E L s.heap.size)) (F0 m 57 ls []) := by
  unfold wX2_choose_L57 at h
  refine lv_iload C.1 C.2.1 dX2_choose_57 (lv_at hl 3 rfl) ?_
  refine lv_istore_n C.1 C.2.1 dX2_choose_59 rfl hl (Nat.le_of_ble_eq_true rfl) rfl (fun ls hl => ?_)
  have hl : lv_has ls 7 [(3, .int v5), (0, .ref (E.2.1 b)), (1, va_re E.2.2.1 v1), (2, .int v2), (5, .int v5), (6, .int v6)] := hl
  refine lv_iload C.1 C.2.1 dX2_choose_60 (lv_at hl 5 rfl) ?_
  refine lv_istore C.1 C.2.1 dX2_choose_62 hl (Nat.le_of_ble_eq_true rfl) rfl (fun ls hl => ?_)
  have hl : lv_has ls 7 [(4, .int v6), (3, .int v5), (0, .ref (E.2.1 b)), (1, va_re E.2.2.1 v1), (2, .int v2), (5, .int v5), (6, .int v6)] := hl
  exact tX2_choose_L64 hL C hr hlk hb hR8 _ _ _ h (lv_sub hl [2, 3, 4, 1, 0, 5] rfl) hP hS
set_option maxHeartbeats 4000000 in
set_option maxRecDepth 100000 in
theorem tX2_choose_L8 {l : Launch} {p : Program} {e : Env} {s : State} {m : MethodId} {args : Array Value} {below : List Frame} {meth : Method} {c : Code} {E : En0} {L : List Nat} (hL : Cov 0 54 L) (C : Cx E L "PlankBridge$Bridge" cX2_choose 7 p s m args c) (hr : meth.sig.returnType = (some .int)) (hlk : meth.locks = false) {b : Nat} {p1 : Option Nat} {p2 : Int32} {Q : Int32 → St → Prop} (hb : kd b = 2) : ∀ (n : Nat) (v1 : Option Nat) (v2 : Int32) (v3 : Int32) (v4 : Int32) (v5 : Int32) (st : St) (H : Heap) (locs : List Loc) (ls : Array Slot), lp (fun R s => wX2_choose_L8 b p1 p2 R s.1 s.2.1 s.2.2.1 s.2.2.2.1 s.2.2.2.2.1 s.2.2.2.2.2 Q) n (v1, v2, v3, v4, v5, st) → lv_has ls 7 [(0, .ref (E.2.1 b)), (1, va_re E.2.2.1 v1), (2, .int v2), (3, .int v3), (4, .int v4), (5, .int v5)] → va_P E.1 vwCl (wd E L st) H → va_S (fA E L s.heap.size) s.heap H locs → W p l e rmX2_choose s m args below meth c H locs 0 0 (MQ below (zI E L Q (fA E L s.heap.size)) args s rmX2_choose.cells rmX2_choose.slots (fA E L s.heap.size)) (F0 m 8 ls []) := by
  intro n
  induction n with
  | zero => exact fun _ _ _ _ _ _ _ _ _ h _ _ _ => False.elim ‹_›
  | succ n ih =>
    intro v1 v2 v3 v4 v5 st  H locs ls h hl hP hS
    have hR8 := ih
    replace h : wX2_choose_L8 b p1 p2 (lp (fun R s => wX2_choose_L8 b p1 p2 R s.1 s.2.1 s.2.2.1 s.2.2.2.1 s.2.2.2.2.1 s.2.2.2.2.2 Q) n) v1 v2 v3 v4 v5 st Q := h
    unfold wX2_choose_L8 at h
    refine lv_iload C.1 C.2.1 dX2_choose_8 (lv_at hl 5 rfl) ?_
    refine lv_aload_n C.1 C.2.1 dX2_choose_10 rfl (lv_at hl 0 rfl) ?_
    refine gf2_0 C hP hb (m2 hb hL) q289 dX2_choose_11 ?_
    refine lv_icmp_ge C.1 C.2.1 (tgt := 70) dX2_choose_14 (by decide) (fun hc => ?_) (fun hc => ?_)
    · have h := h.1 hc
      refine lv_iload_n C.1 C.2.1 dX2_choose_70 rfl (lv_at hl 3 rfl) ?_
      exact z_ri C hr hlk rfl hP hS h dX2_choose_71
    · have h := h.2 hc
      refine lv_iload C.1 C.2.1 dX2_choose_17 (lv_at hl 5 rfl) ?_
      refine lv_iload_n C.1 C.2.1 dX2_choose_19 rfl (lv_at hl 2 rfl) ?_
      refine lv_icmp_eq C.1 C.2.1 (tgt := 64) dX2_choose_20 (by decide) (fun hc => ?_) (fun hc => ?_)
      · have h := h.1 hc
        exact tX2_choose_L64 hL C hr hlk hb hR8 _ _ _ h hl hP hS
      · have h := h.2 hc
        refine lv_aload_n C.1 C.2.1 dX2_choose_23 rfl (lv_at hl 0 rfl) ?_
        refine lv_iload C.1 C.2.1 dX2_choose_24 (lv_at hl 5 rfl) ?_
        refine z_ki hS (z_runV (As := [.int v5]) (rest := []) C hP hS (m2 hb hL) (e2 hb) rfl (tX2_standsNear C.2.2.2.2.2.2.1 (hL.mo (Nat.le_of_ble_eq_true rfl) (Nat.le_of_ble_eq_true rfl)) hb h) q1059 q833 q834 q112 q835 hdX2_standsNear ⟨Nat.le_of_ble_eq_true rfl, Nat.le_of_ble_eq_true rfl⟩ ⟨Nat.zero_le _, Nat.zero_le _⟩ rfl hl.1 rfl (lv_room (Nat.le_of_ble_eq_true rfl)) dX2_choose_26) (fun r2 st1 H locs h hP hS => ?_)
        obtain ⟨hr2, h⟩ := h
        refine lv_aload_n C.1 C.2.1 dX2_choose_29 rfl (lv_at hl 0 rfl) ?_
        refine gf2_7 C hP hb (m2 hb hL) q305 dX2_choose_30 ?_
        refine lv_icmp_ne C.1 C.2.1 (tgt := 64) dX2_choose_33 (by decide) (fun hc => ?_) (fun hc => ?_)
        · have h := h.1 hc
          exact tX2_choose_L64 hL C hr hlk hb hR8 _ _ _ h hl hP hS
        · have h := h.2 hc
          refine lv_aload_n C.1 C.2.1 dX2_choose_36 rfl (lv_at hl 0 rfl) ?_
          refine z_aloadE_n C.1 C.2.1 dX2_choose_37 rfl (lv_at hl 1 rfl) ?_
          refine lv_iload C.1 C.2.1 dX2_choose_38 (lv_at hl 5 rfl) ?_
          refine z_ki hS (z_runV (As := [va_re E.2.2.1 v1, .int v5]) (rest := []) C hP hS (m2 hb hL) (e2 hb) rfl (tX2_rankOf C.2.2.2.2.2.2.1 (hL.mo (Nat.le_of_ble_eq_true rfl) (Nat.le_of_ble_eq_true rfl)) hb h) q1168 q1170 q32 q112 q1171 hdX2_rankOf ⟨Nat.le_of_ble_eq_true rfl, Nat.le_of_ble_eq_true rfl⟩ ⟨Nat.zero_le _, Nat.zero_le _⟩ rfl hl.1 rfl (lv_room (Nat.le_of_ble_eq_true rfl)) dX2_choose_40) (fun r4 st3 H locs h hP hS => ?_)
          refine lv_istore C.1 C.2.1 dX2_choose_43 hl (Nat.le_of_ble_eq_true rfl) rfl (fun ls hl => ?_)
          have hl : lv_has ls 7 [(6, .int r4), (0, .ref (E.2.1 b)), (1, va_re E.2.2.1 v1), (2, .int v2), (3, .int v3), (4, .int v4), (5, .int v5)] := hl
          refine lv_iload_n C.1 C.2.1 dX2_choose_45 rfl (lv_at hl 4 rfl) ?_
          refine lv_iconst C.1 C.2.1 (v := (-1)) dX2_choose_46 rfl ?_
          refine lv_icmp_eq C.1 C.2.1 (tgt := 57) dX2_choose_47 (by decide) (fun hc => ?_) (fun hc => ?_)
          · have h := h.1 hc
            exact tX2_choose_L57 hL C hr hlk hb hR8 _ _ _ h (lv_sub hl [1, 2, 3, 6, 0] rfl) hP hS
          · have h := h.2 hc
            refine lv_iload C.1 C.2.1 dX2_choose_50 (lv_at hl 0 rfl) ?_
            refine lv_iload C.1 C.2.1 dX2_choose_52 (lv_at hl 5 rfl) ?_
            refine lv_icmp_le C.1 C.2.1 (tgt := 64) dX2_choose_54 (by decide) (fun hc => ?_) (fun hc => ?_)
            · have h := h.1 hc
              exact tX2_choose_L64 hL C hr hlk hb hR8 _ _ _ h (lv_sub hl [1, 2, 3, 4, 5, 6] rfl) hP hS
            · have h := h.2 hc
              exact tX2_choose_L57 hL C hr hlk hb hR8 _ _ _ h (lv_sub hl [1, 2, 3, 6, 0] rfl) hP hS
set_option maxHeartbeats 4000000 in
set_option maxRecDepth 100000 in
theorem tX2_choose {l : Launch} {E : En0} {L : List Nat} (hE : EK E L) (hL : Cov 0 54 L) {b : Nat} {p1 : Option Nat} {p2 : Int32} {st : St} {Q : Int32 → St → Prop} (hb : kd b = 2) (h : wX2_choose b p1 p2 st Q) : Mz l yX2_choose cX2_choose 7 (some .int) rmX2_choose E L [.ref (E.2.1 b), va_re E.2.2.1 p1, .int p2] st (zI E L Q) := by
  refine Mz.of hE (by decide) (by cases p1 <;> exact Nat.le_of_ble_eq_true rfl) ?_
  intro p e s m below meth c ls C hr hlk _ hl hP
  replace C : Cx E L "PlankBridge$Bridge" cX2_choose 7 p s m _ c := C
  have hS : va_S (fA E L s.heap.size) s.heap s.heap [] := va_S.rf
  replace hl : lv_has ls 7 [(0, .ref (E.2.1 b)), (1, va_re E.2.2.1 p1), (2, .int p2)] := (by cases p1 <;> exact hl)
  unfold wX2_choose at h
  refine lv_iconst C.1 C.2.1 (v := (-1)) dX2_choose_0 rfl ?_
  refine lv_istore_n C.1 C.2.1 dX2_choose_1 rfl hl (Nat.le_of_ble_eq_true rfl) rfl (fun ls hl => ?_)
  have hl : lv_has ls 7 [(3, .int (-1)), (0, .ref (E.2.1 b)), (1, va_re E.2.2.1 p1), (2, .int p2)] := hl
  refine lv_iconst C.1 C.2.1 (v := 0) dX2_choose_2 rfl ?_
  refine lv_istore C.1 C.2.1 dX2_choose_3 hl (Nat.le_of_ble_eq_true rfl) rfl (fun ls hl => ?_)
  have hl : lv_has ls 7 [(4, .int 0), (3, .int (-1)), (0, .ref (E.2.1 b)), (1, va_re E.2.2.1 p1), (2, .int p2)] := hl
  refine lv_iconst C.1 C.2.1 (v := 0) dX2_choose_5 rfl ?_
  refine lv_istore C.1 C.2.1 dX2_choose_6 hl (Nat.le_of_ble_eq_true rfl) rfl (fun ls hl => ?_)
  have hl : lv_has ls 7 [(5, .int 0), (4, .int 0), (3, .int (-1)), (0, .ref (E.2.1 b)), (1, va_re E.2.2.1 p1), (2, .int p2)] := hl
  obtain ⟨n, h⟩ := h
  exact tX2_choose_L8 hL C hr hlk hb n p1 p2 (-1) 0 0 st _ _ _ h (lv_sub hl [3, 4, 5, 2, 1, 0] rfl) hP hS
def rmX2_measure : Room := { frames := 2, cells := 0, slots := 0, locals := 40 }
def wX2_measure (b : Nat) (p1 : Option Nat) (st : St) (Q : Int32 → St → Prop) : Prop :=
  (∃ k2, p1 = some k2 ∧ k2 < 37 ∧ (vp_in (Int32.ofNat k2) 37 ∧ ((((kSw (Int32.ofNat k2 : Int32).toNatClampNeg : Int32).toInt < 11 ∨ 16 < (kSw (Int32.ofNat k2 : Int32).toNatClampNeg : Int32).toInt) → (wX2_findWeakest b 1 st (fun r5 st4 => ((¬ r5 = (-1) → (vp_in r5 12 ∧ Q (gI st4 (b + 3) (r5 : Int32).toNatClampNeg) st4)) ∧ (r5 = (-1) → Q 0 st4))))) ∧ (((kSw (Int32.ofNat k2 : Int32).toNatClampNeg) = 11 → (wX2_countNear b st (fun r7 st6 => Q r7 st6))) ∧ ((kSw (Int32.ofNat k2 : Int32).toNatClampNeg) = 12 → (wX2_countFar b st (fun r9 st8 => Q r9 st8))) ∧ ((kSw (Int32.ofNat k2 : Int32).toNatClampNeg) = 13 → Q (gI st b 8) st) ∧ ((kSw (Int32.ofNat k2 : Int32).toNatClampNeg) = 14 → Q (gI st b 10) st) ∧ ((kSw (Int32.ofNat k2 : Int32).toNatClampNeg) = 15 → Q (gI st b 9) st) ∧ ((kSw (Int32.ofNat k2 : Int32).toNatClampNeg) = 16 → (wX2_countMissing b st (fun r11 st10 => Q r11 st10)))))))
theorem hdX2_measure : yX2_measure.cls = "PlankBridge$Bridge" ∧ yX2_measure.cls ≠ "java/lang/invoke/MethodHandle" ∧ yX2_measure.cls ≠ "java/lang/invoke/VarHandle" ∧ (parseMethodDescriptor yX2_measure.desc).map (fun d => d.parameters.length) = some 1 := by decide +kernel
set_option maxHeartbeats 4000000 in
set_option maxRecDepth 100000 in
theorem tX2_measure {l : Launch} {E : En0} {L : List Nat} (hE : EK E L) (hL : Cov 0 54 L) {b : Nat} {p1 : Option Nat} {st : St} {Q : Int32 → St → Prop} (hb : kd b = 2) (h : wX2_measure b p1 st Q) : Mz l yX2_measure cX2_measure 3 (some .int) rmX2_measure E L [.ref (E.2.1 b), va_re E.2.2.1 p1] st (zI E L Q) := by
  refine Mz.of hE (by decide) (by cases p1 <;> exact Nat.le_of_ble_eq_true rfl) ?_
  intro p e s m below meth c ls C hr hlk _ hl hP
  replace C : Cx E L "PlankBridge$Bridge" cX2_measure 3 p s m _ c := C
  have hS : va_S (fA E L s.heap.size) s.heap s.heap [] := va_S.rf
  replace hl : lv_has ls 3 [(0, .ref (E.2.1 b)), (1, va_re E.2.2.1 p1)] := (by cases p1 <;> exact hl)
  unfold wX2_measure at h
  refine z_sw C hS q1172 dX2_measure_0 (fun t1 ht1 => ?_)
  refine z_aloadE_n C.1 C.2.1 dX2_measure_3 rfl (lv_at hl 1 rfl) ?_
  obtain ⟨k2, ek2, lk2, h⟩ := h
  refine z_ordE C hP hS ek2 lk2 q1173 ⟨Nat.le_of_ble_eq_true rfl, Nat.le_of_ble_eq_true rfl⟩ ⟨Nat.zero_le _, Nat.zero_le _⟩ hl.1 (lv_room (Nat.le_of_ble_eq_true rfl)) dX2_measure_4 (fun H locs hP hS => ?_)
  obtain ⟨hi3, h⟩ := h
  refine va_ti C.1 C.2.1 ht1 hS hi3 rfl dX2_measure_7 ?_
  rcases Classical.em ((kSw (Int32.ofNat k2 : Int32).toNatClampNeg : Int32).toInt < 11 ∨ 16 < (kSw (Int32.ofNat k2 : Int32).toNatClampNeg : Int32).toInt) with hx | hx
  · have h := h.1 hx
    refine lv_tableOut C.1 C.2.1 (tgt := 78) dX2_measure_8 hx (by decide) ?_
    refine lv_aload_n C.1 C.2.1 dX2_measure_78 rfl (lv_at hl 0 rfl) ?_
    refine lv_iconst C.1 C.2.1 (v := 1) dX2_measure_79 rfl ?_
    refine z_ki hS (z_runV (As := [.int 1]) (rest := []) C hP hS (m2 hb hL) (e2 hb) rfl (tX2_findWeakest C.2.2.2.2.2.2.1 (hL.mo (Nat.le_of_ble_eq_true rfl) (Nat.le_of_ble_eq_true rfl)) hb h) q1087 q1032 q1033 q112 q1034 hdX2_findWeakest ⟨Nat.le_of_ble_eq_true rfl, Nat.le_of_ble_eq_true rfl⟩ ⟨Nat.zero_le _, Nat.zero_le _⟩ rfl hl.1 rfl (lv_room (Nat.le_of_ble_eq_true rfl)) dX2_measure_80) (fun r5 st4 H locs h hP hS => ?_)
    refine lv_istore_n C.1 C.2.1 dX2_measure_83 rfl hl (Nat.le_of_ble_eq_true rfl) rfl (fun ls hl => ?_)
    have hl : lv_has ls 3 [(2, .int r5), (0, .ref (E.2.1 b)), (1, va_re E.2.2.1 p1)] := (by cases p1 <;> exact hl)
    refine lv_iload_n C.1 C.2.1 dX2_measure_84 rfl (lv_at hl 0 rfl) ?_
    refine lv_iconst C.1 C.2.1 (v := (-1)) dX2_measure_85 rfl ?_
    refine lv_icmp_ne C.1 C.2.1 (tgt := 93) dX2_measure_86 (by decide) (fun hc => ?_) (fun hc => ?_)
    · have h := h.1 hc
      refine lv_aload_n C.1 C.2.1 dX2_measure_93 rfl (lv_at hl 1 rfl) ?_
      refine gf2_5 C hP hb (m2 hb hL) q301 dX2_measure_94 ?_
      refine lv_iload_n C.1 C.2.1 dX2_measure_97 rfl (lv_at hl 0 rfl) ?_
      obtain ⟨hi, h⟩ := h
      refine z_iald C hP (k2_3 hb) (l2_3 hb) (m2_3 hb hL) hi dX2_measure_98 ?_
      exact z_ri C hr hlk rfl hP hS h dX2_measure_99
    · have h := h.2 hc
      refine lv_iconst C.1 C.2.1 (v := 0) dX2_measure_89 rfl ?_
      refine lv_goto C.1 C.2.1 (tgt := 99) dX2_measure_90 (by decide) ?_
      exact z_ri C hr hlk rfl hP hS h dX2_measure_99
  · have h := h.2
    have hx : (kSw (Int32.ofNat k2 : Int32).toNatClampNeg : Int32).toInt = 11 ∨ (kSw (Int32.ofNat k2 : Int32).toNatClampNeg : Int32).toInt = 12 ∨ (kSw (Int32.ofNat k2 : Int32).toNatClampNeg : Int32).toInt = 13 ∨ (kSw (Int32.ofNat k2 : Int32).toNatClampNeg : Int32).toInt = 14 ∨ (kSw (Int32.ofNat k2 : Int32).toNatClampNeg : Int32).toInt = 15 ∨ (kSw (Int32.ofNat k2 : Int32).toNatClampNeg : Int32).toInt = 16 := by omega
    rcases hx with hx | hx | hx | hx | hx | hx
    · have h := h.1 (i32_eq (hx.trans (by decide)))
      refine lv_tableIn C.1 C.2.1 (off := 40) (tgt := 48) dX2_measure_8 (by omega) (by omega) (by rw [hx]; rfl) (by decide) ?_
      refine lv_aload_n C.1 C.2.1 dX2_measure_48 rfl (lv_at hl 0 rfl) ?_
      refine z_ki hS (z_runV (As := []) (rest := []) C hP hS (m2 hb hL) (e2 hb) rfl (tX2_countNear C.2.2.2.2.2.2.1 (hL.mo (Nat.le_of_ble_eq_true rfl) (Nat.le_of_ble_eq_true rfl)) hb h) q1186 q713 q714 q112 q715 hdX2_countNear ⟨Nat.le_of_ble_eq_true rfl, Nat.le_of_ble_eq_true rfl⟩ ⟨Nat.zero_le _, Nat.zero_le _⟩ rfl hl.1 rfl (lv_room (Nat.le_of_ble_eq_true rfl)) dX2_measure_49) (fun r7 st6 H locs h hP hS => ?_)
      exact z_ri C hr hlk rfl hP hS h dX2_measure_52
    · have h := h.2.1 (i32_eq (hx.trans (by decide)))
      refine lv_tableIn C.1 C.2.1 (off := 45) (tgt := 53) dX2_measure_8 (by omega) (by omega) (by rw [hx]; rfl) (by decide) ?_
      refine lv_aload_n C.1 C.2.1 dX2_measure_53 rfl (lv_at hl 0 rfl) ?_
      refine z_ki hS (z_runV (As := []) (rest := []) C hP hS (m2 hb hL) (e2 hb) rfl (tX2_countFar C.2.2.2.2.2.2.1 (hL.mo (Nat.le_of_ble_eq_true rfl) (Nat.le_of_ble_eq_true rfl)) hb h) q1187 q1188 q1189 q112 q1190 hdX2_countFar ⟨Nat.le_of_ble_eq_true rfl, Nat.le_of_ble_eq_true rfl⟩ ⟨Nat.zero_le _, Nat.zero_le _⟩ rfl hl.1 rfl (lv_room (Nat.le_of_ble_eq_true rfl)) dX2_measure_54) (fun r9 st8 H locs h hP hS => ?_)
      exact z_ri C hr hlk rfl hP hS h dX2_measure_57
    · have h := h.2.2.1 (i32_eq (hx.trans (by decide)))
      refine lv_tableIn C.1 C.2.1 (off := 50) (tgt := 58) dX2_measure_8 (by omega) (by omega) (by rw [hx]; rfl) (by decide) ?_
      refine lv_aload_n C.1 C.2.1 dX2_measure_58 rfl (lv_at hl 0 rfl) ?_
      refine gf2_8 C hP hb (m2 hb hL) q308 dX2_measure_59 ?_
      exact z_ri C hr hlk rfl hP hS h dX2_measure_62
    · have h := h.2.2.2.1 (i32_eq (hx.trans (by decide)))
      refine lv_tableIn C.1 C.2.1 (off := 55) (tgt := 63) dX2_measure_8 (by omega) (by omega) (by rw [hx]; rfl) (by decide) ?_
      refine lv_aload_n C.1 C.2.1 dX2_measure_63 rfl (lv_at hl 0 rfl) ?_
      refine gf2_10 C hP hb (m2 hb hL) q312 dX2_measure_64 ?_
      exact z_ri C hr hlk rfl hP hS h dX2_measure_67
    · have h := h.2.2.2.2.1 (i32_eq (hx.trans (by decide)))
      refine lv_tableIn C.1 C.2.1 (off := 60) (tgt := 68) dX2_measure_8 (by omega) (by omega) (by rw [hx]; rfl) (by decide) ?_
      refine lv_aload_n C.1 C.2.1 dX2_measure_68 rfl (lv_at hl 0 rfl) ?_
      refine gf2_9 C hP hb (m2 hb hL) q310 dX2_measure_69 ?_
      exact z_ri C hr hlk rfl hP hS h dX2_measure_72
    · have h := h.2.2.2.2.2 (i32_eq (hx.trans (by decide)))
      refine lv_tableIn C.1 C.2.1 (off := 65) (tgt := 73) dX2_measure_8 (by omega) (by omega) (by rw [hx]; rfl) (by decide) ?_
      refine lv_aload_n C.1 C.2.1 dX2_measure_73 rfl (lv_at hl 0 rfl) ?_
      refine z_ki hS (z_runV (As := []) (rest := []) C hP hS (m2 hb hL) (e2 hb) rfl (tX2_countMissing C.2.2.2.2.2.2.1 (hL.mo (Nat.le_of_ble_eq_true rfl) (Nat.le_of_ble_eq_true rfl)) hb h) q1191 q727 q728 q112 q729 hdX2_countMissing ⟨Nat.le_of_ble_eq_true rfl, Nat.le_of_ble_eq_true rfl⟩ ⟨Nat.zero_le _, Nat.zero_le _⟩ rfl hl.1 rfl (lv_room (Nat.le_of_ble_eq_true rfl)) dX2_measure_74) (fun r11 st10 H locs h hP hS => ?_)
      exact z_ri C hr hlk rfl hP hS h dX2_measure_77
def rmX5_whoAt : Room := { frames := 3, cells := 0, slots := 0, locals := 69 }
def wX5_whoAt (b : Nat) (p1 : Int32) (p2 : Int32) (st : St) (Q : Int32 → St → Prop) : Prop :=
  (kd (gR st b 0) = 1 ∧ ∀ c1, c1 = gR st b 0 → (wX7_kindAt (c1 + 12) p1 st (fun r3 st2 => ((¬ r3 = ((some 2)) → (kd (gR st2 b 1) = 2 ∧ ∀ c4, c4 = gR st2 b 1 → (wX2_choose c4 r3 p2 st2 (fun r6 st5 => Q r6 st5)))) ∧ (r3 = ((some 2)) → (kd (gR st2 b 0) = 1 ∧ ∀ c7, c7 = gR st2 b 0 → (wX7_numberAt (c7 + 12) p1 st2 (fun r9 st8 => Q r9 st8))))))))
theorem hdX5_whoAt : yX5_whoAt.cls = "PlankBridge$Run" ∧ yX5_whoAt.cls ≠ "java/lang/invoke/MethodHandle" ∧ yX5_whoAt.cls ≠ "java/lang/invoke/VarHandle" ∧ (parseMethodDescriptor yX5_whoAt.desc).map (fun d => d.parameters.length) = some 2 := by decide +kernel
set_option maxHeartbeats 4000000 in
set_option maxRecDepth 100000 in
theorem tX5_whoAt {l : Launch} {E : En0} {L : List Nat} (hE : EK E L) (hL : Cov 0 54 L) {b : Nat} {p1 : Int32} {p2 : Int32} {st : St} {Q : Int32 → St → Prop} (hb : kd b = 4) (h : wX5_whoAt b p1 p2 st Q) : Mz l yX5_whoAt cX5_whoAt 4 (some .int) rmX5_whoAt E L [.ref (E.2.1 b), .int p1, .int p2] st (zI E L Q) := by
  refine Mz.of hE (by decide) (Nat.le_of_ble_eq_true rfl) ?_
  intro p e s m below meth c ls C hr hlk _ hl hP
  replace C : Cx E L "PlankBridge$Run" cX5_whoAt 4 p s m _ c := C
  have hS : va_S (fA E L s.heap.size) s.heap s.heap [] := va_S.rf
  replace hl : lv_has ls 4 [(0, .ref (E.2.1 b)), (1, .int p1), (2, .int p2)] := hl
  unfold wX5_whoAt at h
  refine lv_aload_n C.1 C.2.1 dX5_whoAt_0 rfl (lv_at hl 0 rfl) ?_
  refine gf4_0 C hP hb (m4 hb hL) q359 dX5_whoAt_1 ?_
  obtain ⟨hc1, h⟩ := h
  obtain ⟨c1, ec1⟩ : ∃ z, z = gR st b 0 := ⟨_, rfl⟩
  rw [← ec1]; rw [← ec1] at hc1; have h := h c1 ec1
  refine gn1_0 C hP hc1 (m1 hc1 hL) q191 dX5_whoAt_4 ?_
  refine lv_iload_n C.1 C.2.1 dX5_whoAt_7 rfl (lv_at hl 1 rfl) ?_
  refine z_ke hS (z_runV (As := [.int p1]) (rest := []) C hP hS (m1_12 hc1 hL) (e6 (k1_12 hc1)) rfl (tX7_kindAt C.2.2.2.2.2.2.1 (hL.mo (Nat.le_of_ble_eq_true rfl) (Nat.le_of_ble_eq_true rfl)) (k1_12 hc1) h) q1152 q493 q494 q108 q495 hdX7_kindAt ⟨Nat.le_of_ble_eq_true rfl, Nat.le_of_ble_eq_true rfl⟩ ⟨Nat.zero_le _, Nat.zero_le _⟩ rfl hl.1 rfl (lv_room (Nat.le_of_ble_eq_true rfl)) dX5_whoAt_8) (fun r3 st2 H locs h hP hS => ?_)
  obtain ⟨hr3, h⟩ := h
  refine z_astoreE_n C.1 C.2.1 dX5_whoAt_11 rfl hl (Nat.le_of_ble_eq_true rfl) rfl (fun ls hl => ?_)
  have hl : lv_has ls 4 [(3, va_re E.2.2.1 r3), (0, .ref (E.2.1 b)), (1, .int p1), (2, .int p2)] := hl
  refine z_aloadE_n C.1 C.2.1 dX5_whoAt_12 rfl (lv_at hl 0 rfl) ?_
  refine z_kst C hS (i := 2) (by decide) rfl q1162 dX5_whoAt_13 ?_
  refine z_acmp_ne C hr3 (kin_l (by decide)) (tgt := 33) dX5_whoAt_16 (by decide) (fun hc => ?_) (fun hc => ?_)
  · have h := h.1 hc
    refine lv_aload_n C.1 C.2.1 dX5_whoAt_33 rfl (lv_at hl 1 rfl) ?_
    refine gf4_1 C hP hb (m4 hb hL) q360 dX5_whoAt_34 ?_
    obtain ⟨hc4, h⟩ := h
    obtain ⟨c4, ec4⟩ : ∃ z, z = gR st2 b 1 := ⟨_, rfl⟩
    rw [← ec4]; rw [← ec4] at hc4; have h := h c4 ec4
    refine z_aloadE_n C.1 C.2.1 dX5_whoAt_37 rfl (lv_at hl 0 rfl) ?_
    refine lv_iload_n C.1 C.2.1 dX5_whoAt_38 rfl (lv_at hl 3 rfl) ?_
    refine z_ki hS (z_runV (As := [va_re E.2.2.1 r3, .int p2]) (rest := []) C hP hS (m2 hc4 hL) (e2 hc4) rfl (tX2_choose C.2.2.2.2.2.2.1 (hL.mo (Nat.le_of_ble_eq_true rfl) (Nat.le_of_ble_eq_true rfl)) hc4 h) q1164 q1165 q1166 q112 q1167 hdX2_choose ⟨Nat.le_of_ble_eq_true rfl, Nat.le_of_ble_eq_true rfl⟩ ⟨Nat.zero_le _, Nat.zero_le _⟩ rfl hl.1 rfl (lv_room (Nat.le_of_ble_eq_true rfl)) dX5_whoAt_39) (fun r6 st5 H locs h hP hS => ?_)
    exact z_ri C hr hlk rfl hP hS h dX5_whoAt_42
  · have h := h.2 hc
    refine lv_aload_n C.1 C.2.1 dX5_whoAt_19 rfl (lv_at hl 1 rfl) ?_
    refine gf4_0 C hP hb (m4 hb hL) q359 dX5_whoAt_20 ?_
    obtain ⟨hc7, h⟩ := h
    obtain ⟨c7, ec7⟩ : ∃ z, z = gR st2 b 0 := ⟨_, rfl⟩
    rw [← ec7]; rw [← ec7] at hc7; have h := h c7 ec7
    refine gn1_0 C hP hc7 (m1 hc7 hL) q191 dX5_whoAt_23 ?_
    refine lv_iload_n C.1 C.2.1 dX5_whoAt_26 rfl (lv_at hl 2 rfl) ?_
    refine z_ki hS (z_runV (As := [.int p1]) (rest := []) C hP hS (m1_12 hc7 hL) (e6 (k1_12 hc7)) rfl (tX7_numberAt C.2.2.2.2.2.2.1 (hL.mo (Nat.le_of_ble_eq_true rfl) (Nat.le_of_ble_eq_true rfl)) (k1_12 hc7) h) q1163 q538 q539 q108 q540 hdX7_numberAt ⟨Nat.le_of_ble_eq_true rfl, Nat.le_of_ble_eq_true rfl⟩ ⟨Nat.zero_le _, Nat.zero_le _⟩ rfl hl.1 rfl (lv_room (Nat.le_of_ble_eq_true rfl)) dX5_whoAt_27) (fun r9 st8 H locs h hP hS => ?_)
    refine lv_goto C.1 C.2.1 (tgt := 42) dX5_whoAt_30 (by decide) ?_
    exact z_ri C hr hlk rfl hP hS h dX5_whoAt_42
def rmX5_send : Room := { frames := 4, cells := 0, slots := 0, locals := 92 }
def wX5_send_L51 (b : Nat) (p1 : Int32)  (v2 : Int32) (v3 : Int32) (st : St) (Q : Int32 → St → Prop) : Prop :=
  ((v2 = (-1) → Q 0 st) ∧ (¬ v2 = (-1) → (kd (gR st b 1) = 2 ∧ ∀ c8, c8 = gR st b 1 → (wX2_canGo c8 v2 v3 st (fun r10 st9 => ((¬ r10 = 0 → (kd (gR st9 b 1) = 2 ∧ ∀ c11, c11 = gR st9 b 1 → (wX2_go c11 v2 v3 st9 (fun r13 st12 => Q 1 st12)))) ∧ (r10 = 0 → Q 0 st9)))))))
def wX5_send (b : Nat) (p1 : Int32) (st : St) (Q : Int32 → St → Prop) : Prop :=
  (wX5_whoAt b (p1 + 1) (-1) st (fun r2 st1 => (kd (gR st1 b 0) = 1 ∧ ∀ c3, c3 = gR st1 b 0 → (wX7_kindAt (c3 + 12) (p1 + 2) st1 (fun r5 st4 => ((¬ r5 = ((some 17)) → wX5_send_L51 b p1 r2 (-1) st4 Q) ∧ (r5 = ((some 17)) → (wX5_whoAt b (p1 + 3) r2 st4 (fun r7 st6 => ((r7 = (-1) → Q 0 st6) ∧ (¬ r7 = (-1) → ((¬ r7 = r2 → wX5_send_L51 b p1 r2 r7 st6 Q) ∧ (r7 = r2 → Q 0 st6)))))))))))))
theorem hdX5_send : yX5_send.cls = "PlankBridge$Run" ∧ yX5_send.cls ≠ "java/lang/invoke/MethodHandle" ∧ yX5_send.cls ≠ "java/lang/invoke/VarHandle" ∧ (parseMethodDescriptor yX5_send.desc).map (fun d => d.parameters.length) = some 1 := by decide +kernel
set_option maxHeartbeats 4000000 in
set_option maxRecDepth 100000 in
theorem tX5_send_L51 {l : Launch} {p : Program} {e : Env} {s : State} {m : MethodId} {args : Array Value} {below : List Frame} {meth : Method} {c : Code} {E : En0} {L : List Nat} (hL : Cov 0 54 L) (C : Cx E L "PlankBridge$Run" cX5_send 4 p s m args c) (hr : meth.sig.returnType = (some .boolean)) (hlk : meth.locks = false) {b : Nat} {p1 : Int32} {Q : Int32 → St → Prop} (hb : kd b = 4) {v2 : Int32} {v3 : Int32}  {st : St} (H : Heap) (locs : List Loc) (ls : Array Slot) (h : wX5_send_L51 b p1 v2 v3 st Q) (hl : lv_has ls 4 [(0, .ref (E.2.1 b)), (2, .int v2), (3, .int v3)]) (hP : va_P E.1 vwCl (wd E L st) H) (hS : va_S (fA E L s.heap.size) s.heap H locs) : W p l e rmX5_send s m args below meth c H locs 0 0 (MQ below (zI E L (fun r u => bz r ∧ Q r u) (fA E L s.heap.size)) args s rmX5_send.cells rmX5_send.slots (fA E L s.heap.size)) (F0 m 51 ls []) := by
  unfold wX5_send_L51 at h
  refine lv_iload_n C.1 C.2.1 dX5_send_51 rfl (lv_at hl 1 rfl) ?_
  refine lv_iconst C.1 C.2.1 (v := (-1)) dX5_send_52 rfl ?_
  refine lv_icmp_eq C.1 C.2.1 (tgt := 68) dX5_send_53 (by decide) (fun hc => ?_) (fun hc => ?_)
  · have h := h.1 hc
    refine lv_iconst C.1 C.2.1 (v := 0) dX5_send_68 rfl ?_
    exact z_ri C hr hlk (bz_n bz0) hP hS ⟨bz0, h⟩ dX5_send_69
  · have h := h.2 hc
    refine lv_aload_n C.1 C.2.1 dX5_send_56 rfl (lv_at hl 0 rfl) ?_
    refine gf4_1 C hP hb (m4 hb hL) q360 dX5_send_57 ?_
    obtain ⟨hc8, h⟩ := h
    obtain ⟨c8, ec8⟩ : ∃ z, z = gR st b 1 := ⟨_, rfl⟩
    rw [← ec8]; rw [← ec8] at hc8; have h := h c8 ec8
    refine lv_iload_n C.1 C.2.1 dX5_send_60 rfl (lv_at hl 1 rfl) ?_
    refine lv_iload_n C.1 C.2.1 dX5_send_61 rfl (lv_at hl 2 rfl) ?_
    refine z_ki hS (z_runV (As := [.int v2, .int v3]) (rest := []) C hP hS (m2 hc8 hL) (e2 hc8) rfl (tX2_canGo C.2.2.2.2.2.2.1 (hL.mo (Nat.le_of_ble_eq_true rfl) (Nat.le_of_ble_eq_true rfl)) hc8 h) q1175 q1055 q1056 q112 q1057 hdX2_canGo ⟨Nat.le_of_ble_eq_true rfl, Nat.le_of_ble_eq_true rfl⟩ ⟨Nat.zero_le _, Nat.zero_le _⟩ rfl hl.1 rfl (lv_room (Nat.le_of_ble_eq_true rfl)) dX5_send_62) (fun r10 st9 H locs h hP hS => ?_)
    obtain ⟨hr10, h⟩ := h
    refine lv_if_ne C.1 C.2.1 (tgt := 70) dX5_send_65 (by decide) (fun hc => ?_) (fun hc => ?_)
    · have h := h.1 hc
      refine lv_aload_n C.1 C.2.1 dX5_send_70 rfl (lv_at hl 0 rfl) ?_
      refine gf4_1 C hP hb (m4 hb hL) q360 dX5_send_71 ?_
      obtain ⟨hc11, h⟩ := h
      obtain ⟨c11, ec11⟩ : ∃ z, z = gR st9 b 1 := ⟨_, rfl⟩
      rw [← ec11]; rw [← ec11] at hc11; have h := h c11 ec11
      refine lv_iload_n C.1 C.2.1 dX5_send_74 rfl (lv_at hl 1 rfl) ?_
      refine lv_iload_n C.1 C.2.1 dX5_send_75 rfl (lv_at hl 2 rfl) ?_
      refine z_ki hS (z_runV (As := [.int v2, .int v3]) (rest := []) C hP hS (m2 hc11 hL) (e2 hc11) rfl (tX2_go C.2.2.2.2.2.2.1 (hL.mo (Nat.le_of_ble_eq_true rfl) (Nat.le_of_ble_eq_true rfl)) hc11 h) q1176 q1063 q1064 q112 q1065 hdX2_go ⟨Nat.le_of_ble_eq_true rfl, Nat.le_of_ble_eq_true rfl⟩ ⟨Nat.zero_le _, Nat.zero_le _⟩ rfl hl.1 rfl (lv_room (Nat.le_of_ble_eq_true rfl)) dX5_send_76) (fun r13 st12 H locs h hP hS => ?_)
      obtain ⟨hr13, h⟩ := h
      refine lv_pop C.1 C.2.1 dX5_send_79 rfl ?_
      refine lv_iconst C.1 C.2.1 (v := 1) dX5_send_80 rfl ?_
      exact z_ri C hr hlk (bz_n bz1) hP hS ⟨bz1, h⟩ dX5_send_81
    · have h := h.2 hc
      refine lv_iconst C.1 C.2.1 (v := 0) dX5_send_68 rfl ?_
      exact z_ri C hr hlk (bz_n bz0) hP hS ⟨bz0, h⟩ dX5_send_69
set_option maxHeartbeats 4000000 in
set_option maxRecDepth 100000 in
theorem tX5_send {l : Launch} {E : En0} {L : List Nat} (hE : EK E L) (hL : Cov 0 54 L) {b : Nat} {p1 : Int32} {st : St} {Q : Int32 → St → Prop} (hb : kd b = 4) (h : wX5_send b p1 st Q) : Mz l yX5_send cX5_send 4 (some .boolean) rmX5_send E L [.ref (E.2.1 b), .int p1] st (zI E L (fun r u => bz r ∧ Q r u)) := by
  refine Mz.of hE (by decide) (Nat.le_of_ble_eq_true rfl) ?_
  intro p e s m below meth c ls C hr hlk _ hl hP
  replace C : Cx E L "PlankBridge$Run" cX5_send 4 p s m _ c := C
  have hS : va_S (fA E L s.heap.size) s.heap s.heap [] := va_S.rf
  replace hl : lv_has ls 4 [(0, .ref (E.2.1 b)), (1, .int p1)] := hl
  unfold wX5_send at h
  refine lv_aload_n C.1 C.2.1 dX5_send_0 rfl (lv_at hl 0 rfl) ?_
  refine lv_iload_n C.1 C.2.1 dX5_send_1 rfl (lv_at hl 1 rfl) ?_
  refine lv_iconst C.1 C.2.1 (v := 1) dX5_send_2 rfl ?_
  refine lv_iadd C.1 C.2.1 dX5_send_3  ?_
  refine lv_iconst C.1 C.2.1 (v := (-1)) dX5_send_4 rfl ?_
  refine z_ki hS (z_runV (As := [.int (p1 + 1), .int (-1)]) (rest := []) C hP hS (m4 hb hL) (e4 hb) rfl (tX5_whoAt C.2.2.2.2.2.2.1 (hL.mo (Nat.le_of_ble_eq_true rfl) (Nat.le_of_ble_eq_true rfl)) hb h) q1158 q1160 q31 q113 q1161 hdX5_whoAt ⟨Nat.le_of_ble_eq_true rfl, Nat.le_of_ble_eq_true rfl⟩ ⟨Nat.zero_le _, Nat.zero_le _⟩ rfl hl.1 rfl (lv_room (Nat.le_of_ble_eq_true rfl)) dX5_send_5) (fun r2 st1 H locs h hP hS => ?_)
  refine lv_istore_n C.1 C.2.1 dX5_send_8 rfl hl (Nat.le_of_ble_eq_true rfl) rfl (fun ls hl => ?_)
  have hl : lv_has ls 4 [(2, .int r2), (0, .ref (E.2.1 b)), (1, .int p1)] := hl
  refine lv_iconst C.1 C.2.1 (v := (-1)) dX5_send_9 rfl ?_
  refine lv_istore_n C.1 C.2.1 dX5_send_10 rfl hl (Nat.le_of_ble_eq_true rfl) rfl (fun ls hl => ?_)
  have hl : lv_has ls 4 [(3, .int (-1)), (2, .int r2), (0, .ref (E.2.1 b)), (1, .int p1)] := hl
  refine lv_aload_n C.1 C.2.1 dX5_send_11 rfl (lv_at hl 2 rfl) ?_
  refine gf4_0 C hP hb (m4 hb hL) q359 dX5_send_12 ?_
  obtain ⟨hc3, h⟩ := h
  obtain ⟨c3, ec3⟩ : ∃ z, z = gR st1 b 0 := ⟨_, rfl⟩
  rw [← ec3]; rw [← ec3] at hc3; have h := h c3 ec3
  refine gn1_0 C hP hc3 (m1 hc3 hL) q191 dX5_send_15 ?_
  refine lv_iload_n C.1 C.2.1 dX5_send_18 rfl (lv_at hl 3 rfl) ?_
  refine lv_iconst C.1 C.2.1 (v := 2) dX5_send_19 rfl ?_
  refine lv_iadd C.1 C.2.1 dX5_send_20  ?_
  refine z_ke hS (z_runV (As := [.int (p1 + 2)]) (rest := []) C hP hS (m1_12 hc3 hL) (e6 (k1_12 hc3)) rfl (tX7_kindAt C.2.2.2.2.2.2.1 (hL.mo (Nat.le_of_ble_eq_true rfl) (Nat.le_of_ble_eq_true rfl)) (k1_12 hc3) h) q1152 q493 q494 q108 q495 hdX7_kindAt ⟨Nat.le_of_ble_eq_true rfl, Nat.le_of_ble_eq_true rfl⟩ ⟨Nat.zero_le _, Nat.zero_le _⟩ rfl hl.1 rfl (lv_room (Nat.le_of_ble_eq_true rfl)) dX5_send_21) (fun r5 st4 H locs h hP hS => ?_)
  obtain ⟨hr5, h⟩ := h
  refine z_kst C hS (i := 17) (by decide) rfl q1174 dX5_send_24 ?_
  refine z_acmp_ne C hr5 (kin_l (by decide)) (tgt := 51) dX5_send_27 (by decide) (fun hc => ?_) (fun hc => ?_)
  · have h := h.1 hc
    exact tX5_send_L51 hL C hr hlk hb _ _ _ h (lv_sub hl [2, 1, 0] rfl) hP hS
  · have h := h.2 hc
    refine lv_aload_n C.1 C.2.1 dX5_send_30 rfl (lv_at hl 2 rfl) ?_
    refine lv_iload_n C.1 C.2.1 dX5_send_31 rfl (lv_at hl 3 rfl) ?_
    refine lv_iconst C.1 C.2.1 (v := 3) dX5_send_32 rfl ?_
    refine lv_iadd C.1 C.2.1 dX5_send_33  ?_
    refine lv_iload_n C.1 C.2.1 dX5_send_34 rfl (lv_at hl 1 rfl) ?_
    refine z_ki hS (z_runV (As := [.int (p1 + 3), .int r2]) (rest := []) C hP hS (m4 hb hL) (e4 hb) rfl (tX5_whoAt C.2.2.2.2.2.2.1 (hL.mo (Nat.le_of_ble_eq_true rfl) (Nat.le_of_ble_eq_true rfl)) hb h) q1158 q1160 q31 q113 q1161 hdX5_whoAt ⟨Nat.le_of_ble_eq_true rfl, Nat.le_of_ble_eq_true rfl⟩ ⟨Nat.zero_le _, Nat.zero_le _⟩ rfl hl.1 rfl (lv_room (Nat.le_of_ble_eq_true rfl)) dX5_send_35) (fun r7 st6 H locs h hP hS => ?_)
    refine lv_istore_n C.1 C.2.1 dX5_send_38 rfl hl (Nat.le_of_ble_eq_true rfl) rfl (fun ls hl => ?_)
    have hl : lv_has ls 4 [(3, .int r7), (2, .int r2), (0, .ref (E.2.1 b)), (1, .int p1)] := hl
    refine lv_iload_n C.1 C.2.1 dX5_send_39 rfl (lv_at hl 0 rfl) ?_
    refine lv_iconst C.1 C.2.1 (v := (-1)) dX5_send_40 rfl ?_
    refine lv_icmp_eq C.1 C.2.1 (tgt := 49) dX5_send_41 (by decide) (fun hc => ?_) (fun hc => ?_)
    · have h := h.1 hc
      refine lv_iconst C.1 C.2.1 (v := 0) dX5_send_49 rfl ?_
      exact z_ri C hr hlk (bz_n bz0) hP hS ⟨bz0, h⟩ dX5_send_50
    · have h := h.2 hc
      refine lv_iload_n C.1 C.2.1 dX5_send_44 rfl (lv_at hl 0 rfl) ?_
      refine lv_iload_n C.1 C.2.1 dX5_send_45 rfl (lv_at hl 1 rfl) ?_
      refine lv_icmp_ne C.1 C.2.1 (tgt := 51) dX5_send_46 (by decide) (fun hc => ?_) (fun hc => ?_)
      · have h := h.1 hc
        exact tX5_send_L51 hL C hr hlk hb _ _ _ h (lv_sub hl [2, 1, 0] rfl) hP hS
      · have h := h.2 hc
        refine lv_iconst C.1 C.2.1 (v := 0) dX5_send_49 rfl ?_
        exact z_ri C hr hlk (bz_n bz0) hP hS ⟨bz0, h⟩ dX5_send_50
def rmX5_valueAt : Room := { frames := 3, cells := 0, slots := 0, locals := 62 }
def wX5_valueAt (b : Nat) (p1 : Int32) (st : St) (Q : Int32 → St → Prop) : Prop :=
  (kd (gR st b 0) = 1 ∧ ∀ c1, c1 = gR st b 0 → (wX7_kindAt (c1 + 12) p1 st (fun r3 st2 => ((¬ r3 = ((some 3)) → (kd (gR st2 b 1) = 2 ∧ ∀ c4, c4 = gR st2 b 1 → (wX2_measure c4 r3 st2 (fun r6 st5 => Q r6 st5)))) ∧ (r3 = ((some 3)) → (kd (gR st2 b 0) = 1 ∧ ∀ c7, c7 = gR st2 b 0 → (wX7_numberAt (c7 + 12) p1 st2 (fun r9 st8 => Q r9 st8))))))))
theorem hdX5_valueAt : yX5_valueAt.cls = "PlankBridge$Run" ∧ yX5_valueAt.cls ≠ "java/lang/invoke/MethodHandle" ∧ yX5_valueAt.cls ≠ "java/lang/invoke/VarHandle" ∧ (parseMethodDescriptor yX5_valueAt.desc).map (fun d => d.parameters.length) = some 1 := by decide +kernel
set_option maxHeartbeats 4000000 in
set_option maxRecDepth 100000 in
theorem tX5_valueAt {l : Launch} {E : En0} {L : List Nat} (hE : EK E L) (hL : Cov 0 54 L) {b : Nat} {p1 : Int32} {st : St} {Q : Int32 → St → Prop} (hb : kd b = 4) (h : wX5_valueAt b p1 st Q) : Mz l yX5_valueAt cX5_valueAt 3 (some .int) rmX5_valueAt E L [.ref (E.2.1 b), .int p1] st (zI E L Q) := by
  refine Mz.of hE (by decide) (Nat.le_of_ble_eq_true rfl) ?_
  intro p e s m below meth c ls C hr hlk _ hl hP
  replace C : Cx E L "PlankBridge$Run" cX5_valueAt 3 p s m _ c := C
  have hS : va_S (fA E L s.heap.size) s.heap s.heap [] := va_S.rf
  replace hl : lv_has ls 3 [(0, .ref (E.2.1 b)), (1, .int p1)] := hl
  unfold wX5_valueAt at h
  refine lv_aload_n C.1 C.2.1 dX5_valueAt_0 rfl (lv_at hl 0 rfl) ?_
  refine gf4_0 C hP hb (m4 hb hL) q359 dX5_valueAt_1 ?_
  obtain ⟨hc1, h⟩ := h
  obtain ⟨c1, ec1⟩ : ∃ z, z = gR st b 0 := ⟨_, rfl⟩
  rw [← ec1]; rw [← ec1] at hc1; have h := h c1 ec1
  refine gn1_0 C hP hc1 (m1 hc1 hL) q191 dX5_valueAt_4 ?_
  refine lv_iload_n C.1 C.2.1 dX5_valueAt_7 rfl (lv_at hl 1 rfl) ?_
  refine z_ke hS (z_runV (As := [.int p1]) (rest := []) C hP hS (m1_12 hc1 hL) (e6 (k1_12 hc1)) rfl (tX7_kindAt C.2.2.2.2.2.2.1 (hL.mo (Nat.le_of_ble_eq_true rfl) (Nat.le_of_ble_eq_true rfl)) (k1_12 hc1) h) q1152 q493 q494 q108 q495 hdX7_kindAt ⟨Nat.le_of_ble_eq_true rfl, Nat.le_of_ble_eq_true rfl⟩ ⟨Nat.zero_le _, Nat.zero_le _⟩ rfl hl.1 rfl (lv_room (Nat.le_of_ble_eq_true rfl)) dX5_valueAt_8) (fun r3 st2 H locs h hP hS => ?_)
  obtain ⟨hr3, h⟩ := h
  refine z_astoreE_n C.1 C.2.1 dX5_valueAt_11 rfl hl (Nat.le_of_ble_eq_true rfl) rfl (fun ls hl => ?_)
  have hl : lv_has ls 3 [(2, va_re E.2.2.1 r3), (0, .ref (E.2.1 b)), (1, .int p1)] := hl
  refine z_aloadE_n C.1 C.2.1 dX5_valueAt_12 rfl (lv_at hl 0 rfl) ?_
  refine z_kst C hS (i := 3) (by decide) rfl q1181 dX5_valueAt_13 ?_
  refine z_acmp_ne C hr3 (kin_l (by decide)) (tgt := 33) dX5_valueAt_16 (by decide) (fun hc => ?_) (fun hc => ?_)
  · have h := h.1 hc
    refine lv_aload_n C.1 C.2.1 dX5_valueAt_33 rfl (lv_at hl 1 rfl) ?_
    refine gf4_1 C hP hb (m4 hb hL) q360 dX5_valueAt_34 ?_
    obtain ⟨hc4, h⟩ := h
    obtain ⟨c4, ec4⟩ : ∃ z, z = gR st2 b 1 := ⟨_, rfl⟩
    rw [← ec4]; rw [← ec4] at hc4; have h := h c4 ec4
    refine z_aloadE_n C.1 C.2.1 dX5_valueAt_37 rfl (lv_at hl 0 rfl) ?_
    refine z_ki hS (z_runV (As := [va_re E.2.2.1 r3]) (rest := []) C hP hS (m2 hc4 hL) (e2 hc4) rfl (tX2_measure C.2.2.2.2.2.2.1 (hL.mo (Nat.le_of_ble_eq_true rfl) (Nat.le_of_ble_eq_true rfl)) hc4 h) q1182 q1183 q1184 q112 q1185 hdX2_measure ⟨Nat.le_of_ble_eq_true rfl, Nat.le_of_ble_eq_true rfl⟩ ⟨Nat.zero_le _, Nat.zero_le _⟩ rfl hl.1 rfl (lv_room (Nat.le_of_ble_eq_true rfl)) dX5_valueAt_38) (fun r6 st5 H locs h hP hS => ?_)
    exact z_ri C hr hlk rfl hP hS h dX5_valueAt_41
  · have h := h.2 hc
    refine lv_aload_n C.1 C.2.1 dX5_valueAt_19 rfl (lv_at hl 1 rfl) ?_
    refine gf4_0 C hP hb (m4 hb hL) q359 dX5_valueAt_20 ?_
    obtain ⟨hc7, h⟩ := h
    obtain ⟨c7, ec7⟩ : ∃ z, z = gR st2 b 0 := ⟨_, rfl⟩
    rw [← ec7]; rw [← ec7] at hc7; have h := h c7 ec7
    refine gn1_0 C hP hc7 (m1 hc7 hL) q191 dX5_valueAt_23 ?_
    refine lv_iload_n C.1 C.2.1 dX5_valueAt_26 rfl (lv_at hl 2 rfl) ?_
    refine z_ki hS (z_runV (As := [.int p1]) (rest := []) C hP hS (m1_12 hc7 hL) (e6 (k1_12 hc7)) rfl (tX7_numberAt C.2.2.2.2.2.2.1 (hL.mo (Nat.le_of_ble_eq_true rfl) (Nat.le_of_ble_eq_true rfl)) (k1_12 hc7) h) q1163 q538 q539 q108 q540 hdX7_numberAt ⟨Nat.le_of_ble_eq_true rfl, Nat.le_of_ble_eq_true rfl⟩ ⟨Nat.zero_le _, Nat.zero_le _⟩ rfl hl.1 rfl (lv_room (Nat.le_of_ble_eq_true rfl)) dX5_valueAt_27) (fun r9 st8 H locs h hP hS => ?_)
    refine lv_goto C.1 C.2.1 (tgt := 41) dX5_valueAt_30 (by decide) ?_
    exact z_ri C hr hlk rfl hP hS h dX5_valueAt_41
def rmX5_restFor : Room := { frames := 3, cells := 0, slots := 0, locals := 68 }
def wX5_restFor_L20 (b : Nat) (p1 : Int32)  (s0 : Int32) (s1 : Nat) (st : St) (Q : St → Prop) : Prop :=
  (wX2_letGoBy s1 s0 st (fun r3 st2 => Q st2))
def wX5_restFor (b : Nat) (p1 : Int32) (st : St) (Q : St → Prop) : Prop :=
  ((p1 ≤ 0 → Q st) ∧ (¬ p1 ≤ 0 → (kd (gR st b 1) = 2 ∧ ∀ c1, c1 = gR st b 1 → ((120 ≤ p1 → wX5_restFor_L20 b p1 120 c1 st Q) ∧ (¬ 120 ≤ p1 → wX5_restFor_L20 b p1 p1 c1 st Q)))))
theorem hdX5_restFor : yX5_restFor.cls = "PlankBridge$Run" ∧ yX5_restFor.cls ≠ "java/lang/invoke/MethodHandle" ∧ yX5_restFor.cls ≠ "java/lang/invoke/VarHandle" ∧ (parseMethodDescriptor yX5_restFor.desc).map (fun d => d.parameters.length) = some 1 := by decide +kernel
set_option maxHeartbeats 4000000 in
set_option maxRecDepth 100000 in
theorem tX5_restFor_L20 {l : Launch} {p : Program} {e : Env} {s : State} {m : MethodId} {args : Array Value} {below : List Frame} {meth : Method} {c : Code} {E : En0} {L : List Nat} (hL : Cov 0 54 L) (C : Cx E L "PlankBridge$Run" cX5_restFor 2 p s m args c) (hr : meth.sig.returnType = none) (hlk : meth.locks = false) {b : Nat} {p1 : Int32} {Q : St → Prop} (hb : kd b = 4) {s0 : Int32} {s1 : Nat} (k_s1 : kd s1 = 2) (m_s1 : s1 ∈ L) {st : St} (H : Heap) (locs : List Loc) (ls : Array Slot) (h : wX5_restFor_L20 b p1 s0 s1 st Q) (hl : lv_has ls 2 []) (hP : va_P E.1 vwCl (wd E L st) H) (hS : va_S (fA E L s.heap.size) s.heap H locs) : W p l e rmX5_restFor s m args below meth c H locs 0 0 (MQ below (zV E L Q (fA E L s.heap.size)) args s rmX5_restFor.cells rmX5_restFor.slots (fA E L s.heap.size)) (F0 m 20 ls [.int s0, .ref (E.2.1 s1)]) := by
  unfold wX5_restFor_L20 at h
  refine z_ki hS (z_runV (As := [.int s0]) (rest := []) C hP hS m_s1 (e2 k_s1) rfl (tX2_letGoBy C.2.2.2.2.2.2.1 (hL.mo (Nat.le_of_ble_eq_true rfl) (Nat.le_of_ble_eq_true rfl)) k_s1 h) q1196 q1080 q1081 q112 q1082 hdX2_letGoBy ⟨Nat.le_of_ble_eq_true rfl, Nat.le_of_ble_eq_true rfl⟩ ⟨Nat.zero_le _, Nat.zero_le _⟩ rfl hl.1 rfl (lv_room (Nat.le_of_ble_eq_true rfl)) dX5_restFor_20) (fun r3 st2 H locs h hP hS => ?_)
  refine lv_pop C.1 C.2.1 dX5_restFor_23 rfl ?_
  exact z_rv C hr hlk hP hS h dX5_restFor_24
set_option maxHeartbeats 4000000 in
set_option maxRecDepth 100000 in
theorem tX5_restFor {l : Launch} {E : En0} {L : List Nat} (hE : EK E L) (hL : Cov 0 54 L) {b : Nat} {p1 : Int32} {st : St} {Q : St → Prop} (hb : kd b = 4) (h : wX5_restFor b p1 st Q) : Mz l yX5_restFor cX5_restFor 2 none rmX5_restFor E L [.ref (E.2.1 b), .int p1] st (zV E L Q) := by
  refine Mz.of hE (by decide) (Nat.le_of_ble_eq_true rfl) ?_
  intro p e s m below meth c ls C hr hlk _ hl hP
  replace C : Cx E L "PlankBridge$Run" cX5_restFor 2 p s m _ c := C
  have hS : va_S (fA E L s.heap.size) s.heap s.heap [] := va_S.rf
  replace hl : lv_has ls 2 [(0, .ref (E.2.1 b)), (1, .int p1)] := hl
  unfold wX5_restFor at h
  refine lv_iload_n C.1 C.2.1 dX5_restFor_0 rfl (lv_at hl 1 rfl) ?_
  refine lv_if_le C.1 C.2.1 (tgt := 24) dX5_restFor_1 (by decide) (fun hc => ?_) (fun hc => ?_)
  · have h := h.1 hc
    exact z_rv C hr hlk hP hS h dX5_restFor_24
  · have h := h.2 hc
    refine lv_aload_n C.1 C.2.1 dX5_restFor_4 rfl (lv_at hl 0 rfl) ?_
    refine gf4_1 C hP hb (m4 hb hL) q360 dX5_restFor_5 ?_
    obtain ⟨hc1, h⟩ := h
    obtain ⟨c1, ec1⟩ : ∃ z, z = gR st b 1 := ⟨_, rfl⟩
    rw [← ec1]; rw [← ec1] at hc1; have h := h c1 ec1
    refine lv_iload_n C.1 C.2.1 dX5_restFor_8 rfl (lv_at hl 1 rfl) ?_
    refine lv_bipush C.1 C.2.1 (v := 120) dX5_restFor_9 rfl ?_
    refine lv_icmp_ge C.1 C.2.1 (tgt := 18) dX5_restFor_11 (by decide) (fun hc => ?_) (fun hc => ?_)
    · have h := h.1 hc
      refine lv_bipush C.1 C.2.1 (v := 120) dX5_restFor_18 rfl ?_
      exact tX5_restFor_L20 hL C hr hlk hb hc1 (m2 hc1 hL) _ _ _ h (lv_sub hl [] rfl) hP hS
    · have h := h.2 hc
      refine lv_iload_n C.1 C.2.1 dX5_restFor_14 rfl (lv_at hl 1 rfl) ?_
      refine lv_goto C.1 C.2.1 (tgt := 20) dX5_restFor_15 (by decide) ?_
      exact tX5_restFor_L20 hL C hr hlk hb hc1 (m2 hc1 hL) _ _ _ h (lv_sub hl [] rfl) hP hS
def rmX5_enterPlan : Room := { frames := 1, cells := 0, slots := 0, locals := 21 }
def wX5_enterPlan (b : Nat) (p1 : Int32) (p2 : Int32) (st : St) (Q : St → Prop) : Prop :=
  ((6 ≤ (gI st b 3) → Q st) ∧ (¬ 6 ≤ (gI st b 3) → (vp_in (gI st b 3) 6 ∧ ∀ st1, st1 = uI st (b + 1) (gI st b 3 : Int32).toNatClampNeg p1 → (∀ st2, st2 = uI st1 b 3 ((gI st1 b 3) + 1) → (kd (gR st2 b 0) = 1 ∧ ∀ c3, c3 = gR st2 b 0 → (wX1_firstActOf c3 p2 st2 (fun r5 st4 => (∀ st6, st6 = uI st4 b 4 r5 → Q st6))))))))
theorem hdX5_enterPlan : yX5_enterPlan.cls = "PlankBridge$Run" ∧ yX5_enterPlan.cls ≠ "java/lang/invoke/MethodHandle" ∧ yX5_enterPlan.cls ≠ "java/lang/invoke/VarHandle" ∧ (parseMethodDescriptor yX5_enterPlan.desc).map (fun d => d.parameters.length) = some 2 := by decide +kernel
set_option maxHeartbeats 4000000 in
set_option maxRecDepth 100000 in
theorem tX5_enterPlan {l : Launch} {E : En0} {L : List Nat} (hE : EK E L) (hL : Cov 0 54 L) {b : Nat} {p1 : Int32} {p2 : Int32} {st : St} {Q : St → Prop} (hb : kd b = 4) (h : wX5_enterPlan b p1 p2 st Q) : Mz l yX5_enterPlan cX5_enterPlan 3 none rmX5_enterPlan E L [.ref (E.2.1 b), .int p1, .int p2] st (zV E L Q) := by
  refine Mz.of hE (by decide) (Nat.le_of_ble_eq_true rfl) ?_
  intro p e s m below meth c ls C hr hlk _ hl hP
  replace C : Cx E L "PlankBridge$Run" cX5_enterPlan 3 p s m _ c := C
  have hS : va_S (fA E L s.heap.size) s.heap s.heap [] := va_S.rf
  replace hl : lv_has ls 3 [(0, .ref (E.2.1 b)), (1, .int p1), (2, .int p2)] := hl
  unfold wX5_enterPlan at h
  refine lv_aload_n C.1 C.2.1 dX5_enterPlan_0 rfl (lv_at hl 0 rfl) ?_
  refine gf4_3 C hP hb (m4 hb hL) q362 dX5_enterPlan_1 ?_
  refine lv_bipush C.1 C.2.1 (v := 6) dX5_enterPlan_4 rfl ?_
  refine lv_icmp_ge C.1 C.2.1 (tgt := 41) dX5_enterPlan_6 (by decide) (fun hc => ?_) (fun hc => ?_)
  · have h := h.1 hc
    exact z_rv C hr hlk hP hS h dX5_enterPlan_41
  · have h := h.2 hc
    refine lv_aload_n C.1 C.2.1 dX5_enterPlan_9 rfl (lv_at hl 0 rfl) ?_
    refine gf4_2 C hP hb (m4 hb hL) q361 dX5_enterPlan_10 ?_
    refine lv_aload_n C.1 C.2.1 dX5_enterPlan_13 rfl (lv_at hl 0 rfl) ?_
    refine gf4_3 C hP hb (m4 hb hL) q362 dX5_enterPlan_14 ?_
    refine lv_iload_n C.1 C.2.1 dX5_enterPlan_17 rfl (lv_at hl 1 rfl) ?_
    obtain ⟨hi, h⟩ := h
    refine z_iast C hP hS (k4_1 hb) (l4_1 hb) (m4_1 hb hL) hi dX5_enterPlan_18 (fun H locs hP hS => ?_)
    obtain ⟨st1, est1⟩ : ∃ z, z = uI st (b + 1) (gI st b 3 : Int32).toNatClampNeg p1 := ⟨_, rfl⟩
    rw [← est1] at hP; have h := h st1 est1
    refine lv_aload_n C.1 C.2.1 dX5_enterPlan_19 rfl (lv_at hl 0 rfl) ?_
    refine lv_dup C.1 C.2.1 dX5_enterPlan_20 rfl ?_
    refine gf4_3 C hP hb (m4 hb hL) q362 dX5_enterPlan_21 ?_
    refine lv_iconst C.1 C.2.1 (v := 1) dX5_enterPlan_24 rfl ?_
    refine lv_iadd C.1 C.2.1 dX5_enterPlan_25  ?_
    refine pf4_3 C hP hS hb (m4 hb hL) q362 dX5_enterPlan_26 (fun H locs hP hS => ?_)
    obtain ⟨st2, est2⟩ : ∃ z, z = uI st1 b 3 ((gI st1 b 3) + 1) := ⟨_, rfl⟩
    rw [← est2] at hP; have h := h st2 est2
    refine lv_aload_n C.1 C.2.1 dX5_enterPlan_29 rfl (lv_at hl 0 rfl) ?_
    refine lv_aload_n C.1 C.2.1 dX5_enterPlan_30 rfl (lv_at hl 0 rfl) ?_
    refine gf4_0 C hP hb (m4 hb hL) q359 dX5_enterPlan_31 ?_
    obtain ⟨hc3, h⟩ := h
    obtain ⟨c3, ec3⟩ : ∃ z, z = gR st2 b 0 := ⟨_, rfl⟩
    rw [← ec3]; rw [← ec3] at hc3; have h := h c3 ec3
    refine lv_iload_n C.1 C.2.1 dX5_enterPlan_34 rfl (lv_at hl 2 rfl) ?_
    refine z_ki hS (z_runV (As := [.int p2]) (rest := [.ref (E.2.1 b)]) C hP hS (m1 hc3 hL) (e1 hc3) rfl (tX1_firstActOf C.2.2.2.2.2.2.1 (hL.mo (Nat.le_of_ble_eq_true rfl) (Nat.le_of_ble_eq_true rfl)) hc3 h) q1134 q1135 q1136 q107 q1137 hdX1_firstActOf ⟨Nat.le_of_ble_eq_true rfl, Nat.le_of_ble_eq_true rfl⟩ ⟨Nat.zero_le _, Nat.zero_le _⟩ rfl hl.1 rfl (lv_room (Nat.le_of_ble_eq_true rfl)) dX5_enterPlan_35) (fun r5 st4 H locs h hP hS => ?_)
    refine pf4_4 C hP hS hb (m4 hb hL) q363 dX5_enterPlan_38 (fun H locs hP hS => ?_)
    obtain ⟨st6, est6⟩ : ∃ z, z = uI st4 b 4 r5 := ⟨_, rfl⟩
    rw [← est6] at hP; have h := h st6 est6
    exact z_rv C hr hlk hP hS h dX5_enterPlan_41
def rmX5_holds : Room := { frames := 4, cells := 0, slots := 0, locals := 84 }
def wX5_holds_L94 (b : Nat) (p1 : Int32) (R2 : Int32 × St → Prop) (v2 : Int32) (s0 : Int32) (st : St) (Q : Int32 → St → Prop) : Prop :=
  ((¬ s0 = 0 → (kd (gR st b 0) = 1 ∧ ∀ c8, c8 = gR st b 0 → (wX7_kindAt (c8 + 12) (v2 + 3) st (fun r10 st9 => ((r10 = ((some 25)) → (∀ x11 : Int32, x11 = v2 + 4 → R2 (x11, st9))) ∧ (¬ r10 = ((some 25)) → Q 1 st9)))))) ∧ (s0 = 0 → Q 0 st))
def wX5_holds_L2 (b : Nat) (p1 : Int32)  (R2 : Int32 × St → Prop) (v2 : Int32) (st : St) (Q : Int32 → St → Prop) : Prop :=
  ((400 ≤ v2 → Q 1 st) ∧ (¬ 400 ≤ v2 → (wX5_valueAt b v2 st (fun r2 st1 => (wX5_valueAt b (v2 + 2) st1 (fun r4 st3 => (kd (gR st3 b 0) = 1 ∧ ∀ c5, c5 = gR st3 b 0 → (wX7_kindAt (c5 + 12) (v2 + 1) st3 (fun r7 st6 => ((¬ r7 = ((some 8)) → ((¬ r7 = ((some 10)) → ((¬ r2 = r4 → wX5_holds_L94 b p1 R2 v2 0 st6 Q) ∧ (r2 = r4 → wX5_holds_L94 b p1 R2 v2 1 st6 Q))) ∧ (r7 = ((some 10)) → ((r2 ≤ r4 → wX5_holds_L94 b p1 R2 v2 0 st6 Q) ∧ (¬ r2 ≤ r4 → wX5_holds_L94 b p1 R2 v2 1 st6 Q))))) ∧ (r7 = ((some 8)) → ((r4 ≤ r2 → wX5_holds_L94 b p1 R2 v2 0 st6 Q) ∧ (¬ r4 ≤ r2 → wX5_holds_L94 b p1 R2 v2 1 st6 Q)))))))))))))
def wX5_holds (b : Nat) (p1 : Int32) (st : St) (Q : Int32 → St → Prop) : Prop :=
  (∃ n, lp (fun R s => wX5_holds_L2 b p1 R s.1 s.2 Q) n (p1, st))
theorem hdX5_holds : yX5_holds.cls = "PlankBridge$Run" ∧ yX5_holds.cls ≠ "java/lang/invoke/MethodHandle" ∧ yX5_holds.cls ≠ "java/lang/invoke/VarHandle" ∧ (parseMethodDescriptor yX5_holds.desc).map (fun d => d.parameters.length) = some 1 := by decide +kernel
set_option maxHeartbeats 4000000 in
set_option maxRecDepth 100000 in
theorem tX5_holds_L94 {l : Launch} {p : Program} {e : Env} {s : State} {m : MethodId} {args : Array Value} {below : List Frame} {meth : Method} {c : Code} {E : En0} {L : List Nat} (hL : Cov 0 54 L) (C : Cx E L "PlankBridge$Run" cX5_holds 7 p s m args c) (hr : meth.sig.returnType = (some .boolean)) (hlk : meth.locks = false) {b : Nat} {p1 : Int32} {Q : Int32 → St → Prop} (hb : kd b = 4) {R2 : Int32 × St → Prop} (hR2 : ∀ (v2 : Int32) (st : St), ∀ (H : Heap) (locs : List Loc) (ls : Array Slot), R2 (v2, st) → lv_has ls 7 [(0, .ref (E.2.1 b)), (2, .int v2)] → va_P E.1 vwCl (wd E L st) H → va_S (fA E L s.heap.size) s.heap H locs → W p l e rmX5_holds s m args below meth c H locs 0 0 (MQ below (zI E L (fun r u => bz r ∧ Q r u) (fA E L s.heap.size)) args s rmX5_holds.cells rmX5_holds.slots (fA E L s.heap.size)) (F0 m 2 ls [])) {v2 : Int32} {s0 : Int32}  {st : St} (H : Heap) (locs : List Loc) (ls : Array Slot) (h : wX5_holds_L94 b p1 R2 v2 s0 st Q) (hl : lv_has ls 7 [(0, .ref (E.2.1 b)), (2, .int v2)]) (hP : va_P E.1 vwCl (wd E L st) H) (hS : va_S (fA E L s.heap.size) s.heap H locs) : W p l e rmX5_holds s m args below meth c H locs 0 0 (MQ below (zI E L (fun r u => bz r ∧ Q r u) (fA E L s.heap.size)) args s rmX5_holds.cells rmX5_holds.slots (fA E L s.heap.size)) (F0 m 94 ls [.int s0]) := by
  unfold wX5_holds_L94 at h
  refine lv_istore C.1 C.2.1 dX5_holds_94 hl (Nat.le_of_ble_eq_true rfl) rfl (fun ls hl => ?_)
  have hl : lv_has ls 7 [(6, .int s0), (0, .ref (E.2.1 b)), (2, .int v2)] := hl
  refine lv_iload C.1 C.2.1 dX5_holds_96 (lv_at hl 0 rfl) ?_
  refine lv_if_ne C.1 C.2.1 (tgt := 103) dX5_holds_98 (by decide) (fun hc => ?_) (fun hc => ?_)
  · have h := h.1 hc
    refine lv_aload_n C.1 C.2.1 dX5_holds_103 rfl (lv_at hl 1 rfl) ?_
    refine gf4_0 C hP hb (m4 hb hL) q359 dX5_holds_104 ?_
    obtain ⟨hc8, h⟩ := h
    obtain ⟨c8, ec8⟩ : ∃ z, z = gR st b 0 := ⟨_, rfl⟩
    rw [← ec8]; rw [← ec8] at hc8; have h := h c8 ec8
    refine gn1_0 C hP hc8 (m1 hc8 hL) q191 dX5_holds_107 ?_
    refine lv_iload_n C.1 C.2.1 dX5_holds_110 rfl (lv_at hl 2 rfl) ?_
    refine lv_iconst C.1 C.2.1 (v := 3) dX5_holds_111 rfl ?_
    refine lv_iadd C.1 C.2.1 dX5_holds_112  ?_
    refine z_ke hS (z_runV (As := [.int (v2 + 3)]) (rest := []) C hP hS (m1_12 hc8 hL) (e6 (k1_12 hc8)) rfl (tX7_kindAt C.2.2.2.2.2.2.1 (hL.mo (Nat.le_of_ble_eq_true rfl) (Nat.le_of_ble_eq_true rfl)) (k1_12 hc8) h) q1152 q493 q494 q108 q495 hdX7_kindAt ⟨Nat.le_of_ble_eq_true rfl, Nat.le_of_ble_eq_true rfl⟩ ⟨Nat.zero_le _, Nat.zero_le _⟩ rfl hl.1 rfl (lv_room (Nat.le_of_ble_eq_true rfl)) dX5_holds_113) (fun r10 st9 H locs h hP hS => ?_)
    obtain ⟨hr10, h⟩ := h
    refine z_kst C hS (i := 25) (by decide) rfl q1215 dX5_holds_116 ?_
    refine z_acmp_eq C hr10 (kin_l (by decide)) (tgt := 124) dX5_holds_119 (by decide) (fun hc => ?_) (fun hc => ?_)
    · have h := h.1 hc
      obtain ⟨x11, ex11⟩ : ∃ z, z = v2 + 4 := ⟨_, rfl⟩
      have h := h x11 ex11
      refine lv_iinc C.1 C.2.1 dX5_holds_124 hl (k := 2) rfl ex11.symm (Nat.le_of_ble_eq_true rfl) rfl (fun ls hl => ?_)
      have hl : lv_has ls 7 [(2, .int x11), (6, .int s0), (0, .ref (E.2.1 b))] := hl
      refine lv_goto C.1 C.2.1 (tgt := 2) dX5_holds_127 (by decide) ?_
      exact hR2 x11 st9 _ _ _ h (lv_sub hl [2, 0] rfl) hP hS
    · have h := h.2 hc
      refine lv_iconst C.1 C.2.1 (v := 1) dX5_holds_122 rfl ?_
      exact z_ri C hr hlk (bz_n bz1) hP hS ⟨bz1, h⟩ dX5_holds_123
  · have h := h.2 hc
    refine lv_iconst C.1 C.2.1 (v := 0) dX5_holds_101 rfl ?_
    exact z_ri C hr hlk (bz_n bz0) hP hS ⟨bz0, h⟩ dX5_holds_102
set_option maxHeartbeats 4000000 in
set_option maxRecDepth 100000 in
theorem tX5_holds_L2 {l : Launch} {p : Program} {e : Env} {s : State} {m : MethodId} {args : Array Value} {below : List Frame} {meth : Method} {c : Code} {E : En0} {L : List Nat} (hL : Cov 0 54 L) (C : Cx E L "PlankBridge$Run" cX5_holds 7 p s m args c) (hr : meth.sig.returnType = (some .boolean)) (hlk : meth.locks = false) {b : Nat} {p1 : Int32} {Q : Int32 → St → Prop} (hb : kd b = 4) : ∀ (n : Nat) (v2 : Int32) (st : St) (H : Heap) (locs : List Loc) (ls : Array Slot), lp (fun R s => wX5_holds_L2 b p1 R s.1 s.2 Q) n (v2, st) → lv_has ls 7 [(0, .ref (E.2.1 b)), (2, .int v2)] → va_P E.1 vwCl (wd E L st) H → va_S (fA E L s.heap.size) s.heap H locs → W p l e rmX5_holds s m args below meth c H locs 0 0 (MQ below (zI E L (fun r u => bz r ∧ Q r u) (fA E L s.heap.size)) args s rmX5_holds.cells rmX5_holds.slots (fA E L s.heap.size)) (F0 m 2 ls []) := by
  intro n
  induction n with
  | zero => exact fun _ _ _ _ _ h _ _ _ => False.elim ‹_›
  | succ n ih =>
    intro v2 st  H locs ls h hl hP hS
    have hR2 := ih
    replace h : wX5_holds_L2 b p1 (lp (fun R s => wX5_holds_L2 b p1 R s.1 s.2 Q) n) v2 st Q := h
    unfold wX5_holds_L2 at h
    refine lv_iload_n C.1 C.2.1 dX5_holds_2 rfl (lv_at hl 1 rfl) ?_
    refine lv_sipush C.1 C.2.1 (v := 400) dX5_holds_3 rfl ?_
    refine lv_icmp_ge C.1 C.2.1 (tgt := 130) dX5_holds_6 (by decide) (fun hc => ?_) (fun hc => ?_)
    · have h := h.1 hc
      refine lv_iconst C.1 C.2.1 (v := 1) dX5_holds_130 rfl ?_
      exact z_ri C hr hlk (bz_n bz1) hP hS ⟨bz1, h⟩ dX5_holds_131
    · have h := h.2 hc
      refine lv_aload_n C.1 C.2.1 dX5_holds_9 rfl (lv_at hl 0 rfl) ?_
      refine lv_iload_n C.1 C.2.1 dX5_holds_10 rfl (lv_at hl 1 rfl) ?_
      refine z_ki hS (z_runV (As := [.int v2]) (rest := []) C hP hS (m4 hb hL) (e4 hb) rfl (tX5_valueAt C.2.2.2.2.2.2.1 (hL.mo (Nat.le_of_ble_eq_true rfl) (Nat.le_of_ble_eq_true rfl)) hb h) q1177 q1179 q33 q113 q1180 hdX5_valueAt ⟨Nat.le_of_ble_eq_true rfl, Nat.le_of_ble_eq_true rfl⟩ ⟨Nat.zero_le _, Nat.zero_le _⟩ rfl hl.1 rfl (lv_room (Nat.le_of_ble_eq_true rfl)) dX5_holds_11) (fun r2 st1 H locs h hP hS => ?_)
      refine lv_istore_n C.1 C.2.1 dX5_holds_14 rfl hl (Nat.le_of_ble_eq_true rfl) rfl (fun ls hl => ?_)
      have hl : lv_has ls 7 [(3, .int r2), (0, .ref (E.2.1 b)), (2, .int v2)] := hl
      refine lv_aload_n C.1 C.2.1 dX5_holds_15 rfl (lv_at hl 1 rfl) ?_
      refine lv_iload_n C.1 C.2.1 dX5_holds_16 rfl (lv_at hl 2 rfl) ?_
      refine lv_iconst C.1 C.2.1 (v := 2) dX5_holds_17 rfl ?_
      refine lv_iadd C.1 C.2.1 dX5_holds_18  ?_
      refine z_ki hS (z_runV (As := [.int (v2 + 2)]) (rest := []) C hP hS (m4 hb hL) (e4 hb) rfl (tX5_valueAt C.2.2.2.2.2.2.1 (hL.mo (Nat.le_of_ble_eq_true rfl) (Nat.le_of_ble_eq_true rfl)) hb h) q1177 q1179 q33 q113 q1180 hdX5_valueAt ⟨Nat.le_of_ble_eq_true rfl, Nat.le_of_ble_eq_true rfl⟩ ⟨Nat.zero_le _, Nat.zero_le _⟩ rfl hl.1 rfl (lv_room (Nat.le_of_ble_eq_true rfl)) dX5_holds_19) (fun r4 st3 H locs h hP hS => ?_)
      refine lv_istore C.1 C.2.1 dX5_holds_22 hl (Nat.le_of_ble_eq_true rfl) rfl (fun ls hl => ?_)
      have hl : lv_has ls 7 [(4, .int r4), (3, .int r2), (0, .ref (E.2.1 b)), (2, .int v2)] := hl
      refine lv_aload_n C.1 C.2.1 dX5_holds_24 rfl (lv_at hl 2 rfl) ?_
      refine gf4_0 C hP hb (m4 hb hL) q359 dX5_holds_25 ?_
      obtain ⟨hc5, h⟩ := h
      obtain ⟨c5, ec5⟩ : ∃ z, z = gR st3 b 0 := ⟨_, rfl⟩
      rw [← ec5]; rw [← ec5] at hc5; have h := h c5 ec5
      refine gn1_0 C hP hc5 (m1 hc5 hL) q191 dX5_holds_28 ?_
      refine lv_iload_n C.1 C.2.1 dX5_holds_31 rfl (lv_at hl 3 rfl) ?_
      refine lv_iconst C.1 C.2.1 (v := 1) dX5_holds_32 rfl ?_
      refine lv_iadd C.1 C.2.1 dX5_holds_33  ?_
      refine z_ke hS (z_runV (As := [.int (v2 + 1)]) (rest := []) C hP hS (m1_12 hc5 hL) (e6 (k1_12 hc5)) rfl (tX7_kindAt C.2.2.2.2.2.2.1 (hL.mo (Nat.le_of_ble_eq_true rfl) (Nat.le_of_ble_eq_true rfl)) (k1_12 hc5) h) q1152 q493 q494 q108 q495 hdX7_kindAt ⟨Nat.le_of_ble_eq_true rfl, Nat.le_of_ble_eq_true rfl⟩ ⟨Nat.zero_le _, Nat.zero_le _⟩ rfl hl.1 rfl (lv_room (Nat.le_of_ble_eq_true rfl)) dX5_holds_34) (fun r7 st6 H locs h hP hS => ?_)
      obtain ⟨hr7, h⟩ := h
      refine z_astoreE C.1 C.2.1 dX5_holds_37 hl (Nat.le_of_ble_eq_true rfl) rfl (fun ls hl => ?_)
      have hl : lv_has ls 7 [(5, va_re E.2.2.1 r7), (4, .int r4), (3, .int r2), (0, .ref (E.2.1 b)), (2, .int v2)] := hl
      refine z_aloadE C.1 C.2.1 dX5_holds_39 (lv_at hl 0 rfl) ?_
      refine z_kst C hS (i := 8) (by decide) rfl q1213 dX5_holds_41 ?_
      refine z_acmp_ne C hr7 (kin_l (by decide)) (tgt := 61) dX5_holds_44 (by decide) (fun hc => ?_) (fun hc => ?_)
      · have h := h.1 hc
        refine z_aloadE C.1 C.2.1 dX5_holds_61 (lv_at hl 0 rfl) ?_
        refine z_kst C hS (i := 10) (by decide) rfl q1214 dX5_holds_63 ?_
        refine z_acmp_ne C hr7 (kin_l (by decide)) (tgt := 83) dX5_holds_66 (by decide) (fun hc => ?_) (fun hc => ?_)
        · have h := h.1 hc
          refine lv_iload_n C.1 C.2.1 dX5_holds_83 rfl (lv_at hl 2 rfl) ?_
          refine lv_iload C.1 C.2.1 dX5_holds_84 (lv_at hl 1 rfl) ?_
          refine lv_icmp_ne C.1 C.2.1 (tgt := 93) dX5_holds_86 (by decide) (fun hc => ?_) (fun hc => ?_)
          · have h := h.1 hc
            refine lv_iconst C.1 C.2.1 (v := 0) dX5_holds_93 rfl ?_
            exact tX5_holds_L94 hL C hr hlk hb hR2 _ _ _ h (lv_sub hl [3, 4] rfl) hP hS
          · have h := h.2 hc
            refine lv_iconst C.1 C.2.1 (v := 1) dX5_holds_89 rfl ?_
            refine lv_goto C.1 C.2.1 (tgt := 94) dX5_holds_90 (by decide) ?_
            exact tX5_holds_L94 hL C hr hlk hb hR2 _ _ _ h (lv_sub hl [3, 4] rfl) hP hS
        · have h := h.2 hc
          refine lv_iload_n C.1 C.2.1 dX5_holds_69 rfl (lv_at hl 2 rfl) ?_
          refine lv_iload C.1 C.2.1 dX5_holds_70 (lv_at hl 1 rfl) ?_
          refine lv_icmp_le C.1 C.2.1 (tgt := 79) dX5_holds_72 (by decide) (fun hc => ?_) (fun hc => ?_)
          · have h := h.1 hc
            refine lv_iconst C.1 C.2.1 (v := 0) dX5_holds_79 rfl ?_
            refine lv_goto C.1 C.2.1 (tgt := 94) dX5_holds_80 (by decide) ?_
            exact tX5_holds_L94 hL C hr hlk hb hR2 _ _ _ h (lv_sub hl [3, 4] rfl) hP hS
          · have h := h.2 hc
            refine lv_iconst C.1 C.2.1 (v := 1) dX5_holds_75 rfl ?_
            refine lv_goto C.1 C.2.1 (tgt := 94) dX5_holds_76 (by decide) ?_
            exact tX5_holds_L94 hL C hr hlk hb hR2 _ _ _ h (lv_sub hl [3, 4] rfl) hP hS
      · have h := h.2 hc
        refine lv_iload_n C.1 C.2.1 dX5_holds_47 rfl (lv_at hl 2 rfl) ?_
        refine lv_iload C.1 C.2.1 dX5_holds_48 (lv_at hl 1 rfl) ?_
        refine lv_icmp_ge C.1 C.2.1 (tgt := 57) dX5_holds_50 (by decide) (fun hc => ?_) (fun hc => ?_)
        · have h := h.1 hc
          refine lv_iconst C.1 C.2.1 (v := 0) dX5_holds_57 rfl ?_
          refine lv_goto C.1 C.2.1 (tgt := 94) dX5_holds_58 (by decide) ?_
          exact tX5_holds_L94 hL C hr hlk hb hR2 _ _ _ h (lv_sub hl [3, 4] rfl) hP hS
        · have h := h.2 hc
          refine lv_iconst C.1 C.2.1 (v := 1) dX5_holds_53 rfl ?_
          refine lv_goto C.1 C.2.1 (tgt := 94) dX5_holds_54 (by decide) ?_
          exact tX5_holds_L94 hL C hr hlk hb hR2 _ _ _ h (lv_sub hl [3, 4] rfl) hP hS
set_option maxHeartbeats 4000000 in
set_option maxRecDepth 100000 in
theorem tX5_holds {l : Launch} {E : En0} {L : List Nat} (hE : EK E L) (hL : Cov 0 54 L) {b : Nat} {p1 : Int32} {st : St} {Q : Int32 → St → Prop} (hb : kd b = 4) (h : wX5_holds b p1 st Q) : Mz l yX5_holds cX5_holds 7 (some .boolean) rmX5_holds E L [.ref (E.2.1 b), .int p1] st (zI E L (fun r u => bz r ∧ Q r u)) := by
  refine Mz.of hE (by decide) (Nat.le_of_ble_eq_true rfl) ?_
  intro p e s m below meth c ls C hr hlk _ hl hP
  replace C : Cx E L "PlankBridge$Run" cX5_holds 7 p s m _ c := C
  have hS : va_S (fA E L s.heap.size) s.heap s.heap [] := va_S.rf
  replace hl : lv_has ls 7 [(0, .ref (E.2.1 b)), (1, .int p1)] := hl
  unfold wX5_holds at h
  refine lv_iload_n C.1 C.2.1 dX5_holds_0 rfl (lv_at hl 1 rfl) ?_
  refine lv_istore_n C.1 C.2.1 dX5_holds_1 rfl hl (Nat.le_of_ble_eq_true rfl) rfl (fun ls hl => ?_)
  have hl : lv_has ls 7 [(2, .int p1), (0, .ref (E.2.1 b)), (1, .int p1)] := hl
  obtain ⟨n, h⟩ := h
  exact tX5_holds_L2 hL C hr hlk hb n p1 st _ _ _ h (lv_sub hl [1, 0] rfl) hP hS
def rmX5_act : Room := { frames := 5, cells := 0, slots := 0, locals := 115 }
def wX5_act_L233 (b : Nat) (p1 : Int32)  (v3 : Int32) (s0 : Int32) (st : St) (Q : Int32 → St → Prop) : Prop :=
  ((¬ s0 = (-1) → (∀ st39, st39 = uI st b 4 s0 → (bz v3 ∧ Q v3 st39))) ∧ (s0 = (-1) → (∀ st40, st40 = uI st b 4 (gI st b 4) → (bz v3 ∧ Q v3 st40))))
def wX5_act_L196 (b : Nat) (p1 : Int32)  (v3 : Int32) (s0 : Int32) (st : St) (Q : Int32 → St → Prop) : Prop :=
  (∀ st41, st41 = uI st b 4 s0 → (bz v3 ∧ Q v3 st41))
def wX5_act (b : Nat) (p1 : Int32) (st : St) (Q : Int32 → St → Prop) : Prop :=
  (kd (gR st b 0) = 1 ∧ ∀ c1, c1 = gR st b 0 → (vp_in p1 60 ∧ (∀ x2 : Int32, x2 = (gI st (c1 + 7) (p1 : Int32).toNatClampNeg) → (kd (gR st b 0) = 1 ∧ ∀ c3, c3 = gR st b 0 → (wX1_actBehind c3 p1 st (fun r5 st4 => (∀ st6, st6 = uI st4 b 4 r5 → (kd (gR st6 b 0) = 1 ∧ ∀ c8, c8 = gR st6 b 0 → (wX7_kindAt (c8 + 12) x2 st6 (fun r10 st9 => (∃ k11, r10 = some k11 ∧ k11 < 37 ∧ (vp_in (Int32.ofNat k11) 37 ∧ ((((kSw (Int32.ofNat k11 : Int32).toNatClampNeg : Int32).toInt < 1 ∨ 6 < (kSw (Int32.ofNat k11 : Int32).toNatClampNeg : Int32).toInt) → (wX5_holds b (x2 + 1) st9 (fun r14 st13 => ((r14 = 0 → (kd (gR st13 b 0) = 1 ∧ ∀ c15, c15 = gR st13 b 0 → (vp_in p1 60 ∧ wX5_act_L233 b p1 1 (gI st13 (c15 + 11) (p1 : Int32).toNatClampNeg) st13 Q))) ∧ (¬ r14 = 0 → (kd (gR st13 b 0) = 1 ∧ ∀ c16, c16 = gR st13 b 0 → (vp_in p1 60 ∧ wX5_act_L233 b p1 1 (gI st13 (c16 + 10) (p1 : Int32).toNatClampNeg) st13 Q))))))) ∧ (((kSw (Int32.ofNat k11 : Int32).toNatClampNeg) = 1 → (wX5_send b x2 st9 (fun r18 st17 => Q r18 st17))) ∧ ((kSw (Int32.ofNat k11 : Int32).toNatClampNeg) = 2 → (wX5_valueAt b (x2 + 1) st9 (fun r20 st19 => (wX5_restFor b r20 st19 (fun st21 => Q 1 st21))))) ∧ ((kSw (Int32.ofNat k11 : Int32).toNatClampNeg) = 3 → (kd (gR st9 b 1) = 2 ∧ ∀ c22, c22 = gR st9 b 1 → (wX5_valueAt b (x2 + 1) st9 (fun r24 st23 => (wX2_writeNote c22 r24 st23 (fun st25 => Q 1 st25)))))) ∧ ((kSw (Int32.ofNat k11 : Int32).toNatClampNeg) = 4 → (kd (gR st9 b 1) = 2 ∧ ∀ c26, c26 = gR st9 b 1 → (wX5_valueAt b (x2 + 1) st9 (fun r28 st27 => (wX2_mendFirst c26 r28 st27 (fun r30 st29 => Q r30 st29)))))) ∧ ((kSw (Int32.ofNat k11 : Int32).toNatClampNeg) = 5 → (kd (gR st9 b 0) = 1 ∧ ∀ c31, c31 = gR st9 b 0 → (wX7_numberAt (c31 + 12) (x2 + 1) st9 (fun r33 st32 => (wX5_enterPlan b p1 r33 st32 (fun st34 => Q 1 st34)))))) ∧ ((kSw (Int32.ofNat k11 : Int32).toNatClampNeg) = 6 → (wX5_holds b (x2 + 1) st9 (fun r36 st35 => ((r36 = 0 → Q 1 st35) ∧ (¬ r36 = 0 → (kd (gR st35 b 0) = 1 ∧ ∀ c37, c37 = gR st35 b 0 → (vp_in p1 60 ∧ ((¬ (gI st35 (c37 + 10) (p1 : Int32).toNatClampNeg) = (-1) → (kd (gR st35 b 0) = 1 ∧ ∀ c38, c38 = gR st35 b 0 → (vp_in p1 60 ∧ wX5_act_L196 b p1 1 (gI st35 (c38 + 10) (p1 : Int32).toNatClampNeg) st35 Q))) ∧ ((gI st35 (c37 + 10) (p1 : Int32).toNatClampNeg) = (-1) → wX5_act_L196 b p1 1 p1 st35 Q)))))))))))))))))))))))
theorem hdX5_act : yX5_act.cls = "PlankBridge$Run" ∧ yX5_act.cls ≠ "java/lang/invoke/MethodHandle" ∧ yX5_act.cls ≠ "java/lang/invoke/VarHandle" ∧ (parseMethodDescriptor yX5_act.desc).map (fun d => d.parameters.length) = some 1 := by decide +kernel
set_option maxHeartbeats 4000000 in
set_option maxRecDepth 100000 in
theorem tX5_act_L233 {l : Launch} {p : Program} {e : Env} {s : State} {m : MethodId} {args : Array Value} {below : List Frame} {meth : Method} {c : Code} {E : En0} {L : List Nat} (hL : Cov 0 54 L) (C : Cx E L "PlankBridge$Run" cX5_act 5 p s m args c) (hr : meth.sig.returnType = (some .boolean)) (hlk : meth.locks = false) {b : Nat} {p1 : Int32} {Q : Int32 → St → Prop} (hb : kd b = 4) {v3 : Int32} {s0 : Int32}  {st : St} (H : Heap) (locs : List Loc) (ls : Array Slot) (h : wX5_act_L233 b p1 v3 s0 st Q) (hl : lv_has ls 5 [(0, .ref (E.2.1 b)), (3, .int v3)]) (hP : va_P E.1 vwCl (wd E L st) H) (hS : va_S (fA E L s.heap.size) s.heap H locs) : W p l e rmX5_act s m args below meth c H locs 0 0 (MQ below (zI E L (fun r u => bz r ∧ Q r u) (fA E L s.heap.size)) args s rmX5_act.cells rmX5_act.slots (fA E L s.heap.size)) (F0 m 233 ls [.int s0]) := by
  unfold wX5_act_L233 at h
  refine lv_istore C.1 C.2.1 dX5_act_233 hl (Nat.le_of_ble_eq_true rfl) rfl (fun ls hl => ?_)
  have hl : lv_has ls 5 [(4, .int s0), (0, .ref (E.2.1 b)), (3, .int v3)] := hl
  refine lv_aload_n C.1 C.2.1 dX5_act_235 rfl (lv_at hl 1 rfl) ?_
  refine lv_iload C.1 C.2.1 dX5_act_236 (lv_at hl 0 rfl) ?_
  refine lv_iconst C.1 C.2.1 (v := (-1)) dX5_act_238 rfl ?_
  refine lv_icmp_ne C.1 C.2.1 (tgt := 249) dX5_act_239 (by decide) (fun hc => ?_) (fun hc => ?_)
  · have h := h.1 hc
    refine lv_iload C.1 C.2.1 dX5_act_249 (lv_at hl 0 rfl) ?_
    refine pf4_4 C hP hS hb (m4 hb hL) q363 dX5_act_251 (fun H locs hP hS => ?_)
    obtain ⟨st39, est39⟩ : ∃ z, z = uI st b 4 s0 := ⟨_, rfl⟩
    rw [← est39] at hP; have h := h st39 est39
    refine lv_iload_n C.1 C.2.1 dX5_act_254 rfl (lv_at hl 2 rfl) ?_
    exact z_ri C hr hlk (bz_n h.1) hP hS h dX5_act_255
  · have h := h.2 hc
    refine lv_aload_n C.1 C.2.1 dX5_act_242 rfl (lv_at hl 1 rfl) ?_
    refine gf4_4 C hP hb (m4 hb hL) q363 dX5_act_243 ?_
    refine lv_goto C.1 C.2.1 (tgt := 251) dX5_act_246 (by decide) ?_
    refine pf4_4 C hP hS hb (m4 hb hL) q363 dX5_act_251 (fun H locs hP hS => ?_)
    obtain ⟨st40, est40⟩ : ∃ z, z = uI st b 4 (gI st b 4) := ⟨_, rfl⟩
    rw [← est40] at hP; have h := h st40 est40
    refine lv_iload_n C.1 C.2.1 dX5_act_254 rfl (lv_at hl 2 rfl) ?_
    exact z_ri C hr hlk (bz_n h.1) hP hS h dX5_act_255
set_option maxHeartbeats 4000000 in
set_option maxRecDepth 100000 in
theorem tX5_act_L196 {l : Launch} {p : Program} {e : Env} {s : State} {m : MethodId} {args : Array Value} {below : List Frame} {meth : Method} {c : Code} {E : En0} {L : List Nat} (hL : Cov 0 54 L) (C : Cx E L "PlankBridge$Run" cX5_act 5 p s m args c) (hr : meth.sig.returnType = (some .boolean)) (hlk : meth.locks = false) {b : Nat} {p1 : Int32} {Q : Int32 → St → Prop} (hb : kd b = 4) {v3 : Int32} {s0 : Int32}  {st : St} (H : Heap) (locs : List Loc) (ls : Array Slot) (h : wX5_act_L196 b p1 v3 s0 st Q) (hl : lv_has ls 5 [(3, .int v3)]) (hP : va_P E.1 vwCl (wd E L st) H) (hS : va_S (fA E L s.heap.size) s.heap H locs) : W p l e rmX5_act s m args below meth c H locs 0 0 (MQ below (zI E L (fun r u => bz r ∧ Q r u) (fA E L s.heap.size)) args s rmX5_act.cells rmX5_act.slots (fA E L s.heap.size)) (F0 m 196 ls [.int s0, .ref (E.2.1 b)]) := by
  unfold wX5_act_L196 at h
  refine pf4_4 C hP hS hb (m4 hb hL) q363 dX5_act_196 (fun H locs hP hS => ?_)
  obtain ⟨st41, est41⟩ : ∃ z, z = uI st b 4 s0 := ⟨_, rfl⟩
  rw [← est41] at hP; have h := h st41 est41
  refine lv_goto C.1 C.2.1 (tgt := 254) dX5_act_199 (by decide) ?_
  refine lv_iload_n C.1 C.2.1 dX5_act_254 rfl (lv_at hl 0 rfl) ?_
  exact z_ri C hr hlk (bz_n h.1) hP hS h dX5_act_255
set_option maxHeartbeats 4000000 in
set_option maxRecDepth 100000 in
theorem tX5_act {l : Launch} {E : En0} {L : List Nat} (hE : EK E L) (hL : Cov 0 54 L) {b : Nat} {p1 : Int32} {st : St} {Q : Int32 → St → Prop} (hb : kd b = 4) (h : wX5_act b p1 st Q) : Mz l yX5_act cX5_act 5 (some .boolean) rmX5_act E L [.ref (E.2.1 b), .int p1] st (zI E L (fun r u => bz r ∧ Q r u)) := by
  refine Mz.of hE (by decide) (Nat.le_of_ble_eq_true rfl) ?_
  intro p e s m below meth c ls C hr hlk _ hl hP
  replace C : Cx E L "PlankBridge$Run" cX5_act 5 p s m _ c := C
  have hS : va_S (fA E L s.heap.size) s.heap s.heap [] := va_S.rf
  replace hl : lv_has ls 5 [(0, .ref (E.2.1 b)), (1, .int p1)] := hl
  unfold wX5_act at h
  refine lv_aload_n C.1 C.2.1 dX5_act_0 rfl (lv_at hl 0 rfl) ?_
  refine gf4_0 C hP hb (m4 hb hL) q359 dX5_act_1 ?_
  obtain ⟨hc1, h⟩ := h
  obtain ⟨c1, ec1⟩ : ∃ z, z = gR st b 0 := ⟨_, rfl⟩
  rw [← ec1]; rw [← ec1] at hc1; have h := h c1 ec1
  refine gn1_10 C hP hc1 (m1 hc1 hL) q211 dX5_act_4 ?_
  refine lv_iload_n C.1 C.2.1 dX5_act_7 rfl (lv_at hl 1 rfl) ?_
  obtain ⟨hi, h⟩ := h
  refine z_iald C hP (k1_7 hc1) (l1_7 hc1) (m1_7 hc1 hL) hi dX5_act_8 ?_
  refine lv_topi (fun x2 ex2 => ?_)
  have h := h x2 ex2
  refine lv_istore_n C.1 C.2.1 dX5_act_9 rfl hl (Nat.le_of_ble_eq_true rfl) rfl (fun ls hl => ?_)
  have hl : lv_has ls 5 [(2, .int x2), (0, .ref (E.2.1 b)), (1, .int p1)] := hl
  refine lv_iconst C.1 C.2.1 (v := 1) dX5_act_10 rfl ?_
  refine lv_istore_n C.1 C.2.1 dX5_act_11 rfl hl (Nat.le_of_ble_eq_true rfl) rfl (fun ls hl => ?_)
  have hl : lv_has ls 5 [(3, .int 1), (2, .int x2), (0, .ref (E.2.1 b)), (1, .int p1)] := hl
  refine lv_aload_n C.1 C.2.1 dX5_act_12 rfl (lv_at hl 2 rfl) ?_
  refine lv_aload_n C.1 C.2.1 dX5_act_13 rfl (lv_at hl 2 rfl) ?_
  refine gf4_0 C hP hb (m4 hb hL) q359 dX5_act_14 ?_
  obtain ⟨hc3, h⟩ := h
  obtain ⟨c3, ec3⟩ : ∃ z, z = gR st b 0 := ⟨_, rfl⟩
  rw [← ec3]; rw [← ec3] at hc3; have h := h c3 ec3
  refine lv_iload_n C.1 C.2.1 dX5_act_17 rfl (lv_at hl 3 rfl) ?_
  refine z_ki hS (z_runV (As := [.int p1]) (rest := [.ref (E.2.1 b)]) C hP hS (m1 hc3 hL) (e1 hc3) rfl (tX1_actBehind C.2.2.2.2.2.2.1 (hL.mo (Nat.le_of_ble_eq_true rfl) (Nat.le_of_ble_eq_true rfl)) hc3 h) q1143 q1144 q1145 q107 q1146 hdX1_actBehind ⟨Nat.le_of_ble_eq_true rfl, Nat.le_of_ble_eq_true rfl⟩ ⟨Nat.zero_le _, Nat.zero_le _⟩ rfl hl.1 rfl (lv_room (Nat.le_of_ble_eq_true rfl)) dX5_act_18) (fun r5 st4 H locs h hP hS => ?_)
  refine pf4_4 C hP hS hb (m4 hb hL) q363 dX5_act_21 (fun H locs hP hS => ?_)
  obtain ⟨st6, est6⟩ : ∃ z, z = uI st4 b 4 r5 := ⟨_, rfl⟩
  rw [← est6] at hP; have h := h st6 est6
  refine z_sw C hS q1151 dX5_act_24 (fun t7 ht7 => ?_)
  refine lv_aload_n C.1 C.2.1 dX5_act_27 rfl (lv_at hl 2 rfl) ?_
  refine gf4_0 C hP hb (m4 hb hL) q359 dX5_act_28 ?_
  obtain ⟨hc8, h⟩ := h
  obtain ⟨c8, ec8⟩ : ∃ z, z = gR st6 b 0 := ⟨_, rfl⟩
  rw [← ec8]; rw [← ec8] at hc8; have h := h c8 ec8
  refine gn1_0 C hP hc8 (m1 hc8 hL) q191 dX5_act_31 ?_
  refine lv_iload_n C.1 C.2.1 dX5_act_34 rfl (lv_at hl 1 rfl) ?_
  refine z_ke hS (z_runV (As := [.int x2]) (rest := [.ref t7]) C hP hS (m1_12 hc8 hL) (e6 (k1_12 hc8)) rfl (tX7_kindAt C.2.2.2.2.2.2.1 (hL.mo (Nat.le_of_ble_eq_true rfl) (Nat.le_of_ble_eq_true rfl)) (k1_12 hc8) h) q1152 q493 q494 q108 q495 hdX7_kindAt ⟨Nat.le_of_ble_eq_true rfl, Nat.le_of_ble_eq_true rfl⟩ ⟨Nat.zero_le _, Nat.zero_le _⟩ rfl hl.1 rfl (lv_room (Nat.le_of_ble_eq_true rfl)) dX5_act_35) (fun r10 st9 H locs h hP hS => ?_)
  obtain ⟨hr10, h⟩ := h
  obtain ⟨k11, ek11, lk11, h⟩ := h
  refine z_ordE C hP hS ek11 lk11 q1153 ⟨Nat.le_of_ble_eq_true rfl, Nat.le_of_ble_eq_true rfl⟩ ⟨Nat.zero_le _, Nat.zero_le _⟩ hl.1 (lv_room (Nat.le_of_ble_eq_true rfl)) dX5_act_38 (fun H locs hP hS => ?_)
  obtain ⟨hi12, h⟩ := h
  refine va_ti C.1 C.2.1 ht7 hS hi12 rfl dX5_act_41 ?_
  rcases Classical.em ((kSw (Int32.ofNat k11 : Int32).toNatClampNeg : Int32).toInt < 1 ∨ 6 < (kSw (Int32.ofNat k11 : Int32).toNatClampNeg : Int32).toInt) with hx | hx
  · have h := h.1 hx
    refine lv_tableOut C.1 C.2.1 (tgt := 202) dX5_act_42 hx (by decide) ?_
    refine lv_aload_n C.1 C.2.1 dX5_act_202 rfl (lv_at hl 2 rfl) ?_
    refine lv_iload_n C.1 C.2.1 dX5_act_203 rfl (lv_at hl 1 rfl) ?_
    refine lv_iconst C.1 C.2.1 (v := 1) dX5_act_204 rfl ?_
    refine lv_iadd C.1 C.2.1 dX5_act_205  ?_
    refine z_ki hS (z_runV (As := [.int (x2 + 1)]) (rest := []) C hP hS (m4 hb hL) (e4 hb) rfl (tX5_holds C.2.2.2.2.2.2.1 (hL.mo (Nat.le_of_ble_eq_true rfl) (Nat.le_of_ble_eq_true rfl)) hb h) q1209 q1211 q36 q113 q1212 hdX5_holds ⟨Nat.le_of_ble_eq_true rfl, Nat.le_of_ble_eq_true rfl⟩ ⟨Nat.zero_le _, Nat.zero_le _⟩ rfl hl.1 rfl (lv_room (Nat.le_of_ble_eq_true rfl)) dX5_act_206) (fun r14 st13 H locs h hP hS => ?_)
    obtain ⟨hr14, h⟩ := h
    refine lv_if_eq C.1 C.2.1 (tgt := 224) dX5_act_209 (by decide) (fun hc => ?_) (fun hc => ?_)
    · have h := h.1 hc
      refine lv_aload_n C.1 C.2.1 dX5_act_224 rfl (lv_at hl 2 rfl) ?_
      refine gf4_0 C hP hb (m4 hb hL) q359 dX5_act_225 ?_
      obtain ⟨hc15, h⟩ := h
      obtain ⟨c15, ec15⟩ : ∃ z, z = gR st13 b 0 := ⟨_, rfl⟩
      rw [← ec15]; rw [← ec15] at hc15; have h := h c15 ec15
      refine gn1_14 C hP hc15 (m1 hc15 hL) q219 dX5_act_228 ?_
      refine lv_iload_n C.1 C.2.1 dX5_act_231 rfl (lv_at hl 3 rfl) ?_
      obtain ⟨hi, h⟩ := h
      refine z_iald C hP (k1_11 hc15) (l1_11 hc15) (m1_11 hc15 hL) hi dX5_act_232 ?_
      exact tX5_act_L233 hL C hr hlk hb _ _ _ h (lv_sub hl [2, 0] rfl) hP hS
    · have h := h.2 hc
      refine lv_aload_n C.1 C.2.1 dX5_act_212 rfl (lv_at hl 2 rfl) ?_
      refine gf4_0 C hP hb (m4 hb hL) q359 dX5_act_213 ?_
      obtain ⟨hc16, h⟩ := h
      obtain ⟨c16, ec16⟩ : ∃ z, z = gR st13 b 0 := ⟨_, rfl⟩
      rw [← ec16]; rw [← ec16] at hc16; have h := h c16 ec16
      refine gn1_13 C hP hc16 (m1 hc16 hL) q216 dX5_act_216 ?_
      refine lv_iload_n C.1 C.2.1 dX5_act_219 rfl (lv_at hl 3 rfl) ?_
      obtain ⟨hi, h⟩ := h
      refine z_iald C hP (k1_10 hc16) (l1_10 hc16) (m1_10 hc16 hL) hi dX5_act_220 ?_
      refine lv_goto C.1 C.2.1 (tgt := 233) dX5_act_221 (by decide) ?_
      exact tX5_act_L233 hL C hr hlk hb _ _ _ h (lv_sub hl [2, 0] rfl) hP hS
  · have h := h.2
    have hx : (kSw (Int32.ofNat k11 : Int32).toNatClampNeg : Int32).toInt = 1 ∨ (kSw (Int32.ofNat k11 : Int32).toNatClampNeg : Int32).toInt = 2 ∨ (kSw (Int32.ofNat k11 : Int32).toNatClampNeg : Int32).toInt = 3 ∨ (kSw (Int32.ofNat k11 : Int32).toNatClampNeg : Int32).toInt = 4 ∨ (kSw (Int32.ofNat k11 : Int32).toNatClampNeg : Int32).toInt = 5 ∨ (kSw (Int32.ofNat k11 : Int32).toNatClampNeg : Int32).toInt = 6 := by omega
    rcases hx with hx | hx | hx | hx | hx | hx
    · have h := h.1 (i32_eq (hx.trans (by decide)))
      refine lv_tableIn C.1 C.2.1 (off := 38) (tgt := 80) dX5_act_42 (by omega) (by omega) (by rw [hx]; rfl) (by decide) ?_
      refine lv_aload_n C.1 C.2.1 dX5_act_80 rfl (lv_at hl 2 rfl) ?_
      refine lv_iload_n C.1 C.2.1 dX5_act_81 rfl (lv_at hl 1 rfl) ?_
      refine z_ki hS (z_runV (As := [.int x2]) (rest := []) C hP hS (m4 hb hL) (e4 hb) rfl (tX5_send C.2.2.2.2.2.2.1 (hL.mo (Nat.le_of_ble_eq_true rfl) (Nat.le_of_ble_eq_true rfl)) hb h) q1154 q1156 q30 q113 q1157 hdX5_send ⟨Nat.le_of_ble_eq_true rfl, Nat.le_of_ble_eq_true rfl⟩ ⟨Nat.zero_le _, Nat.zero_le _⟩ rfl hl.1 rfl (lv_room (Nat.le_of_ble_eq_true rfl)) dX5_act_82) (fun r18 st17 H locs h hP hS => ?_)
      obtain ⟨hr18, h⟩ := h
      refine lv_istore_n C.1 C.2.1 dX5_act_85 rfl hl (Nat.le_of_ble_eq_true rfl) rfl (fun ls hl => ?_)
      have hl : lv_has ls 5 [(3, .int r18), (2, .int x2), (0, .ref (E.2.1 b)), (1, .int p1)] := hl
      refine lv_goto C.1 C.2.1 (tgt := 254) dX5_act_86 (by decide) ?_
      refine lv_iload_n C.1 C.2.1 dX5_act_254 rfl (lv_at hl 0 rfl) ?_
      exact z_ri C hr hlk (bz_n hr18) hP hS ⟨hr18, h⟩ dX5_act_255
    · have h := h.2.1 (i32_eq (hx.trans (by decide)))
      refine lv_tableIn C.1 C.2.1 (off := 47) (tgt := 89) dX5_act_42 (by omega) (by omega) (by rw [hx]; rfl) (by decide) ?_
      refine lv_aload_n C.1 C.2.1 dX5_act_89 rfl (lv_at hl 2 rfl) ?_
      refine lv_aload_n C.1 C.2.1 dX5_act_90 rfl (lv_at hl 2 rfl) ?_
      refine lv_iload_n C.1 C.2.1 dX5_act_91 rfl (lv_at hl 1 rfl) ?_
      refine lv_iconst C.1 C.2.1 (v := 1) dX5_act_92 rfl ?_
      refine lv_iadd C.1 C.2.1 dX5_act_93  ?_
      refine z_ki hS (z_runV (As := [.int (x2 + 1)]) (rest := [.ref (E.2.1 b)]) C hP hS (m4 hb hL) (e4 hb) rfl (tX5_valueAt C.2.2.2.2.2.2.1 (hL.mo (Nat.le_of_ble_eq_true rfl) (Nat.le_of_ble_eq_true rfl)) hb h) q1177 q1179 q33 q113 q1180 hdX5_valueAt ⟨Nat.le_of_ble_eq_true rfl, Nat.le_of_ble_eq_true rfl⟩ ⟨Nat.zero_le _, Nat.zero_le _⟩ rfl hl.1 rfl (lv_room (Nat.le_of_ble_eq_true rfl)) dX5_act_94) (fun r20 st19 H locs h hP hS => ?_)
      refine z_kv hS (z_runV (As := [.int r20]) (rest := []) C hP hS (m4 hb hL) (e4 hb) rfl (tX5_restFor C.2.2.2.2.2.2.1 (hL.mo (Nat.le_of_ble_eq_true rfl) (Nat.le_of_ble_eq_true rfl)) hb h) q1192 q1194 q34 q113 q1195 hdX5_restFor ⟨Nat.le_of_ble_eq_true rfl, Nat.le_of_ble_eq_true rfl⟩ ⟨Nat.zero_le _, Nat.zero_le _⟩ rfl hl.1 rfl (lv_room (Nat.le_of_ble_eq_true rfl)) dX5_act_97) (fun st21 H locs h hP hS => ?_)
      refine lv_goto C.1 C.2.1 (tgt := 254) dX5_act_100 (by decide) ?_
      refine lv_iload_n C.1 C.2.1 dX5_act_254 rfl (lv_at hl 0 rfl) ?_
      exact z_ri C hr hlk (bz_n bz1) hP hS ⟨bz1, h⟩ dX5_act_255
    · have h := h.2.2.1 (i32_eq (hx.trans (by decide)))
      refine lv_tableIn C.1 C.2.1 (off := 61) (tgt := 103) dX5_act_42 (by omega) (by omega) (by rw [hx]; rfl) (by decide) ?_
      refine lv_aload_n C.1 C.2.1 dX5_act_103 rfl (lv_at hl 2 rfl) ?_
      refine gf4_1 C hP hb (m4 hb hL) q360 dX5_act_104 ?_
      obtain ⟨hc22, h⟩ := h
      obtain ⟨c22, ec22⟩ : ∃ z, z = gR st9 b 1 := ⟨_, rfl⟩
      rw [← ec22]; rw [← ec22] at hc22; have h := h c22 ec22
      refine lv_aload_n C.1 C.2.1 dX5_act_107 rfl (lv_at hl 2 rfl) ?_
      refine lv_iload_n C.1 C.2.1 dX5_act_108 rfl (lv_at hl 1 rfl) ?_
      refine lv_iconst C.1 C.2.1 (v := 1) dX5_act_109 rfl ?_
      refine lv_iadd C.1 C.2.1 dX5_act_110  ?_
      refine z_ki hS (z_runV (As := [.int (x2 + 1)]) (rest := [.ref (E.2.1 c22)]) C hP hS (m4 hb hL) (e4 hb) rfl (tX5_valueAt C.2.2.2.2.2.2.1 (hL.mo (Nat.le_of_ble_eq_true rfl) (Nat.le_of_ble_eq_true rfl)) hb h) q1177 q1179 q33 q113 q1180 hdX5_valueAt ⟨Nat.le_of_ble_eq_true rfl, Nat.le_of_ble_eq_true rfl⟩ ⟨Nat.zero_le _, Nat.zero_le _⟩ rfl hl.1 rfl (lv_room (Nat.le_of_ble_eq_true rfl)) dX5_act_111) (fun r24 st23 H locs h hP hS => ?_)
      refine z_kv hS (z_runV (As := [.int r24]) (rest := []) C hP hS (m2 hc22 hL) (e2 hc22) rfl (tX2_writeNote C.2.2.2.2.2.2.1 (hL.mo (Nat.le_of_ble_eq_true rfl) (Nat.le_of_ble_eq_true rfl)) hc22 h) q1197 q1198 q1199 q112 q1200 hdX2_writeNote ⟨Nat.le_of_ble_eq_true rfl, Nat.le_of_ble_eq_true rfl⟩ ⟨Nat.zero_le _, Nat.zero_le _⟩ rfl hl.1 rfl (lv_room (Nat.le_of_ble_eq_true rfl)) dX5_act_114) (fun st25 H locs h hP hS => ?_)
      refine lv_goto C.1 C.2.1 (tgt := 254) dX5_act_117 (by decide) ?_
      refine lv_iload_n C.1 C.2.1 dX5_act_254 rfl (lv_at hl 0 rfl) ?_
      exact z_ri C hr hlk (bz_n bz1) hP hS ⟨bz1, h⟩ dX5_act_255
    · have h := h.2.2.2.1 (i32_eq (hx.trans (by decide)))
      refine lv_tableIn C.1 C.2.1 (off := 78) (tgt := 120) dX5_act_42 (by omega) (by omega) (by rw [hx]; rfl) (by decide) ?_
      refine lv_aload_n C.1 C.2.1 dX5_act_120 rfl (lv_at hl 2 rfl) ?_
      refine gf4_1 C hP hb (m4 hb hL) q360 dX5_act_121 ?_
      obtain ⟨hc26, h⟩ := h
      obtain ⟨c26, ec26⟩ : ∃ z, z = gR st9 b 1 := ⟨_, rfl⟩
      rw [← ec26]; rw [← ec26] at hc26; have h := h c26 ec26
      refine lv_aload_n C.1 C.2.1 dX5_act_124 rfl (lv_at hl 2 rfl) ?_
      refine lv_iload_n C.1 C.2.1 dX5_act_125 rfl (lv_at hl 1 rfl) ?_
      refine lv_iconst C.1 C.2.1 (v := 1) dX5_act_126 rfl ?_
      refine lv_iadd C.1 C.2.1 dX5_act_127  ?_
      refine z_ki hS (z_runV (As := [.int (x2 + 1)]) (rest := [.ref (E.2.1 c26)]) C hP hS (m4 hb hL) (e4 hb) rfl (tX5_valueAt C.2.2.2.2.2.2.1 (hL.mo (Nat.le_of_ble_eq_true rfl) (Nat.le_of_ble_eq_true rfl)) hb h) q1177 q1179 q33 q113 q1180 hdX5_valueAt ⟨Nat.le_of_ble_eq_true rfl, Nat.le_of_ble_eq_true rfl⟩ ⟨Nat.zero_le _, Nat.zero_le _⟩ rfl hl.1 rfl (lv_room (Nat.le_of_ble_eq_true rfl)) dX5_act_128) (fun r28 st27 H locs h hP hS => ?_)
      refine z_ki hS (z_runV (As := [.int r28]) (rest := []) C hP hS (m2 hc26 hL) (e2 hc26) rfl (tX2_mendFirst C.2.2.2.2.2.2.1 (hL.mo (Nat.le_of_ble_eq_true rfl) (Nat.le_of_ble_eq_true rfl)) hc26 h) q1201 q1202 q1203 q112 q1204 hdX2_mendFirst ⟨Nat.le_of_ble_eq_true rfl, Nat.le_of_ble_eq_true rfl⟩ ⟨Nat.zero_le _, Nat.zero_le _⟩ rfl hl.1 rfl (lv_room (Nat.le_of_ble_eq_true rfl)) dX5_act_131) (fun r30 st29 H locs h hP hS => ?_)
      obtain ⟨hr30, h⟩ := h
      refine lv_istore_n C.1 C.2.1 dX5_act_134 rfl hl (Nat.le_of_ble_eq_true rfl) rfl (fun ls hl => ?_)
      have hl : lv_has ls 5 [(3, .int r30), (2, .int x2), (0, .ref (E.2.1 b)), (1, .int p1)] := hl
      refine lv_goto C.1 C.2.1 (tgt := 254) dX5_act_135 (by decide) ?_
      refine lv_iload_n C.1 C.2.1 dX5_act_254 rfl (lv_at hl 0 rfl) ?_
      exact z_ri C hr hlk (bz_n hr30) hP hS ⟨hr30, h⟩ dX5_act_255
    · have h := h.2.2.2.2.1 (i32_eq (hx.trans (by decide)))
      refine lv_tableIn C.1 C.2.1 (off := 96) (tgt := 138) dX5_act_42 (by omega) (by omega) (by rw [hx]; rfl) (by decide) ?_
      refine lv_aload_n C.1 C.2.1 dX5_act_138 rfl (lv_at hl 2 rfl) ?_
      refine lv_iload_n C.1 C.2.1 dX5_act_139 rfl (lv_at hl 3 rfl) ?_
      refine lv_aload_n C.1 C.2.1 dX5_act_140 rfl (lv_at hl 2 rfl) ?_
      refine gf4_0 C hP hb (m4 hb hL) q359 dX5_act_141 ?_
      obtain ⟨hc31, h⟩ := h
      obtain ⟨c31, ec31⟩ : ∃ z, z = gR st9 b 0 := ⟨_, rfl⟩
      rw [← ec31]; rw [← ec31] at hc31; have h := h c31 ec31
      refine gn1_0 C hP hc31 (m1 hc31 hL) q191 dX5_act_144 ?_
      refine lv_iload_n C.1 C.2.1 dX5_act_147 rfl (lv_at hl 1 rfl) ?_
      refine lv_iconst C.1 C.2.1 (v := 1) dX5_act_148 rfl ?_
      refine lv_iadd C.1 C.2.1 dX5_act_149  ?_
      refine z_ki hS (z_runV (As := [.int (x2 + 1)]) (rest := [.int p1, .ref (E.2.1 b)]) C hP hS (m1_12 hc31 hL) (e6 (k1_12 hc31)) rfl (tX7_numberAt C.2.2.2.2.2.2.1 (hL.mo (Nat.le_of_ble_eq_true rfl) (Nat.le_of_ble_eq_true rfl)) (k1_12 hc31) h) q1163 q538 q539 q108 q540 hdX7_numberAt ⟨Nat.le_of_ble_eq_true rfl, Nat.le_of_ble_eq_true rfl⟩ ⟨Nat.zero_le _, Nat.zero_le _⟩ rfl hl.1 rfl (lv_room (Nat.le_of_ble_eq_true rfl)) dX5_act_150) (fun r33 st32 H locs h hP hS => ?_)
      refine z_kv hS (z_runV (As := [.int p1, .int r33]) (rest := []) C hP hS (m4 hb hL) (e4 hb) rfl (tX5_enterPlan C.2.2.2.2.2.2.1 (hL.mo (Nat.le_of_ble_eq_true rfl) (Nat.le_of_ble_eq_true rfl)) hb h) q1205 q1207 q35 q113 q1208 hdX5_enterPlan ⟨Nat.le_of_ble_eq_true rfl, Nat.le_of_ble_eq_true rfl⟩ ⟨Nat.zero_le _, Nat.zero_le _⟩ rfl hl.1 rfl (lv_room (Nat.le_of_ble_eq_true rfl)) dX5_act_153) (fun st34 H locs h hP hS => ?_)
      refine lv_goto C.1 C.2.1 (tgt := 254) dX5_act_156 (by decide) ?_
      refine lv_iload_n C.1 C.2.1 dX5_act_254 rfl (lv_at hl 0 rfl) ?_
      exact z_ri C hr hlk (bz_n bz1) hP hS ⟨bz1, h⟩ dX5_act_255
    · have h := h.2.2.2.2.2 (i32_eq (hx.trans (by decide)))
      refine lv_tableIn C.1 C.2.1 (off := 117) (tgt := 159) dX5_act_42 (by omega) (by omega) (by rw [hx]; rfl) (by decide) ?_
      refine lv_aload_n C.1 C.2.1 dX5_act_159 rfl (lv_at hl 2 rfl) ?_
      refine lv_iload_n C.1 C.2.1 dX5_act_160 rfl (lv_at hl 1 rfl) ?_
      refine lv_iconst C.1 C.2.1 (v := 1) dX5_act_161 rfl ?_
      refine lv_iadd C.1 C.2.1 dX5_act_162  ?_
      refine z_ki hS (z_runV (As := [.int (x2 + 1)]) (rest := []) C hP hS (m4 hb hL) (e4 hb) rfl (tX5_holds C.2.2.2.2.2.2.1 (hL.mo (Nat.le_of_ble_eq_true rfl) (Nat.le_of_ble_eq_true rfl)) hb h) q1209 q1211 q36 q113 q1212 hdX5_holds ⟨Nat.le_of_ble_eq_true rfl, Nat.le_of_ble_eq_true rfl⟩ ⟨Nat.zero_le _, Nat.zero_le _⟩ rfl hl.1 rfl (lv_room (Nat.le_of_ble_eq_true rfl)) dX5_act_163) (fun r36 st35 H locs h hP hS => ?_)
      obtain ⟨hr36, h⟩ := h
      refine lv_if_eq C.1 C.2.1 (tgt := 254) dX5_act_166 (by decide) (fun hc => ?_) (fun hc => ?_)
      · have h := h.1 hc
        refine lv_iload_n C.1 C.2.1 dX5_act_254 rfl (lv_at hl 0 rfl) ?_
        exact z_ri C hr hlk (bz_n bz1) hP hS ⟨bz1, h⟩ dX5_act_255
      · have h := h.2 hc
        refine lv_aload_n C.1 C.2.1 dX5_act_169 rfl (lv_at hl 2 rfl) ?_
        refine lv_aload_n C.1 C.2.1 dX5_act_170 rfl (lv_at hl 2 rfl) ?_
        refine gf4_0 C hP hb (m4 hb hL) q359 dX5_act_171 ?_
        obtain ⟨hc37, h⟩ := h
        obtain ⟨c37, ec37⟩ : ∃ z, z = gR st35 b 0 := ⟨_, rfl⟩
        rw [← ec37]; rw [← ec37] at hc37; have h := h c37 ec37
        refine gn1_13 C hP hc37 (m1 hc37 hL) q216 dX5_act_174 ?_
        refine lv_iload_n C.1 C.2.1 dX5_act_177 rfl (lv_at hl 3 rfl) ?_
        obtain ⟨hi, h⟩ := h
        refine z_iald C hP (k1_10 hc37) (l1_10 hc37) (m1_10 hc37 hL) hi dX5_act_178 ?_
        refine lv_iconst C.1 C.2.1 (v := (-1)) dX5_act_179 rfl ?_
        refine lv_icmp_ne C.1 C.2.1 (tgt := 187) dX5_act_180 (by decide) (fun hc => ?_) (fun hc => ?_)
        · have h := h.1 hc
          refine lv_aload_n C.1 C.2.1 dX5_act_187 rfl (lv_at hl 2 rfl) ?_
          refine gf4_0 C hP hb (m4 hb hL) q359 dX5_act_188 ?_
          obtain ⟨hc38, h⟩ := h
          obtain ⟨c38, ec38⟩ : ∃ z, z = gR st35 b 0 := ⟨_, rfl⟩
          rw [← ec38]; rw [← ec38] at hc38; have h := h c38 ec38
          refine gn1_13 C hP hc38 (m1 hc38 hL) q216 dX5_act_191 ?_
          refine lv_iload_n C.1 C.2.1 dX5_act_194 rfl (lv_at hl 3 rfl) ?_
          obtain ⟨hi, h⟩ := h
          refine z_iald C hP (k1_10 hc38) (l1_10 hc38) (m1_10 hc38 hL) hi dX5_act_195 ?_
          exact tX5_act_L196 hL C hr hlk hb _ _ _ h (lv_sub hl [0] rfl) hP hS
        · have h := h.2 hc
          refine lv_iload_n C.1 C.2.1 dX5_act_183 rfl (lv_at hl 3 rfl) ?_
          refine lv_goto C.1 C.2.1 (tgt := 196) dX5_act_184 (by decide) ?_
          exact tX5_act_L196 hL C hr hlk hb _ _ _ h (lv_sub hl [0] rfl) hP hS
def rmX5_perform : Room := { frames := 6, cells := 0, slots := 0, locals := 139 }
def wX5_perform_L125 (b : Nat) (p1 : Nat) (p2 : Nat) (p3 : Int32) (R33 : Int32 × Int32 × St → Prop) (v4 : Int32) (v5 : Int32) (st : St) (Q : Int32 → St → Prop) : Prop :=
  (∀ x19 : Int32, x19 = v5 + 1 → R33 (v4, x19, st))
def wX5_perform_L33 (b : Nat) (p1 : Nat) (p2 : Nat) (p3 : Int32)  (R33 : Int32 × Int32 × St → Prop) (v4 : Int32) (v5 : Int32) (st : St) (Q : Int32 → St → Prop) : Prop :=
  ((1000 ≤ v5 → Q v4 st) ∧ (¬ 1000 ≤ v5 → ((100 ≤ v4 → Q v4 st) ∧ (¬ 100 ≤ v4 → (kd (gR st b 0) = 1 ∧ ∀ c8, c8 = gR st b 0 → (wX1_hasAct c8 (gI st b 4) st (fun r10 st9 => ((r10 = 0 → (((gI st9 b 3) ≤ 0 → Q v4 st9) ∧ (¬ (gI st9 b 3) ≤ 0 → (∀ st11, st11 = uI st9 b 3 ((gI st9 b 3) - 1) → (kd (gR st11 b 0) = 1 ∧ ∀ c12, c12 = gR st11 b 0 → (vp_in (gI st11 b 3) 6 ∧ (wX1_actBehind c12 (gI st11 (b + 1) (gI st11 b 3 : Int32).toNatClampNeg) st11 (fun r14 st13 => (∀ st15, st15 = uI st13 b 4 r14 → wX5_perform_L125 b p1 p2 p3 R33 v4 v5 st15 Q))))))))) ∧ (¬ r10 = 0 → (wX5_act b (gI st9 b 4) st9 (fun r17 st16 => ((¬ r17 = 0 → (∀ x18 : Int32, x18 = v4 + 1 → wX5_perform_L125 b p1 p2 p3 R33 x18 v5 st16 Q)) ∧ (r17 = 0 → Q v4 st16)))))))))))))
def wX5_perform (b : Nat) (p1 : Nat) (p2 : Nat) (p3 : Int32) (st : St) (Q : Int32 → St → Prop) : Prop :=
  (∀ st1, st1 = uR st b 0 p1 → (∀ st2, st2 = uR st1 b 1 p2 → (∀ st3, st3 = uI st2 b 3 0 → (kd (gR st3 b 0) = 1 ∧ ∀ c4, c4 = gR st3 b 0 → (wX1_firstActOf c4 p3 st3 (fun r6 st5 => (∀ st7, st7 = uI st5 b 4 r6 → (∃ n, lp (fun R s => wX5_perform_L33 b p1 p2 p3 R s.1 s.2.1 s.2.2 Q) n (0, 0, st7)))))))))
theorem hdX5_perform : yX5_perform.cls = "PlankBridge$Run" ∧ yX5_perform.cls ≠ "java/lang/invoke/MethodHandle" ∧ yX5_perform.cls ≠ "java/lang/invoke/VarHandle" ∧ (parseMethodDescriptor yX5_perform.desc).map (fun d => d.parameters.length) = some 3 := by decide +kernel
set_option maxHeartbeats 4000000 in
set_option maxRecDepth 100000 in
theorem tX5_perform_L125 {l : Launch} {p : Program} {e : Env} {s : State} {m : MethodId} {args : Array Value} {below : List Frame} {meth : Method} {c : Code} {E : En0} {L : List Nat} (hL : Cov 0 54 L) (C : Cx E L "PlankBridge$Run" cX5_perform 6 p s m args c) (hr : meth.sig.returnType = (some .int)) (hlk : meth.locks = false) {b : Nat} {p1 : Nat} {p2 : Nat} {p3 : Int32} {Q : Int32 → St → Prop} (hb : kd b = 4) (hp1 : kd p1 = 1) (hp2 : kd p2 = 2) {R33 : Int32 × Int32 × St → Prop} (hR33 : ∀ (v4 : Int32) (v5 : Int32) (st : St), ∀ (H : Heap) (locs : List Loc) (ls : Array Slot), R33 (v4, v5, st) → lv_has ls 6 [(0, .ref (E.2.1 b)), (4, .int v4), (5, .int v5)] → va_P E.1 vwCl (wd E L st) H → va_S (fA E L s.heap.size) s.heap H locs → W p l e rmX5_perform s m args below meth c H locs 0 0 (MQ below (zI E L Q (fA E L s.heap.size)) args s rmX5_perform.cells rmX5_perform.slots (fA E L s.heap.size)) (F0 m 33 ls [])) {v4 : Int32} {v5 : Int32}  {st : St} (H : Heap) (locs : List Loc) (ls : Array Slot) (h : wX5_perform_L125 b p1 p2 p3 R33 v4 v5 st Q) (hl : lv_has ls 6 [(0, .ref (E.2.1 b)), (4, .int v4), (5, .int v5)]) (hP : va_P E.1 vwCl (wd E L st) H) (hS : va_S (fA E L s.heap.size) s.heap H locs) : W p l e rmX5_perform s m args below meth c H locs 0 0 (MQ below (zI E L Q (fA E L s.heap.size)) args s rmX5_perform.cells rmX5_perform.slots (fA E L s.heap.size)) (F0 m 125 ls []) := by
  unfold wX5_perform_L125 at h
  obtain ⟨x19, ex19⟩ : ∃ z, z = v5 + 1 := ⟨_, rfl⟩
  have h := h x19 ex19
  refine lv_iinc C.1 C.2.1 dX5_perform_125 hl (k := 2) rfl ex19.symm (Nat.le_of_ble_eq_true rfl) rfl (fun ls hl => ?_)
  have hl : lv_has ls 6 [(5, .int x19), (0, .ref (E.2.1 b)), (4, .int v4)] := hl
  refine lv_goto C.1 C.2.1 (tgt := 33) dX5_perform_128 (by decide) ?_
  exact hR33 v4 x19 st _ _ _ h (lv_sub hl [1, 2, 0] rfl) hP hS
set_option maxHeartbeats 4000000 in
set_option maxRecDepth 100000 in
theorem tX5_perform_L33 {l : Launch} {p : Program} {e : Env} {s : State} {m : MethodId} {args : Array Value} {below : List Frame} {meth : Method} {c : Code} {E : En0} {L : List Nat} (hL : Cov 0 54 L) (C : Cx E L "PlankBridge$Run" cX5_perform 6 p s m args c) (hr : meth.sig.returnType = (some .int)) (hlk : meth.locks = false) {b : Nat} {p1 : Nat} {p2 : Nat} {p3 : Int32} {Q : Int32 → St → Prop} (hb : kd b = 4) (hp1 : kd p1 = 1) (hp2 : kd p2 = 2) : ∀ (n : Nat) (v4 : Int32) (v5 : Int32) (st : St) (H : Heap) (locs : List Loc) (ls : Array Slot), lp (fun R s => wX5_perform_L33 b p1 p2 p3 R s.1 s.2.1 s.2.2 Q) n (v4, v5, st) → lv_has ls 6 [(0, .ref (E.2.1 b)), (4, .int v4), (5, .int v5)] → va_P E.1 vwCl (wd E L st) H → va_S (fA E L s.heap.size) s.heap H locs → W p l e rmX5_perform s m args below meth c H locs 0 0 (MQ below (zI E L Q (fA E L s.heap.size)) args s rmX5_perform.cells rmX5_perform.slots (fA E L s.heap.size)) (F0 m 33 ls []) := by
  intro n
  induction n with
  | zero => exact fun _ _ _ _ _ _ h _ _ _ => False.elim ‹_›
  | succ n ih =>
    intro v4 v5 st  H locs ls h hl hP hS
    have hR33 := ih
    replace h : wX5_perform_L33 b p1 p2 p3 (lp (fun R s => wX5_perform_L33 b p1 p2 p3 R s.1 s.2.1 s.2.2 Q) n) v4 v5 st Q := h
    unfold wX5_perform_L33 at h
    refine lv_iload C.1 C.2.1 dX5_perform_33 (lv_at hl 2 rfl) ?_
    refine lv_sipush C.1 C.2.1 (v := 1000) dX5_perform_35 rfl ?_
    refine lv_icmp_ge C.1 C.2.1 (tgt := 131) dX5_perform_38 (by decide) (fun hc => ?_) (fun hc => ?_)
    · have h := h.1 hc
      refine lv_iload C.1 C.2.1 dX5_perform_131 (lv_at hl 1 rfl) ?_
      exact z_ri C hr hlk rfl hP hS h dX5_perform_133
    · have h := h.2 hc
      refine lv_iload C.1 C.2.1 dX5_perform_41 (lv_at hl 1 rfl) ?_
      refine lv_bipush C.1 C.2.1 (v := 100) dX5_perform_43 rfl ?_
      refine lv_icmp_ge C.1 C.2.1 (tgt := 131) dX5_perform_45 (by decide) (fun hc => ?_) (fun hc => ?_)
      · have h := h.1 hc
        refine lv_iload C.1 C.2.1 dX5_perform_131 (lv_at hl 1 rfl) ?_
        exact z_ri C hr hlk rfl hP hS h dX5_perform_133
      · have h := h.2 hc
        refine lv_aload_n C.1 C.2.1 dX5_perform_48 rfl (lv_at hl 0 rfl) ?_
        refine gf4_0 C hP hb (m4 hb hL) q359 dX5_perform_49 ?_
        obtain ⟨hc8, h⟩ := h
        obtain ⟨c8, ec8⟩ : ∃ z, z = gR st b 0 := ⟨_, rfl⟩
        rw [← ec8]; rw [← ec8] at hc8; have h := h c8 ec8
        refine lv_aload_n C.1 C.2.1 dX5_perform_52 rfl (lv_at hl 0 rfl) ?_
        refine gf4_4 C hP hb (m4 hb hL) q363 dX5_perform_53 ?_
        refine z_ki hS (z_runV (As := [.int (gI st b 4)]) (rest := []) C hP hS (m1 hc8 hL) (e1 hc8) rfl (tX1_hasAct C.2.2.2.2.2.2.1 (hL.mo (Nat.le_of_ble_eq_true rfl) (Nat.le_of_ble_eq_true rfl)) hc8 h) q1138 q582 q583 q107 q584 hdX1_hasAct ⟨Nat.le_of_ble_eq_true rfl, Nat.le_of_ble_eq_true rfl⟩ ⟨Nat.zero_le _, Nat.zero_le _⟩ rfl hl.1 rfl (lv_room (Nat.le_of_ble_eq_true rfl)) dX5_perform_56) (fun r10 st9 H locs h hP hS => ?_)
        obtain ⟨hr10, h⟩ := h
        refine lv_if_eq C.1 C.2.1 (tgt := 82) dX5_perform_59 (by decide) (fun hc => ?_) (fun hc => ?_)
        · have h := h.1 hc
          refine lv_aload_n C.1 C.2.1 dX5_perform_82 rfl (lv_at hl 0 rfl) ?_
          refine gf4_3 C hP hb (m4 hb hL) q362 dX5_perform_83 ?_
          refine lv_if_le C.1 C.2.1 (tgt := 122) dX5_perform_86 (by decide) (fun hc => ?_) (fun hc => ?_)
          · have h := h.1 hc
            refine lv_iload C.1 C.2.1 dX5_perform_122 (lv_at hl 1 rfl) ?_
            exact z_ri C hr hlk rfl hP hS h dX5_perform_124
          · have h := h.2 hc
            refine lv_aload_n C.1 C.2.1 dX5_perform_89 rfl (lv_at hl 0 rfl) ?_
            refine lv_dup C.1 C.2.1 dX5_perform_90 rfl ?_
            refine gf4_3 C hP hb (m4 hb hL) q362 dX5_perform_91 ?_
            refine lv_iconst C.1 C.2.1 (v := 1) dX5_perform_94 rfl ?_
            refine lv_isub C.1 C.2.1 dX5_perform_95  ?_
            refine pf4_3 C hP hS hb (m4 hb hL) q362 dX5_perform_96 (fun H locs hP hS => ?_)
            obtain ⟨st11, est11⟩ : ∃ z, z = uI st9 b 3 ((gI st9 b 3) - 1) := ⟨_, rfl⟩
            rw [← est11] at hP; have h := h st11 est11
            refine lv_aload_n C.1 C.2.1 dX5_perform_99 rfl (lv_at hl 0 rfl) ?_
            refine lv_aload_n C.1 C.2.1 dX5_perform_100 rfl (lv_at hl 0 rfl) ?_
            refine gf4_0 C hP hb (m4 hb hL) q359 dX5_perform_101 ?_
            obtain ⟨hc12, h⟩ := h
            obtain ⟨c12, ec12⟩ : ∃ z, z = gR st11 b 0 := ⟨_, rfl⟩
            rw [← ec12]; rw [← ec12] at hc12; have h := h c12 ec12
            refine lv_aload_n C.1 C.2.1 dX5_perform_104 rfl (lv_at hl 0 rfl) ?_
            refine gf4_2 C hP hb (m4 hb hL) q361 dX5_perform_105 ?_
            refine lv_aload_n C.1 C.2.1 dX5_perform_108 rfl (lv_at hl 0 rfl) ?_
            refine gf4_3 C hP hb (m4 hb hL) q362 dX5_perform_109 ?_
            obtain ⟨hi, h⟩ := h
            refine z_iald C hP (k4_1 hb) (l4_1 hb) (m4_1 hb hL) hi dX5_perform_112 ?_
            refine z_ki hS (z_runV (As := [.int (gI st11 (b + 1) (gI st11 b 3 : Int32).toNatClampNeg)]) (rest := [.ref (E.2.1 b)]) C hP hS (m1 hc12 hL) (e1 hc12) rfl (tX1_actBehind C.2.2.2.2.2.2.1 (hL.mo (Nat.le_of_ble_eq_true rfl) (Nat.le_of_ble_eq_true rfl)) hc12 h) q1143 q1144 q1145 q107 q1146 hdX1_actBehind ⟨Nat.le_of_ble_eq_true rfl, Nat.le_of_ble_eq_true rfl⟩ ⟨Nat.zero_le _, Nat.zero_le _⟩ rfl hl.1 rfl (lv_room (Nat.le_of_ble_eq_true rfl)) dX5_perform_113) (fun r14 st13 H locs h hP hS => ?_)
            refine pf4_4 C hP hS hb (m4 hb hL) q363 dX5_perform_116 (fun H locs hP hS => ?_)
            obtain ⟨st15, est15⟩ : ∃ z, z = uI st13 b 4 r14 := ⟨_, rfl⟩
            rw [← est15] at hP; have h := h st15 est15
            refine lv_goto C.1 C.2.1 (tgt := 125) dX5_perform_119 (by decide) ?_
            exact tX5_perform_L125 hL C hr hlk hb hp1 hp2 hR33 _ _ _ h hl hP hS
        · have h := h.2 hc
          refine lv_aload_n C.1 C.2.1 dX5_perform_62 rfl (lv_at hl 0 rfl) ?_
          refine lv_aload_n C.1 C.2.1 dX5_perform_63 rfl (lv_at hl 0 rfl) ?_
          refine gf4_4 C hP hb (m4 hb hL) q363 dX5_perform_64 ?_
          refine z_ki hS (z_runV (As := [.int (gI st9 b 4)]) (rest := []) C hP hS (m4 hb hL) (e4 hb) rfl (tX5_act C.2.2.2.2.2.2.1 (hL.mo (Nat.le_of_ble_eq_true rfl) (Nat.le_of_ble_eq_true rfl)) hb h) q1139 q1141 q29 q113 q1142 hdX5_act ⟨Nat.le_of_ble_eq_true rfl, Nat.le_of_ble_eq_true rfl⟩ ⟨Nat.zero_le _, Nat.zero_le _⟩ rfl hl.1 rfl (lv_room (Nat.le_of_ble_eq_true rfl)) dX5_perform_67) (fun r17 st16 H locs h hP hS => ?_)
          obtain ⟨hr17, h⟩ := h
          refine lv_if_ne C.1 C.2.1 (tgt := 76) dX5_perform_70 (by decide) (fun hc => ?_) (fun hc => ?_)
          · have h := h.1 hc
            obtain ⟨x18, ex18⟩ : ∃ z, z = v4 + 1 := ⟨_, rfl⟩
            have h := h x18 ex18
            refine lv_iinc C.1 C.2.1 dX5_perform_76 hl (k := 1) rfl ex18.symm (Nat.le_of_ble_eq_true rfl) rfl (fun ls hl => ?_)
            have hl : lv_has ls 6 [(4, .int x18), (0, .ref (E.2.1 b)), (5, .int v5)] := hl
            refine lv_goto C.1 C.2.1 (tgt := 125) dX5_perform_79 (by decide) ?_
            exact tX5_perform_L125 hL C hr hlk hb hp1 hp2 hR33 _ _ _ h (lv_sub hl [1, 0, 2] rfl) hP hS
          · have h := h.2 hc
            refine lv_iload C.1 C.2.1 dX5_perform_73 (lv_at hl 1 rfl) ?_
            exact z_ri C hr hlk rfl hP hS h dX5_perform_75
set_option maxHeartbeats 4000000 in
set_option maxRecDepth 100000 in
theorem tX5_perform {l : Launch} {E : En0} {L : List Nat} (hE : EK E L) (hL : Cov 0 54 L) {b : Nat} {p1 : Nat} {p2 : Nat} {p3 : Int32} {st : St} {Q : Int32 → St → Prop} (hb : kd b = 4) (hp1 : kd p1 = 1) (hp2 : kd p2 = 2) (h : wX5_perform b p1 p2 p3 st Q) : Mz l yX5_perform cX5_perform 6 (some .int) rmX5_perform E L [.ref (E.2.1 b), .ref (E.2.1 p1), .ref (E.2.1 p2), .int p3] st (zI E L Q) := by
  refine Mz.of hE (by decide) (Nat.le_of_ble_eq_true rfl) ?_
  intro p e s m below meth c ls C hr hlk _ hl hP
  replace C : Cx E L "PlankBridge$Run" cX5_perform 6 p s m _ c := C
  have hS : va_S (fA E L s.heap.size) s.heap s.heap [] := va_S.rf
  replace hl : lv_has ls 6 [(0, .ref (E.2.1 b)), (1, .ref (E.2.1 p1)), (2, .ref (E.2.1 p2)), (3, .int p3)] := hl
  unfold wX5_perform at h
  refine lv_aload_n C.1 C.2.1 dX5_perform_0 rfl (lv_at hl 0 rfl) ?_
  refine lv_aload_n C.1 C.2.1 dX5_perform_1 rfl (lv_at hl 1 rfl) ?_
  refine pf4_0 C hP hS hb (m4 hb hL) q359 dX5_perform_2 (fun H locs hP hS => ?_)
  obtain ⟨st1, est1⟩ : ∃ z, z = uR st b 0 p1 := ⟨_, rfl⟩
  rw [← est1] at hP; have h := h st1 est1
  refine lv_aload_n C.1 C.2.1 dX5_perform_5 rfl (lv_at hl 0 rfl) ?_
  refine lv_aload_n C.1 C.2.1 dX5_perform_6 rfl (lv_at hl 2 rfl) ?_
  refine pf4_1 C hP hS hb (m4 hb hL) q360 dX5_perform_7 (fun H locs hP hS => ?_)
  obtain ⟨st2, est2⟩ : ∃ z, z = uR st1 b 1 p2 := ⟨_, rfl⟩
  rw [← est2] at hP; have h := h st2 est2
  refine lv_aload_n C.1 C.2.1 dX5_perform_10 rfl (lv_at hl 0 rfl) ?_
  refine lv_iconst C.1 C.2.1 (v := 0) dX5_perform_11 rfl ?_
  refine pf4_3 C hP hS hb (m4 hb hL) q362 dX5_perform_12 (fun H locs hP hS => ?_)
  obtain ⟨st3, est3⟩ : ∃ z, z = uI st2 b 3 0 := ⟨_, rfl⟩
  rw [← est3] at hP; have h := h st3 est3
  refine lv_aload_n C.1 C.2.1 dX5_perform_15 rfl (lv_at hl 0 rfl) ?_
  refine lv_aload_n C.1 C.2.1 dX5_perform_16 rfl (lv_at hl 0 rfl) ?_
  refine gf4_0 C hP hb (m4 hb hL) q359 dX5_perform_17 ?_
  obtain ⟨hc4, h⟩ := h
  obtain ⟨c4, ec4⟩ : ∃ z, z = gR st3 b 0 := ⟨_, rfl⟩
  rw [← ec4]; rw [← ec4] at hc4; have h := h c4 ec4
  refine lv_iload_n C.1 C.2.1 dX5_perform_20 rfl (lv_at hl 3 rfl) ?_
  refine z_ki hS (z_runV (As := [.int p3]) (rest := [.ref (E.2.1 b)]) C hP hS (m1 hc4 hL) (e1 hc4) rfl (tX1_firstActOf C.2.2.2.2.2.2.1 (hL.mo (Nat.le_of_ble_eq_true rfl) (Nat.le_of_ble_eq_true rfl)) hc4 h) q1134 q1135 q1136 q107 q1137 hdX1_firstActOf ⟨Nat.le_of_ble_eq_true rfl, Nat.le_of_ble_eq_true rfl⟩ ⟨Nat.zero_le _, Nat.zero_le _⟩ rfl hl.1 rfl (lv_room (Nat.le_of_ble_eq_true rfl)) dX5_perform_21) (fun r6 st5 H locs h hP hS => ?_)
  refine pf4_4 C hP hS hb (m4 hb hL) q363 dX5_perform_24 (fun H locs hP hS => ?_)
  obtain ⟨st7, est7⟩ : ∃ z, z = uI st5 b 4 r6 := ⟨_, rfl⟩
  rw [← est7] at hP; have h := h st7 est7
  refine lv_iconst C.1 C.2.1 (v := 0) dX5_perform_27 rfl ?_
  refine lv_istore C.1 C.2.1 dX5_perform_28 hl (Nat.le_of_ble_eq_true rfl) rfl (fun ls hl => ?_)
  have hl : lv_has ls 6 [(4, .int 0), (0, .ref (E.2.1 b)), (1, .ref (E.2.1 p1)), (2, .ref (E.2.1 p2)), (3, .int p3)] := hl
  refine lv_iconst C.1 C.2.1 (v := 0) dX5_perform_30 rfl ?_
  refine lv_istore C.1 C.2.1 dX5_perform_31 hl (Nat.le_of_ble_eq_true rfl) rfl (fun ls hl => ?_)
  have hl : lv_has ls 6 [(5, .int 0), (4, .int 0), (0, .ref (E.2.1 b)), (1, .ref (E.2.1 p1)), (2, .ref (E.2.1 p2)), (3, .int p3)] := hl
  obtain ⟨n, h⟩ := h
  exact tX5_perform_L33 hL C hr hlk hb hp1 hp2 n 0 0 st7 _ _ _ h (lv_sub hl [2, 1, 0] rfl) hP hS

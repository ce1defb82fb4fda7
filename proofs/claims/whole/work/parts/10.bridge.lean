def rmX2_hasWalker : Room := { frames := 0, cells := 0, slots := 0, locals := 0 }
def wX2_hasWalker (b : Nat) (p1 : Int32) (st : St) (Q : Int32 → St → Prop) : Prop :=
  ((p1 < 0 → Q 0 st) ∧ (¬ p1 < 0 → (((gI st b 0) ≤ p1 → Q 0 st) ∧ (¬ (gI st b 0) ≤ p1 → Q 1 st))))
theorem hdX2_hasWalker : yX2_hasWalker.cls = "PlankBridge$Bridge" ∧ yX2_hasWalker.cls ≠ "java/lang/invoke/MethodHandle" ∧ yX2_hasWalker.cls ≠ "java/lang/invoke/VarHandle" ∧ (parseMethodDescriptor yX2_hasWalker.desc).map (fun d => d.parameters.length) = some 1 := by decide +kernel
set_option maxHeartbeats 4000000 in
set_option maxRecDepth 100000 in
theorem tX2_hasWalker {l : Launch} {E : En0} {L : List Nat} (hE : EK E L) (hL : Cov 0 54 L) {b : Nat} {p1 : Int32} {st : St} {Q : Int32 → St → Prop} (hb : kd b = 2) (h : wX2_hasWalker b p1 st Q) : Mz l yX2_hasWalker cX2_hasWalker 2 (some .boolean) rmX2_hasWalker E L [.ref (E.2.1 b), .int p1] st (zI E L (fun r u => bz r ∧ Q r u)) := by
  refine Mz.of hE (by decide) (Nat.le_of_ble_eq_true rfl) ?_
  intro p e s m below meth c ls C hr hlk _ hl hP
  replace C : Cx E L "PlankBridge$Bridge" cX2_hasWalker 2 p s m _ c := C
  have hS : va_S (fA E L s.heap.size) s.heap s.heap [] := va_S.rf
  replace hl : lv_has ls 2 [(0, .ref (E.2.1 b)), (1, .int p1)] := hl
  unfold wX2_hasWalker at h
  refine lv_iload_n C.1 C.2.1 dX2_hasWalker_0 rfl (lv_at hl 1 rfl) ?_
  refine lv_if_lt C.1 C.2.1 (tgt := 16) dX2_hasWalker_1 (by decide) (fun hc => ?_) (fun hc => ?_)
  · have h := h.1 hc
    refine lv_iconst C.1 C.2.1 (v := 0) dX2_hasWalker_16 rfl ?_
    exact z_ri C hr hlk (bz_n bz0) hP hS ⟨bz0, h⟩ dX2_hasWalker_17
  · have h := h.2 hc
    refine lv_iload_n C.1 C.2.1 dX2_hasWalker_4 rfl (lv_at hl 1 rfl) ?_
    refine lv_aload_n C.1 C.2.1 dX2_hasWalker_5 rfl (lv_at hl 0 rfl) ?_
    refine gf2_0 C hP hb (m2 hb hL) q289 dX2_hasWalker_6 ?_
    refine lv_icmp_ge C.1 C.2.1 (tgt := 16) dX2_hasWalker_9 (by decide) (fun hc => ?_) (fun hc => ?_)
    · have h := h.1 hc
      refine lv_iconst C.1 C.2.1 (v := 0) dX2_hasWalker_16 rfl ?_
      exact z_ri C hr hlk (bz_n bz0) hP hS ⟨bz0, h⟩ dX2_hasWalker_17
    · have h := h.2 hc
      refine lv_iconst C.1 C.2.1 (v := 1) dX2_hasWalker_12 rfl ?_
      refine lv_goto C.1 C.2.1 (tgt := 17) dX2_hasWalker_13 (by decide) ?_
      exact z_ri C hr hlk (bz_n bz1) hP hS ⟨bz1, h⟩ dX2_hasWalker_17
def rmX2_standsNear : Room := { frames := 0, cells := 0, slots := 0, locals := 0 }
def wX2_standsNear (b : Nat) (p1 : Int32) (st : St) (Q : Int32 → St → Prop) : Prop :=
  ((¬ (((((gI st b 3) : Int32).toUInt32 >>> ((p1 : Int32).toUInt32 &&& Int32.toUInt32 31)).toInt32) &&& 1) = 1 → Q 0 st) ∧ ((((((gI st b 3) : Int32).toUInt32 >>> ((p1 : Int32).toUInt32 &&& Int32.toUInt32 31)).toInt32) &&& 1) = 1 → Q 1 st))
theorem hdX2_standsNear : yX2_standsNear.cls = "PlankBridge$Bridge" ∧ yX2_standsNear.cls ≠ "java/lang/invoke/MethodHandle" ∧ yX2_standsNear.cls ≠ "java/lang/invoke/VarHandle" ∧ (parseMethodDescriptor yX2_standsNear.desc).map (fun d => d.parameters.length) = some 1 := by decide +kernel
set_option maxHeartbeats 4000000 in
set_option maxRecDepth 100000 in
theorem tX2_standsNear {l : Launch} {E : En0} {L : List Nat} (hE : EK E L) (hL : Cov 0 54 L) {b : Nat} {p1 : Int32} {st : St} {Q : Int32 → St → Prop} (hb : kd b = 2) (h : wX2_standsNear b p1 st Q) : Mz l yX2_standsNear cX2_standsNear 2 (some .boolean) rmX2_standsNear E L [.ref (E.2.1 b), .int p1] st (zI E L (fun r u => bz r ∧ Q r u)) := by
  refine Mz.of hE (by decide) (Nat.le_of_ble_eq_true rfl) ?_
  intro p e s m below meth c ls C hr hlk _ hl hP
  replace C : Cx E L "PlankBridge$Bridge" cX2_standsNear 2 p s m _ c := C
  have hS : va_S (fA E L s.heap.size) s.heap s.heap [] := va_S.rf
  replace hl : lv_has ls 2 [(0, .ref (E.2.1 b)), (1, .int p1)] := hl
  unfold wX2_standsNear at h
  refine lv_aload_n C.1 C.2.1 dX2_standsNear_0 rfl (lv_at hl 0 rfl) ?_
  refine gf2_3 C hP hb (m2 hb hL) q296 dX2_standsNear_1 ?_
  refine lv_iload_n C.1 C.2.1 dX2_standsNear_4 rfl (lv_at hl 1 rfl) ?_
  refine t_iushr C.1 C.2.1 dX2_standsNear_5  rfl ?_
  refine lv_iconst C.1 C.2.1 (v := 1) dX2_standsNear_6 rfl ?_
  refine lv_iand C.1 C.2.1 dX2_standsNear_7  ?_
  refine lv_iconst C.1 C.2.1 (v := 1) dX2_standsNear_8 rfl ?_
  refine lv_icmp_ne C.1 C.2.1 (tgt := 16) dX2_standsNear_9 (by decide) (fun hc => ?_) (fun hc => ?_)
  · have h := h.1 hc
    refine lv_iconst C.1 C.2.1 (v := 0) dX2_standsNear_16 rfl ?_
    exact z_ri C hr hlk (bz_n bz0) hP hS ⟨bz0, h⟩ dX2_standsNear_17
  · have h := h.2 hc
    refine lv_iconst C.1 C.2.1 (v := 1) dX2_standsNear_12 rfl ?_
    refine lv_goto C.1 C.2.1 (tgt := 17) dX2_standsNear_13 (by decide) ?_
    exact z_ri C hr hlk (bz_n bz1) hP hS ⟨bz1, h⟩ dX2_standsNear_17
def rmX2_nightIsWeak : Room := { frames := 0, cells := 0, slots := 0, locals := 0 }
def wX2_nightIsWeak (b : Nat) (st : St) (Q : Int32 → St → Prop) : Prop :=
  ((¬ ((gI st b 9) - (gI st b 9) / 3 * 3) = 2 → Q 0 st) ∧ (((gI st b 9) - (gI st b 9) / 3 * 3) = 2 → Q 1 st))
theorem hdX2_nightIsWeak : yX2_nightIsWeak.cls = "PlankBridge$Bridge" ∧ yX2_nightIsWeak.cls ≠ "java/lang/invoke/MethodHandle" ∧ yX2_nightIsWeak.cls ≠ "java/lang/invoke/VarHandle" ∧ (parseMethodDescriptor yX2_nightIsWeak.desc).map (fun d => d.parameters.length) = some 0 := by decide +kernel
set_option maxHeartbeats 4000000 in
set_option maxRecDepth 100000 in
theorem tX2_nightIsWeak {l : Launch} {E : En0} {L : List Nat} (hE : EK E L) (hL : Cov 0 54 L) {b : Nat} {st : St} {Q : Int32 → St → Prop} (hb : kd b = 2) (h : wX2_nightIsWeak b st Q) : Mz l yX2_nightIsWeak cX2_nightIsWeak 1 (some .boolean) rmX2_nightIsWeak E L [.ref (E.2.1 b)] st (zI E L (fun r u => bz r ∧ Q r u)) := by
  refine Mz.of hE (by decide) (Nat.le_of_ble_eq_true rfl) ?_
  intro p e s m below meth c ls C hr hlk _ hl hP
  replace C : Cx E L "PlankBridge$Bridge" cX2_nightIsWeak 1 p s m _ c := C
  have hS : va_S (fA E L s.heap.size) s.heap s.heap [] := va_S.rf
  replace hl : lv_has ls 1 [(0, .ref (E.2.1 b))] := hl
  unfold wX2_nightIsWeak at h
  refine lv_aload_n C.1 C.2.1 dX2_nightIsWeak_0 rfl (lv_at hl 0 rfl) ?_
  refine gf2_9 C hP hb (m2 hb hL) q310 dX2_nightIsWeak_1 ?_
  refine lv_iconst C.1 C.2.1 (v := 3) dX2_nightIsWeak_4 rfl ?_
  refine lv_irem C.1 C.2.1 dX2_nightIsWeak_5  (by decide) ?_
  refine lv_iconst C.1 C.2.1 (v := 2) dX2_nightIsWeak_6 rfl ?_
  refine lv_icmp_ne C.1 C.2.1 (tgt := 14) dX2_nightIsWeak_7 (by decide) (fun hc => ?_) (fun hc => ?_)
  · have h := h.1 hc
    refine lv_iconst C.1 C.2.1 (v := 0) dX2_nightIsWeak_14 rfl ?_
    exact z_ri C hr hlk (bz_n bz0) hP hS ⟨bz0, h⟩ dX2_nightIsWeak_15
  · have h := h.2 hc
    refine lv_iconst C.1 C.2.1 (v := 1) dX2_nightIsWeak_10 rfl ?_
    refine lv_goto C.1 C.2.1 (tgt := 15) dX2_nightIsWeak_11 (by decide) ?_
    exact z_ri C hr hlk (bz_n bz1) hP hS ⟨bz1, h⟩ dX2_nightIsWeak_15
def rmX2_minutesInAll : Room := { frames := 0, cells := 0, slots := 0, locals := 0 }
def wX2_minutesInAll (b : Nat) (st : St) (Q : Int32 → St → Prop) : Prop :=
  Q (((gI st b 9) * 120) + (gI st b 10)) st
theorem hdX2_minutesInAll : yX2_minutesInAll.cls = "PlankBridge$Bridge" ∧ yX2_minutesInAll.cls ≠ "java/lang/invoke/MethodHandle" ∧ yX2_minutesInAll.cls ≠ "java/lang/invoke/VarHandle" ∧ (parseMethodDescriptor yX2_minutesInAll.desc).map (fun d => d.parameters.length) = some 0 := by decide +kernel
set_option maxHeartbeats 4000000 in
set_option maxRecDepth 100000 in
theorem tX2_minutesInAll {l : Launch} {E : En0} {L : List Nat} (hE : EK E L) (hL : Cov 0 54 L) {b : Nat} {st : St} {Q : Int32 → St → Prop} (hb : kd b = 2) (h : wX2_minutesInAll b st Q) : Mz l yX2_minutesInAll cX2_minutesInAll 1 (some .int) rmX2_minutesInAll E L [.ref (E.2.1 b)] st (zI E L Q) := by
  refine Mz.of hE (by decide) (Nat.le_of_ble_eq_true rfl) ?_
  intro p e s m below meth c ls C hr hlk _ hl hP
  replace C : Cx E L "PlankBridge$Bridge" cX2_minutesInAll 1 p s m _ c := C
  have hS : va_S (fA E L s.heap.size) s.heap s.heap [] := va_S.rf
  replace hl : lv_has ls 1 [(0, .ref (E.2.1 b))] := hl
  unfold wX2_minutesInAll at h
  refine lv_aload_n C.1 C.2.1 dX2_minutesInAll_0 rfl (lv_at hl 0 rfl) ?_
  refine gf2_9 C hP hb (m2 hb hL) q310 dX2_minutesInAll_1 ?_
  refine lv_bipush C.1 C.2.1 (v := 120) dX2_minutesInAll_4 rfl ?_
  refine lv_imul C.1 C.2.1 dX2_minutesInAll_6  ?_
  refine lv_aload_n C.1 C.2.1 dX2_minutesInAll_7 rfl (lv_at hl 0 rfl) ?_
  refine gf2_10 C hP hb (m2 hb hL) q312 dX2_minutesInAll_8 ?_
  refine lv_iadd C.1 C.2.1 dX2_minutesInAll_11  ?_
  exact z_ri C hr hlk rfl hP hS h dX2_minutesInAll_12
def rmX2_loadOf : Room := { frames := 1, cells := 0, slots := 0, locals := 20 }
def wX2_loadOf_L38 (b : Nat) (p1 : Int32)  (s0 : Int32) (st : St) (Q : Int32 → St → Prop) : Prop :=
  ((s0 ≤ 0 → Q 0 st) ∧ (¬ s0 ≤ 0 → Q s0 st))
def wX2_loadOf (b : Nat) (p1 : Int32) (st : St) (Q : Int32 → St → Prop) : Prop :=
  ((p1 < 0 → Q 0 st) ∧ (¬ p1 < 0 → ((p1 < (gI st b 4) → (wX2_nightIsWeak b st (fun r2 st1 => ((r2 = 0 → (vp_in p1 12 ∧ wX2_loadOf_L38 b p1 (gI st1 (b + 3) (p1 : Int32).toNatClampNeg) st1 Q)) ∧ (¬ r2 = 0 → (vp_in p1 12 ∧ wX2_loadOf_L38 b p1 ((gI st1 (b + 3) (p1 : Int32).toNatClampNeg) - 3) st1 Q)))))) ∧ (¬ p1 < (gI st b 4) → Q 0 st))))
theorem hdX2_loadOf : yX2_loadOf.cls = "PlankBridge$Bridge" ∧ yX2_loadOf.cls ≠ "java/lang/invoke/MethodHandle" ∧ yX2_loadOf.cls ≠ "java/lang/invoke/VarHandle" ∧ (parseMethodDescriptor yX2_loadOf.desc).map (fun d => d.parameters.length) = some 1 := by decide +kernel
set_option maxHeartbeats 4000000 in
set_option maxRecDepth 100000 in
theorem tX2_loadOf_L38 {l : Launch} {p : Program} {e : Env} {s : State} {m : MethodId} {args : Array Value} {below : List Frame} {meth : Method} {c : Code} {E : En0} {L : List Nat} (hL : Cov 0 54 L) (C : Cx E L "PlankBridge$Bridge" cX2_loadOf 3 p s m args c) (hr : meth.sig.returnType = (some .int)) (hlk : meth.locks = false) {b : Nat} {p1 : Int32} {Q : Int32 → St → Prop} (hb : kd b = 2) {s0 : Int32}  {st : St} (H : Heap) (locs : List Loc) (ls : Array Slot) (h : wX2_loadOf_L38 b p1 s0 st Q) (hl : lv_has ls 3 []) (hP : va_P E.1 vwCl (wd E L st) H) (hS : va_S (fA E L s.heap.size) s.heap H locs) : W p l e rmX2_loadOf s m args below meth c H locs 0 0 (MQ below (zI E L Q (fA E L s.heap.size)) args s rmX2_loadOf.cells rmX2_loadOf.slots (fA E L s.heap.size)) (F0 m 38 ls [.int s0]) := by
  unfold wX2_loadOf_L38 at h
  refine lv_istore_n C.1 C.2.1 dX2_loadOf_38 rfl hl (Nat.le_of_ble_eq_true rfl) rfl (fun ls hl => ?_)
  have hl : lv_has ls 3 [(2, .int s0)] := hl
  refine lv_iload_n C.1 C.2.1 dX2_loadOf_39 rfl (lv_at hl 0 rfl) ?_
  refine lv_if_le C.1 C.2.1 (tgt := 47) dX2_loadOf_40 (by decide) (fun hc => ?_) (fun hc => ?_)
  · have h := h.1 hc
    refine lv_iconst C.1 C.2.1 (v := 0) dX2_loadOf_47 rfl ?_
    exact z_ri C hr hlk rfl hP hS h dX2_loadOf_48
  · have h := h.2 hc
    refine lv_iload_n C.1 C.2.1 dX2_loadOf_43 rfl (lv_at hl 0 rfl) ?_
    refine lv_goto C.1 C.2.1 (tgt := 48) dX2_loadOf_44 (by decide) ?_
    exact z_ri C hr hlk rfl hP hS h dX2_loadOf_48
set_option maxHeartbeats 4000000 in
set_option maxRecDepth 100000 in
theorem tX2_loadOf {l : Launch} {E : En0} {L : List Nat} (hE : EK E L) (hL : Cov 0 54 L) {b : Nat} {p1 : Int32} {st : St} {Q : Int32 → St → Prop} (hb : kd b = 2) (h : wX2_loadOf b p1 st Q) : Mz l yX2_loadOf cX2_loadOf 3 (some .int) rmX2_loadOf E L [.ref (E.2.1 b), .int p1] st (zI E L Q) := by
  refine Mz.of hE (by decide) (Nat.le_of_ble_eq_true rfl) ?_
  intro p e s m below meth c ls C hr hlk _ hl hP
  replace C : Cx E L "PlankBridge$Bridge" cX2_loadOf 3 p s m _ c := C
  have hS : va_S (fA E L s.heap.size) s.heap s.heap [] := va_S.rf
  replace hl : lv_has ls 3 [(0, .ref (E.2.1 b)), (1, .int p1)] := hl
  unfold wX2_loadOf at h
  refine lv_iload_n C.1 C.2.1 dX2_loadOf_0 rfl (lv_at hl 1 rfl) ?_
  refine lv_if_lt C.1 C.2.1 (tgt := 12) dX2_loadOf_1 (by decide) (fun hc => ?_) (fun hc => ?_)
  · have h := h.1 hc
    refine lv_iconst C.1 C.2.1 (v := 0) dX2_loadOf_12 rfl ?_
    exact z_ri C hr hlk rfl hP hS h dX2_loadOf_13
  · have h := h.2 hc
    refine lv_iload_n C.1 C.2.1 dX2_loadOf_4 rfl (lv_at hl 1 rfl) ?_
    refine lv_aload_n C.1 C.2.1 dX2_loadOf_5 rfl (lv_at hl 0 rfl) ?_
    refine gf2_4 C hP hb (m2 hb hL) q299 dX2_loadOf_6 ?_
    refine lv_icmp_lt C.1 C.2.1 (tgt := 14) dX2_loadOf_9 (by decide) (fun hc => ?_) (fun hc => ?_)
    · have h := h.1 hc
      refine lv_aload_n C.1 C.2.1 dX2_loadOf_14 rfl (lv_at hl 0 rfl) ?_
      refine z_ki hS (z_runV (As := []) (rest := []) C hP hS (m2 hb hL) (e2 hb) rfl (tX2_nightIsWeak C.2.2.2.2.2.2.1 (hL.mo (Nat.le_of_ble_eq_true rfl) (Nat.le_of_ble_eq_true rfl)) hb h) q840 q759 q760 q112 q761 hdX2_nightIsWeak ⟨Nat.le_of_ble_eq_true rfl, Nat.le_of_ble_eq_true rfl⟩ ⟨Nat.zero_le _, Nat.zero_le _⟩ rfl hl.1 rfl (lv_room (Nat.le_of_ble_eq_true rfl)) dX2_loadOf_15) (fun r2 st1 H locs h hP hS => ?_)
      obtain ⟨hr2, h⟩ := h
      refine lv_if_eq C.1 C.2.1 (tgt := 32) dX2_loadOf_18 (by decide) (fun hc => ?_) (fun hc => ?_)
      · have h := h.1 hc
        refine lv_aload_n C.1 C.2.1 dX2_loadOf_32 rfl (lv_at hl 0 rfl) ?_
        refine gf2_5 C hP hb (m2 hb hL) q301 dX2_loadOf_33 ?_
        refine lv_iload_n C.1 C.2.1 dX2_loadOf_36 rfl (lv_at hl 1 rfl) ?_
        obtain ⟨hi, h⟩ := h
        refine z_iald C hP (k2_3 hb) (l2_3 hb) (m2_3 hb hL) hi dX2_loadOf_37 ?_
        exact tX2_loadOf_L38 hL C hr hlk hb _ _ _ h (lv_sub hl [] rfl) hP hS
      · have h := h.2 hc
        refine lv_aload_n C.1 C.2.1 dX2_loadOf_21 rfl (lv_at hl 0 rfl) ?_
        refine gf2_5 C hP hb (m2 hb hL) q301 dX2_loadOf_22 ?_
        refine lv_iload_n C.1 C.2.1 dX2_loadOf_25 rfl (lv_at hl 1 rfl) ?_
        obtain ⟨hi, h⟩ := h
        refine z_iald C hP (k2_3 hb) (l2_3 hb) (m2_3 hb hL) hi dX2_loadOf_26 ?_
        refine lv_iconst C.1 C.2.1 (v := 3) dX2_loadOf_27 rfl ?_
        refine lv_isub C.1 C.2.1 dX2_loadOf_28  ?_
        refine lv_goto C.1 C.2.1 (tgt := 38) dX2_loadOf_29 (by decide) ?_
        exact tX2_loadOf_L38 hL C hr hlk hb _ _ _ h (lv_sub hl [] rfl) hP hS
    · have h := h.2 hc
      refine lv_iconst C.1 C.2.1 (v := 0) dX2_loadOf_12 rfl ?_
      exact z_ri C hr hlk rfl hP hS h dX2_loadOf_13
def rmX2_countMissing : Room := { frames := 0, cells := 0, slots := 0, locals := 0 }
def wX2_countMissing_L24 (b : Nat) (R4 : Int32 × Int32 × St → Prop) (v1 : Int32) (v2 : Int32) (st : St) (Q : Int32 → St → Prop) : Prop :=
  (∀ x2 : Int32, x2 = v2 + 1 → R4 (v1, x2, st))
def wX2_countMissing_L4 (b : Nat)  (R4 : Int32 × Int32 × St → Prop) (v1 : Int32) (v2 : Int32) (st : St) (Q : Int32 → St → Prop) : Prop :=
  (((gI st b 4) ≤ v2 → Q v1 st) ∧ (¬ (gI st b 4) ≤ v2 → (vp_in v2 12 ∧ ((¬ (gI st (b + 3) (v2 : Int32).toNatClampNeg) = 0 → wX2_countMissing_L24 b R4 v1 v2 st Q) ∧ ((gI st (b + 3) (v2 : Int32).toNatClampNeg) = 0 → (∀ x1 : Int32, x1 = v1 + 1 → wX2_countMissing_L24 b R4 x1 v2 st Q))))))
def wX2_countMissing (b : Nat) (st : St) (Q : Int32 → St → Prop) : Prop :=
  (∃ n, lp (fun R s => wX2_countMissing_L4 b R s.1 s.2.1 s.2.2 Q) n (0, 0, st))
theorem hdX2_countMissing : yX2_countMissing.cls = "PlankBridge$Bridge" ∧ yX2_countMissing.cls ≠ "java/lang/invoke/MethodHandle" ∧ yX2_countMissing.cls ≠ "java/lang/invoke/VarHandle" ∧ (parseMethodDescriptor yX2_countMissing.desc).map (fun d => d.parameters.length) = some 0 := by decide +kernel
set_option maxHeartbeats 4000000 in
set_option maxRecDepth 100000 in
theorem tX2_countMissing_L24 {l : Launch} {p : Program} {e : Env} {s : State} {m : MethodId} {args : Array Value} {below : List Frame} {meth : Method} {c : Code} {E : En0} {L : List Nat} (hL : Cov 0 54 L) (C : Cx E L "PlankBridge$Bridge" cX2_countMissing 3 p s m args c) (hr : meth.sig.returnType = (some .int)) (hlk : meth.locks = false) {b : Nat} {Q : Int32 → St → Prop} (hb : kd b = 2) {R4 : Int32 × Int32 × St → Prop} (hR4 : ∀ (v1 : Int32) (v2 : Int32) (st : St), ∀ (H : Heap) (locs : List Loc) (ls : Array Slot), R4 (v1, v2, st) → lv_has ls 3 [(0, .ref (E.2.1 b)), (1, .int v1), (2, .int v2)] → va_P E.1 vwCl (wd E L st) H → va_S (fA E L s.heap.size) s.heap H locs → W p l e rmX2_countMissing s m args below meth c H locs 0 0 (MQ below (zI E L Q (fA E L s.heap.size)) args s rmX2_countMissing.cells rmX2_countMissing.slots (fA E L s.heap.size)) (F0 m 4 ls [])) {v1 : Int32} {v2 : Int32}  {st : St} (H : Heap) (locs : List Loc) (ls : Array Slot) (h : wX2_countMissing_L24 b R4 v1 v2 st Q) (hl : lv_has ls 3 [(0, .ref (E.2.1 b)), (1, .int v1), (2, .int v2)]) (hP : va_P E.1 vwCl (wd E L st) H) (hS : va_S (fA E L s.heap.size) s.heap H locs) : W p l e rmX2_countMissing s m args below meth c H locs 0 0 (MQ below (zI E L Q (fA E L s.heap.size)) args s rmX2_countMissing.cells rmX2_countMissing.slots (fA E L s.heap.size)) (F0 m 24 ls []) := by
  unfold wX2_countMissing_L24 at h
  obtain ⟨x2, ex2⟩ : ∃ z, z = v2 + 1 := ⟨_, rfl⟩
  have h := h x2 ex2
  refine lv_iinc C.1 C.2.1 dX2_countMissing_24 hl (k := 2) rfl ex2.symm (Nat.le_of_ble_eq_true rfl) rfl (fun ls hl => ?_)
  have hl : lv_has ls 3 [(2, .int x2), (0, .ref (E.2.1 b)), (1, .int v1)] := hl
  refine lv_goto C.1 C.2.1 (tgt := 4) dX2_countMissing_27 (by decide) ?_
  exact hR4 v1 x2 st _ _ _ h (lv_sub hl [1, 2, 0] rfl) hP hS
set_option maxHeartbeats 4000000 in
set_option maxRecDepth 100000 in
theorem tX2_countMissing_L4 {l : Launch} {p : Program} {e : Env} {s : State} {m : MethodId} {args : Array Value} {below : List Frame} {meth : Method} {c : Code} {E : En0} {L : List Nat} (hL : Cov 0 54 L) (C : Cx E L "PlankBridge$Bridge" cX2_countMissing 3 p s m args c) (hr : meth.sig.returnType = (some .int)) (hlk : meth.locks = false) {b : Nat} {Q : Int32 → St → Prop} (hb : kd b = 2) : ∀ (n : Nat) (v1 : Int32) (v2 : Int32) (st : St) (H : Heap) (locs : List Loc) (ls : Array Slot), lp (fun R s => wX2_countMissing_L4 b R s.1 s.2.1 s.2.2 Q) n (v1, v2, st) → lv_has ls 3 [(0, .ref (E.2.1 b)), (1, .int v1), (2, .int v2)] → va_P E.1 vwCl (wd E L st) H → va_S (fA E L s.heap.size) s.heap H locs → W p l e rmX2_countMissing s m args below meth c H locs 0 0 (MQ below (zI E L Q (fA E L s.heap.size)) args s rmX2_countMissing.cells rmX2_countMissing.slots (fA E L s.heap.size)) (F0 m 4 ls []) := by
  intro n
  induction n with
  | zero => exact fun _ _ _ _ _ _ h _ _ _ => False.elim ‹_›
  | succ n ih =>
    intro v1 v2 st  H locs ls h hl hP hS
    have hR4 := ih
    replace h : wX2_countMissing_L4 b (lp (fun R s => wX2_countMissing_L4 b R s.1 s.2.1 s.2.2 Q) n) v1 v2 st Q := h
    unfold wX2_countMissing_L4 at h
    refine lv_iload_n C.1 C.2.1 dX2_countMissing_4 rfl (lv_at hl 2 rfl) ?_
    refine lv_aload_n C.1 C.2.1 dX2_countMissing_5 rfl (lv_at hl 0 rfl) ?_
    refine gf2_4 C hP hb (m2 hb hL) q299 dX2_countMissing_6 ?_
    refine lv_icmp_ge C.1 C.2.1 (tgt := 30) dX2_countMissing_9 (by decide) (fun hc => ?_) (fun hc => ?_)
    · have h := h.1 hc
      refine lv_iload_n C.1 C.2.1 dX2_countMissing_30 rfl (lv_at hl 1 rfl) ?_
      exact z_ri C hr hlk rfl hP hS h dX2_countMissing_31
    · have h := h.2 hc
      refine lv_aload_n C.1 C.2.1 dX2_countMissing_12 rfl (lv_at hl 0 rfl) ?_
      refine gf2_5 C hP hb (m2 hb hL) q301 dX2_countMissing_13 ?_
      refine lv_iload_n C.1 C.2.1 dX2_countMissing_16 rfl (lv_at hl 2 rfl) ?_
      obtain ⟨hi, h⟩ := h
      refine z_iald C hP (k2_3 hb) (l2_3 hb) (m2_3 hb hL) hi dX2_countMissing_17 ?_
      refine lv_if_ne C.1 C.2.1 (tgt := 24) dX2_countMissing_18 (by decide) (fun hc => ?_) (fun hc => ?_)
      · have h := h.1 hc
        exact tX2_countMissing_L24 hL C hr hlk hb hR4 _ _ _ h hl hP hS
      · have h := h.2 hc
        obtain ⟨x1, ex1⟩ : ∃ z, z = v1 + 1 := ⟨_, rfl⟩
        have h := h x1 ex1
        refine lv_iinc C.1 C.2.1 dX2_countMissing_21 hl (k := 1) rfl ex1.symm (Nat.le_of_ble_eq_true rfl) rfl (fun ls hl => ?_)
        have hl : lv_has ls 3 [(1, .int x1), (0, .ref (E.2.1 b)), (2, .int v2)] := hl
        exact tX2_countMissing_L24 hL C hr hlk hb hR4 _ _ _ h (lv_sub hl [1, 0, 2] rfl) hP hS
set_option maxHeartbeats 4000000 in
set_option maxRecDepth 100000 in
theorem tX2_countMissing {l : Launch} {E : En0} {L : List Nat} (hE : EK E L) (hL : Cov 0 54 L) {b : Nat} {st : St} {Q : Int32 → St → Prop} (hb : kd b = 2) (h : wX2_countMissing b st Q) : Mz l yX2_countMissing cX2_countMissing 3 (some .int) rmX2_countMissing E L [.ref (E.2.1 b)] st (zI E L Q) := by
  refine Mz.of hE (by decide) (Nat.le_of_ble_eq_true rfl) ?_
  intro p e s m below meth c ls C hr hlk _ hl hP
  replace C : Cx E L "PlankBridge$Bridge" cX2_countMissing 3 p s m _ c := C
  have hS : va_S (fA E L s.heap.size) s.heap s.heap [] := va_S.rf
  replace hl : lv_has ls 3 [(0, .ref (E.2.1 b))] := hl
  unfold wX2_countMissing at h
  refine lv_iconst C.1 C.2.1 (v := 0) dX2_countMissing_0 rfl ?_
  refine lv_istore_n C.1 C.2.1 dX2_countMissing_1 rfl hl (Nat.le_of_ble_eq_true rfl) rfl (fun ls hl => ?_)
  have hl : lv_has ls 3 [(1, .int 0), (0, .ref (E.2.1 b))] := hl
  refine lv_iconst C.1 C.2.1 (v := 0) dX2_countMissing_2 rfl ?_
  refine lv_istore_n C.1 C.2.1 dX2_countMissing_3 rfl hl (Nat.le_of_ble_eq_true rfl) rfl (fun ls hl => ?_)
  have hl : lv_has ls 3 [(2, .int 0), (1, .int 0), (0, .ref (E.2.1 b))] := hl
  obtain ⟨n, h⟩ := h
  exact tX2_countMissing_L4 hL C hr hlk hb n 0 0 st _ _ _ h (lv_sub hl [2, 1, 0] rfl) hP hS
def rmX2_canBePassed : Room := { frames := 0, cells := 0, slots := 0, locals := 0 }
def wX2_canBePassed_L32 (b : Nat) (R2 : Int32 × St → Prop) (v1 : Int32) (st : St) (Q : Int32 → St → Prop) : Prop :=
  (∀ x1 : Int32, x1 = v1 + 1 → R2 (x1, st))
def wX2_canBePassed_L2 (b : Nat)  (R2 : Int32 × St → Prop) (v1 : Int32) (st : St) (Q : Int32 → St → Prop) : Prop :=
  (((gI st b 4) ≤ v1 → Q 1 st) ∧ (¬ (gI st b 4) ≤ v1 → (vp_in v1 12 ∧ ((¬ (gI st (b + 3) (v1 : Int32).toNatClampNeg) = 0 → wX2_canBePassed_L32 b R2 v1 st Q) ∧ ((gI st (b + 3) (v1 : Int32).toNatClampNeg) = 0 → (vp_in (v1 - 1) 12 ∧ ((¬ (gI st (b + 3) (v1 - 1 : Int32).toNatClampNeg) = 0 → wX2_canBePassed_L32 b R2 v1 st Q) ∧ ((gI st (b + 3) (v1 - 1 : Int32).toNatClampNeg) = 0 → Q 0 st))))))))
def wX2_canBePassed (b : Nat) (st : St) (Q : Int32 → St → Prop) : Prop :=
  (∃ n, lp (fun R s => wX2_canBePassed_L2 b R s.1 s.2 Q) n (1, st))
theorem hdX2_canBePassed : yX2_canBePassed.cls = "PlankBridge$Bridge" ∧ yX2_canBePassed.cls ≠ "java/lang/invoke/MethodHandle" ∧ yX2_canBePassed.cls ≠ "java/lang/invoke/VarHandle" ∧ (parseMethodDescriptor yX2_canBePassed.desc).map (fun d => d.parameters.length) = some 0 := by decide +kernel
set_option maxHeartbeats 4000000 in
set_option maxRecDepth 100000 in
theorem tX2_canBePassed_L32 {l : Launch} {p : Program} {e : Env} {s : State} {m : MethodId} {args : Array Value} {below : List Frame} {meth : Method} {c : Code} {E : En0} {L : List Nat} (hL : Cov 0 54 L) (C : Cx E L "PlankBridge$Bridge" cX2_canBePassed 2 p s m args c) (hr : meth.sig.returnType = (some .boolean)) (hlk : meth.locks = false) {b : Nat} {Q : Int32 → St → Prop} (hb : kd b = 2) {R2 : Int32 × St → Prop} (hR2 : ∀ (v1 : Int32) (st : St), ∀ (H : Heap) (locs : List Loc) (ls : Array Slot), R2 (v1, st) → lv_has ls 2 [(0, .ref (E.2.1 b)), (1, .int v1)] → va_P E.1 vwCl (wd E L st) H → va_S (fA E L s.heap.size) s.heap H locs → W p l e rmX2_canBePassed s m args below meth c H locs 0 0 (MQ below (zI E L (fun r u => bz r ∧ Q r u) (fA E L s.heap.size)) args s rmX2_canBePassed.cells rmX2_canBePassed.slots (fA E L s.heap.size)) (F0 m 2 ls [])) {v1 : Int32}  {st : St} (H : Heap) (locs : List Loc) (ls : Array Slot) (h : wX2_canBePassed_L32 b R2 v1 st Q) (hl : lv_has ls 2 [(0, .ref (E.2.1 b)), (1, .int v1)]) (hP : va_P E.1 vwCl (wd E L st) H) (hS : va_S (fA E L s.heap.size) s.heap H locs) : W p l e rmX2_canBePassed s m args below meth c H locs 0 0 (MQ below (zI E L (fun r u => bz r ∧ Q r u) (fA E L s.heap.size)) args s rmX2_canBePassed.cells rmX2_canBePassed.slots (fA E L s.heap.size)) (F0 m 32 ls []) := by
  unfold wX2_canBePassed_L32 at h
  obtain ⟨x1, ex1⟩ : ∃ z, z = v1 + 1 := ⟨_, rfl⟩
  have h := h x1 ex1
  refine lv_iinc C.1 C.2.1 dX2_canBePassed_32 hl (k := 1) rfl ex1.symm (Nat.le_of_ble_eq_true rfl) rfl (fun ls hl => ?_)
  have hl : lv_has ls 2 [(1, .int x1), (0, .ref (E.2.1 b))] := hl
  refine lv_goto C.1 C.2.1 (tgt := 2) dX2_canBePassed_35 (by decide) ?_
  exact hR2 x1 st _ _ _ h (lv_sub hl [1, 0] rfl) hP hS
set_option maxHeartbeats 4000000 in
set_option maxRecDepth 100000 in
theorem tX2_canBePassed_L2 {l : Launch} {p : Program} {e : Env} {s : State} {m : MethodId} {args : Array Value} {below : List Frame} {meth : Method} {c : Code} {E : En0} {L : List Nat} (hL : Cov 0 54 L) (C : Cx E L "PlankBridge$Bridge" cX2_canBePassed 2 p s m args c) (hr : meth.sig.returnType = (some .boolean)) (hlk : meth.locks = false) {b : Nat} {Q : Int32 → St → Prop} (hb : kd b = 2) : ∀ (n : Nat) (v1 : Int32) (st : St) (H : Heap) (locs : List Loc) (ls : Array Slot), lp (fun R s => wX2_canBePassed_L2 b R s.1 s.2 Q) n (v1, st) → lv_has ls 2 [(0, .ref (E.2.1 b)), (1, .int v1)] → va_P E.1 vwCl (wd E L st) H → va_S (fA E L s.heap.size) s.heap H locs → W p l e rmX2_canBePassed s m args below meth c H locs 0 0 (MQ below (zI E L (fun r u => bz r ∧ Q r u) (fA E L s.heap.size)) args s rmX2_canBePassed.cells rmX2_canBePassed.slots (fA E L s.heap.size)) (F0 m 2 ls []) := by
  intro n
  induction n with
  | zero => exact fun _ _ _ _ _ h _ _ _ => False.elim ‹_›
  | succ n ih =>
    intro v1 st  H locs ls h hl hP hS
    have hR2 := ih
    replace h : wX2_canBePassed_L2 b (lp (fun R s => wX2_canBePassed_L2 b R s.1 s.2 Q) n) v1 st Q := h
    unfold wX2_canBePassed_L2 at h
    refine lv_iload_n C.1 C.2.1 dX2_canBePassed_2 rfl (lv_at hl 1 rfl) ?_
    refine lv_aload_n C.1 C.2.1 dX2_canBePassed_3 rfl (lv_at hl 0 rfl) ?_
    refine gf2_4 C hP hb (m2 hb hL) q299 dX2_canBePassed_4 ?_
    refine lv_icmp_ge C.1 C.2.1 (tgt := 38) dX2_canBePassed_7 (by decide) (fun hc => ?_) (fun hc => ?_)
    · have h := h.1 hc
      refine lv_iconst C.1 C.2.1 (v := 1) dX2_canBePassed_38 rfl ?_
      exact z_ri C hr hlk (bz_n bz1) hP hS ⟨bz1, h⟩ dX2_canBePassed_39
    · have h := h.2 hc
      refine lv_aload_n C.1 C.2.1 dX2_canBePassed_10 rfl (lv_at hl 0 rfl) ?_
      refine gf2_5 C hP hb (m2 hb hL) q301 dX2_canBePassed_11 ?_
      refine lv_iload_n C.1 C.2.1 dX2_canBePassed_14 rfl (lv_at hl 1 rfl) ?_
      obtain ⟨hi, h⟩ := h
      refine z_iald C hP (k2_3 hb) (l2_3 hb) (m2_3 hb hL) hi dX2_canBePassed_15 ?_
      refine lv_if_ne C.1 C.2.1 (tgt := 32) dX2_canBePassed_16 (by decide) (fun hc => ?_) (fun hc => ?_)
      · have h := h.1 hc
        exact tX2_canBePassed_L32 hL C hr hlk hb hR2 _ _ _ h hl hP hS
      · have h := h.2 hc
        refine lv_aload_n C.1 C.2.1 dX2_canBePassed_19 rfl (lv_at hl 0 rfl) ?_
        refine gf2_5 C hP hb (m2 hb hL) q301 dX2_canBePassed_20 ?_
        refine lv_iload_n C.1 C.2.1 dX2_canBePassed_23 rfl (lv_at hl 1 rfl) ?_
        refine lv_iconst C.1 C.2.1 (v := 1) dX2_canBePassed_24 rfl ?_
        refine lv_isub C.1 C.2.1 dX2_canBePassed_25  ?_
        obtain ⟨hi, h⟩ := h
        refine z_iald C hP (k2_3 hb) (l2_3 hb) (m2_3 hb hL) hi dX2_canBePassed_26 ?_
        refine lv_if_ne C.1 C.2.1 (tgt := 32) dX2_canBePassed_27 (by decide) (fun hc => ?_) (fun hc => ?_)
        · have h := h.1 hc
          exact tX2_canBePassed_L32 hL C hr hlk hb hR2 _ _ _ h hl hP hS
        · have h := h.2 hc
          refine lv_iconst C.1 C.2.1 (v := 0) dX2_canBePassed_30 rfl ?_
          exact z_ri C hr hlk (bz_n bz0) hP hS ⟨bz0, h⟩ dX2_canBePassed_31
set_option maxHeartbeats 4000000 in
set_option maxRecDepth 100000 in
theorem tX2_canBePassed {l : Launch} {E : En0} {L : List Nat} (hE : EK E L) (hL : Cov 0 54 L) {b : Nat} {st : St} {Q : Int32 → St → Prop} (hb : kd b = 2) (h : wX2_canBePassed b st Q) : Mz l yX2_canBePassed cX2_canBePassed 2 (some .boolean) rmX2_canBePassed E L [.ref (E.2.1 b)] st (zI E L (fun r u => bz r ∧ Q r u)) := by
  refine Mz.of hE (by decide) (Nat.le_of_ble_eq_true rfl) ?_
  intro p e s m below meth c ls C hr hlk _ hl hP
  replace C : Cx E L "PlankBridge$Bridge" cX2_canBePassed 2 p s m _ c := C
  have hS : va_S (fA E L s.heap.size) s.heap s.heap [] := va_S.rf
  replace hl : lv_has ls 2 [(0, .ref (E.2.1 b))] := hl
  unfold wX2_canBePassed at h
  refine lv_iconst C.1 C.2.1 (v := 1) dX2_canBePassed_0 rfl ?_
  refine lv_istore_n C.1 C.2.1 dX2_canBePassed_1 rfl hl (Nat.le_of_ble_eq_true rfl) rfl (fun ls hl => ?_)
  have hl : lv_has ls 2 [(1, .int 1), (0, .ref (E.2.1 b))] := hl
  obtain ⟨n, h⟩ := h
  exact tX2_canBePassed_L2 hL C hr hlk hb n 1 st _ _ _ h (lv_sub hl [1, 0] rfl) hP hS
def rmX2_findWeakest : Room := { frames := 0, cells := 0, slots := 0, locals := 0 }
def wX2_findWeakest_L57 (b : Nat) (p1 : Int32) (R8 : Int32 × Int32 × Int32 × Int32 × St → Prop) (v1 : Int32) (v2 : Int32) (v3 : Int32) (v4 : Int32) (st : St) (Q : Int32 → St → Prop) : Prop :=
  (∀ x2 : Int32, x2 = v4 + 1 → R8 (v1, v2, v3, x2, st))
def wX2_findWeakest_L51 (b : Nat) (p1 : Int32) (R8 : Int32 × Int32 × Int32 × Int32 × St → Prop) (v1 : Int32) (v4 : Int32) (v5 : Int32) (st : St) (Q : Int32 → St → Prop) : Prop :=
  wX2_findWeakest_L57 b p1 R8 v1 v4 v5 v4 st Q
def wX2_findWeakest_L8 (b : Nat) (p1 : Int32)  (R8 : Int32 × Int32 × Int32 × Int32 × St → Prop) (v1 : Int32) (v2 : Int32) (v3 : Int32) (v4 : Int32) (st : St) (Q : Int32 → St → Prop) : Prop :=
  (((gI st b 4) ≤ v4 → Q v2 st) ∧ (¬ (gI st b 4) ≤ v4 → (vp_in v4 12 ∧ (∀ x1 : Int32, x1 = (gI st (b + 3) (v4 : Int32).toNatClampNeg) → ((x1 ≤ 0 → wX2_findWeakest_L57 b p1 R8 v1 v2 v3 v4 st Q) ∧ (¬ x1 ≤ 0 → ((v3 ≤ x1 → wX2_findWeakest_L57 b p1 R8 v1 v2 v3 v4 st Q) ∧ (¬ v3 ≤ x1 → ((¬ v1 = 0 → wX2_findWeakest_L51 b p1 R8 v1 v4 x1 st Q) ∧ (v1 = 0 → (vp_in v4 12 ∧ ((¬ (gI st (b + 4) (v4 : Int32).toNatClampNeg) = 0 → wX2_findWeakest_L57 b p1 R8 v1 v2 v3 v4 st Q) ∧ ((gI st (b + 4) (v4 : Int32).toNatClampNeg) = 0 → wX2_findWeakest_L51 b p1 R8 v1 v4 x1 st Q)))))))))))))
def wX2_findWeakest (b : Nat) (p1 : Int32) (st : St) (Q : Int32 → St → Prop) : Prop :=
  (∃ n, lp (fun R s => wX2_findWeakest_L8 b p1 R s.1 s.2.1 s.2.2.1 s.2.2.2.1 s.2.2.2.2 Q) n (p1, (-1), 31, 0, st))
theorem hdX2_findWeakest : yX2_findWeakest.cls = "PlankBridge$Bridge" ∧ yX2_findWeakest.cls ≠ "java/lang/invoke/MethodHandle" ∧ yX2_findWeakest.cls ≠ "java/lang/invoke/VarHandle" ∧ (parseMethodDescriptor yX2_findWeakest.desc).map (fun d => d.parameters.length) = some 1 := by decide +kernel
set_option maxHeartbeats 4000000 in
set_option maxRecDepth 100000 in
theorem tX2_findWeakest_L57 {l : Launch} {p : Program} {e : Env} {s : State} {m : MethodId} {args : Array Value} {below : List Frame} {meth : Method} {c : Code} {E : En0} {L : List Nat} (hL : Cov 0 54 L) (C : Cx E L "PlankBridge$Bridge" cX2_findWeakest 6 p s m args c) (hr : meth.sig.returnType = (some .int)) (hlk : meth.locks = false) {b : Nat} {p1 : Int32} {Q : Int32 → St → Prop} (hb : kd b = 2) {R8 : Int32 × Int32 × Int32 × Int32 × St → Prop} (hR8 : ∀ (v1 : Int32) (v2 : Int32) (v3 : Int32) (v4 : Int32) (st : St), ∀ (H : Heap) (locs : List Loc) (ls : Array Slot), R8 (v1, v2, v3, v4, st) → lv_has ls 6 [(0, .ref (E.2.1 b)), (1, .int v1), (2, .int v2), (3, .int v3), (4, .int v4)] → va_P E.1 vwCl (wd E L st) H → va_S (fA E L s.heap.size) s.heap H locs → W p l e rmX2_findWeakest s m args below meth c H locs 0 0 (MQ below (zI E L Q (fA E L s.heap.size)) args s rmX2_findWeakest.cells rmX2_findWeakest.slots (fA E L s.heap.size)) (F0 m 8 ls [])) {v1 : Int32} {v2 : Int32} {v3 : Int32} {v4 : Int32}  {st : St} (H : Heap) (locs : List Loc) (ls : Array Slot) (h : wX2_findWeakest_L57 b p1 R8 v1 v2 v3 v4 st Q) (hl : lv_has ls 6 [(0, .ref (E.2.1 b)), (1, .int v1), (2, .int v2), (3, .int v3), (4, .int v4)]) (hP : va_P E.1 vwCl (wd E L st) H) (hS : va_S (fA E L s.heap.size) s.heap H locs) : W p l e rmX2_findWeakest s m args below meth c H locs 0 0 (MQ below (zI E L Q (fA E L s.heap.size)) args s rmX2_findWeakest.cells rmX2_findWeakest.slots (fA E L s.heap.size)) (F0 m 57 ls []) := by
  unfold wX2_findWeakest_L57 at h
  obtain ⟨x2, ex2⟩ : ∃ z, z = v4 + 1 := ⟨_, rfl⟩
  have h := h x2 ex2
  refine lv_iinc C.1 C.2.1 dX2_findWeakest_57 hl (k := 4) rfl ex2.symm (Nat.le_of_ble_eq_true rfl) rfl (fun ls hl => ?_)
  have hl : lv_has ls 6 [(4, .int x2), (0, .ref (E.2.1 b)), (1, .int v1), (2, .int v2), (3, .int v3)] := hl
  refine lv_goto C.1 C.2.1 (tgt := 8) dX2_findWeakest_60 (by decide) ?_
  exact hR8 v1 v2 v3 x2 st _ _ _ h (lv_sub hl [1, 2, 3, 4, 0] rfl) hP hS
set_option maxHeartbeats 4000000 in
set_option maxRecDepth 100000 in
theorem tX2_findWeakest_L51 {l : Launch} {p : Program} {e : Env} {s : State} {m : MethodId} {args : Array Value} {below : List Frame} {meth : Method} {c : Code} {E : En0} {L : List Nat} (hL : Cov 0 54 L) (C : Cx E L "PlankBridge$Bridge" cX2_findWeakest 6 p s m args c) (hr : meth.sig.returnType = (some .int)) (hlk : meth.locks = false) {b : Nat} {p1 : Int32} {Q : Int32 → St → Prop} (hb : kd b = 2) {R8 : Int32 × Int32 × Int32 × Int32 × St → Prop} (hR8 : ∀ (v1 : Int32) (v2 : Int32) (v3 : Int32) (v4 : Int32) (st : St), ∀ (H : Heap) (locs : List Loc) (ls : Array Slot), R8 (v1, v2, v3, v4, st) → lv_has ls 6 [(0, .ref (E.2.1 b)), (1, .int v1), (2, .int v2), (3, .int v3), (4, .int v4)] → va_P E.1 vwCl (wd E L st) H → va_S (fA E L s.heap.size) s.heap H locs → W p l e rmX2_findWeakest s m args below meth c H locs 0 0 (MQ below (zI E L Q (fA E L s.heap.size)) args s rmX2_findWeakest.cells rmX2_findWeakest.slots (fA E L s.heap.size)) (F0 m 8 ls [])) {v1 : Int32} {v4 : Int32} {v5 : Int32}  {st : St} (H : Heap) (locs : List Loc) (ls : Array Slot) (h : wX2_findWeakest_L51 b p1 R8 v1 v4 v5 st Q) (hl : lv_has ls 6 [(0, .ref (E.2.1 b)), (1, .int v1), (4, .int v4), (5, .int v5)]) (hP : va_P E.1 vwCl (wd E L st) H) (hS : va_S (fA E L s.heap.size) s.heap H locs) : W p l e rmX2_findWeakest s m args below meth c H locs 0 0 (MQ below (zI E L Q (fA E L s.heap.size)) args s rmX2_findWeakest.cells rmX2_findWeakest.slots (fA E L s.heap.size)) (F0 m 51 ls []) := by
  unfold wX2_findWeakest_L51 at h
  refine lv_iload C.1 C.2.1 dX2_findWeakest_51 (lv_at hl 2 rfl) ?_
  refine lv_istore_n C.1 C.2.1 dX2_findWeakest_53 rfl hl (Nat.le_of_ble_eq_true rfl) rfl (fun ls hl => ?_)
  have hl : lv_has ls 6 [(2, .int v4), (0, .ref (E.2.1 b)), (1, .int v1), (4, .int v4), (5, .int v5)] := hl
  refine lv_iload C.1 C.2.1 dX2_findWeakest_54 (lv_at hl 4 rfl) ?_
  refine lv_istore_n C.1 C.2.1 dX2_findWeakest_56 rfl hl (Nat.le_of_ble_eq_true rfl) rfl (fun ls hl => ?_)
  have hl : lv_has ls 6 [(3, .int v5), (2, .int v4), (0, .ref (E.2.1 b)), (1, .int v1), (4, .int v4), (5, .int v5)] := hl
  exact tX2_findWeakest_L57 hL C hr hlk hb hR8 _ _ _ h (lv_sub hl [2, 3, 1, 0, 4] rfl) hP hS
set_option maxHeartbeats 4000000 in
set_option maxRecDepth 100000 in
theorem tX2_findWeakest_L8 {l : Launch} {p : Program} {e : Env} {s : State} {m : MethodId} {args : Array Value} {below : List Frame} {meth : Method} {c : Code} {E : En0} {L : List Nat} (hL : Cov 0 54 L) (C : Cx E L "PlankBridge$Bridge" cX2_findWeakest 6 p s m args c) (hr : meth.sig.returnType = (some .int)) (hlk : meth.locks = false) {b : Nat} {p1 : Int32} {Q : Int32 → St → Prop} (hb : kd b = 2) : ∀ (n : Nat) (v1 : Int32) (v2 : Int32) (v3 : Int32) (v4 : Int32) (st : St) (H : Heap) (locs : List Loc) (ls : Array Slot), lp (fun R s => wX2_findWeakest_L8 b p1 R s.1 s.2.1 s.2.2.1 s.2.2.2.1 s.2.2.2.2 Q) n (v1, v2, v3, v4, st) → lv_has ls 6 [(0, .ref (E.2.1 b)), (1, .int v1), (2, .int v2), (3, .int v3), (4, .int v4)] → va_P E.1 vwCl (wd E L st) H → va_S (fA E L s.heap.size) s.heap H locs → W p l e rmX2_findWeakest s m args below meth c H locs 0 0 (MQ below (zI E L Q (fA E L s.heap.size)) args s rmX2_findWeakest.cells rmX2_findWeakest.slots (fA E L s.heap.size)) (F0 m 8 ls []) := by
  intro n
  induction n with
  | zero => exact fun _ _ _ _ _ _ _ _ h _ _ _ => False.elim ‹_›
  | succ n ih =>
    intro v1 v2 v3 v4 st  H locs ls h hl hP hS
    have hR8 := ih
    replace h : wX2_findWeakest_L8 b p1 (lp (fun R s => wX2_findWeakest_L8 b p1 R s.1 s.2.1 s.2.2.1 s.2.2.2.1 s.2.2.2.2 Q) n) v1 v2 v3 v4 st Q := h
    unfold wX2_findWeakest_L8 at h
    refine lv_iload C.1 C.2.1 dX2_findWeakest_8 (lv_at hl 4 rfl) ?_
    refine lv_aload_n C.1 C.2.1 dX2_findWeakest_10 rfl (lv_at hl 0 rfl) ?_
    refine gf2_4 C hP hb (m2 hb hL) q299 dX2_findWeakest_11 ?_
    refine lv_icmp_ge C.1 C.2.1 (tgt := 63) dX2_findWeakest_14 (by decide) (fun hc => ?_) (fun hc => ?_)
    · have h := h.1 hc
      refine lv_iload_n C.1 C.2.1 dX2_findWeakest_63 rfl (lv_at hl 2 rfl) ?_
      exact z_ri C hr hlk rfl hP hS h dX2_findWeakest_64
    · have h := h.2 hc
      refine lv_aload_n C.1 C.2.1 dX2_findWeakest_17 rfl (lv_at hl 0 rfl) ?_
      refine gf2_5 C hP hb (m2 hb hL) q301 dX2_findWeakest_18 ?_
      refine lv_iload C.1 C.2.1 dX2_findWeakest_21 (lv_at hl 4 rfl) ?_
      obtain ⟨hi, h⟩ := h
      refine z_iald C hP (k2_3 hb) (l2_3 hb) (m2_3 hb hL) hi dX2_findWeakest_23 ?_
      refine lv_topi (fun x1 ex1 => ?_)
      have h := h x1 ex1
      refine lv_istore C.1 C.2.1 dX2_findWeakest_24 hl (Nat.le_of_ble_eq_true rfl) rfl (fun ls hl => ?_)
      have hl : lv_has ls 6 [(5, .int x1), (0, .ref (E.2.1 b)), (1, .int v1), (2, .int v2), (3, .int v3), (4, .int v4)] := hl
      refine lv_iload C.1 C.2.1 dX2_findWeakest_26 (lv_at hl 0 rfl) ?_
      refine lv_if_le C.1 C.2.1 (tgt := 57) dX2_findWeakest_28 (by decide) (fun hc => ?_) (fun hc => ?_)
      · have h := h.1 hc
        exact tX2_findWeakest_L57 hL C hr hlk hb hR8 _ _ _ h (lv_sub hl [1, 2, 3, 4, 5] rfl) hP hS
      · have h := h.2 hc
        refine lv_iload C.1 C.2.1 dX2_findWeakest_31 (lv_at hl 0 rfl) ?_
        refine lv_iload_n C.1 C.2.1 dX2_findWeakest_33 rfl (lv_at hl 4 rfl) ?_
        refine lv_icmp_ge C.1 C.2.1 (tgt := 57) dX2_findWeakest_34 (by decide) (fun hc => ?_) (fun hc => ?_)
        · have h := h.1 hc
          exact tX2_findWeakest_L57 hL C hr hlk hb hR8 _ _ _ h (lv_sub hl [1, 2, 3, 4, 5] rfl) hP hS
        · have h := h.2 hc
          refine lv_iload_n C.1 C.2.1 dX2_findWeakest_37 rfl (lv_at hl 2 rfl) ?_
          refine lv_if_ne C.1 C.2.1 (tgt := 51) dX2_findWeakest_38 (by decide) (fun hc => ?_) (fun hc => ?_)
          · have h := h.1 hc
            exact tX2_findWeakest_L51 hL C hr hlk hb hR8 _ _ _ h (lv_sub hl [1, 2, 5, 0] rfl) hP hS
          · have h := h.2 hc
            refine lv_aload_n C.1 C.2.1 dX2_findWeakest_41 rfl (lv_at hl 1 rfl) ?_
            refine gf2_6 C hP hb (m2 hb hL) q303 dX2_findWeakest_42 ?_
            refine lv_iload C.1 C.2.1 dX2_findWeakest_45 (lv_at hl 5 rfl) ?_
            obtain ⟨hi, h⟩ := h
            refine z_zald C hP (k2_4 hb) (l2_4 hb) (m2_4 hb hL) hi dX2_findWeakest_47 ?_
            refine lv_if_ne C.1 C.2.1 (tgt := 57) dX2_findWeakest_48 (by decide) (fun hc => ?_) (fun hc => ?_)
            · have h := h.1 hc
              exact tX2_findWeakest_L57 hL C hr hlk hb hR8 _ _ _ h (lv_sub hl [1, 2, 3, 4, 5] rfl) hP hS
            · have h := h.2 hc
              exact tX2_findWeakest_L51 hL C hr hlk hb hR8 _ _ _ h (lv_sub hl [1, 2, 5, 0] rfl) hP hS
set_option maxHeartbeats 4000000 in
set_option maxRecDepth 100000 in
theorem tX2_findWeakest {l : Launch} {E : En0} {L : List Nat} (hE : EK E L) (hL : Cov 0 54 L) {b : Nat} {p1 : Int32} {st : St} {Q : Int32 → St → Prop} (hb : kd b = 2) (h : wX2_findWeakest b p1 st Q) : Mz l yX2_findWeakest cX2_findWeakest 6 (some .int) rmX2_findWeakest E L [.ref (E.2.1 b), .int p1] st (zI E L Q) := by
  refine Mz.of hE (by decide) (Nat.le_of_ble_eq_true rfl) ?_
  intro p e s m below meth c ls C hr hlk _ hl hP
  replace C : Cx E L "PlankBridge$Bridge" cX2_findWeakest 6 p s m _ c := C
  have hS : va_S (fA E L s.heap.size) s.heap s.heap [] := va_S.rf
  replace hl : lv_has ls 6 [(0, .ref (E.2.1 b)), (1, .int p1)] := hl
  unfold wX2_findWeakest at h
  refine lv_iconst C.1 C.2.1 (v := (-1)) dX2_findWeakest_0 rfl ?_
  refine lv_istore_n C.1 C.2.1 dX2_findWeakest_1 rfl hl (Nat.le_of_ble_eq_true rfl) rfl (fun ls hl => ?_)
  have hl : lv_has ls 6 [(2, .int (-1)), (0, .ref (E.2.1 b)), (1, .int p1)] := hl
  refine lv_bipush C.1 C.2.1 (v := 31) dX2_findWeakest_2 rfl ?_
  refine lv_istore_n C.1 C.2.1 dX2_findWeakest_4 rfl hl (Nat.le_of_ble_eq_true rfl) rfl (fun ls hl => ?_)
  have hl : lv_has ls 6 [(3, .int 31), (2, .int (-1)), (0, .ref (E.2.1 b)), (1, .int p1)] := hl
  refine lv_iconst C.1 C.2.1 (v := 0) dX2_findWeakest_5 rfl ?_
  refine lv_istore C.1 C.2.1 dX2_findWeakest_6 hl (Nat.le_of_ble_eq_true rfl) rfl (fun ls hl => ?_)
  have hl : lv_has ls 6 [(4, .int 0), (3, .int 31), (2, .int (-1)), (0, .ref (E.2.1 b)), (1, .int p1)] := hl
  obtain ⟨n, h⟩ := h
  exact tX2_findWeakest_L8 hL C hr hlk hb n p1 (-1) 31 0 st _ _ _ h (lv_sub hl [3, 4, 2, 1, 0] rfl) hP hS
def rmX2_minutesFor : Room := { frames := 1, cells := 0, slots := 0, locals := 21 }
def wX2_minutesFor_L18 (b : Nat) (p1 : Int32) (p2 : Int32)  (v2 : Int32) (s0 : Int32) (st : St) (Q : Int32 → St → Prop) : Prop :=
  (wX2_hasWalker b v2 st (fun r4 st3 => ((r4 = 0 → Q s0 st3) ∧ (¬ r4 = 0 → (vp_in v2 8 ∧ (((gI st3 (b + 2) (v2 : Int32).toNatClampNeg) ≤ s0 → Q s0 st3) ∧ (¬ (gI st3 (b + 2) (v2 : Int32).toNatClampNeg) ≤ s0 → (vp_in v2 8 ∧ Q (gI st3 (b + 2) (v2 : Int32).toNatClampNeg) st3))))))))
def wX2_minutesFor (b : Nat) (p1 : Int32) (p2 : Int32) (st : St) (Q : Int32 → St → Prop) : Prop :=
  (wX2_hasWalker b p1 st (fun r2 st1 => ((r2 = 0 → wX2_minutesFor_L18 b p1 p2 p2 0 st1 Q) ∧ (¬ r2 = 0 → (vp_in p1 8 ∧ wX2_minutesFor_L18 b p1 p2 p2 (gI st1 (b + 2) (p1 : Int32).toNatClampNeg) st1 Q)))))
theorem hdX2_minutesFor : yX2_minutesFor.cls = "PlankBridge$Bridge" ∧ yX2_minutesFor.cls ≠ "java/lang/invoke/MethodHandle" ∧ yX2_minutesFor.cls ≠ "java/lang/invoke/VarHandle" ∧ (parseMethodDescriptor yX2_minutesFor.desc).map (fun d => d.parameters.length) = some 2 := by decide +kernel
set_option maxHeartbeats 4000000 in
set_option maxRecDepth 100000 in
theorem tX2_minutesFor_L18 {l : Launch} {p : Program} {e : Env} {s : State} {m : MethodId} {args : Array Value} {below : List Frame} {meth : Method} {c : Code} {E : En0} {L : List Nat} (hL : Cov 0 54 L) (C : Cx E L "PlankBridge$Bridge" cX2_minutesFor 4 p s m args c) (hr : meth.sig.returnType = (some .int)) (hlk : meth.locks = false) {b : Nat} {p1 : Int32} {p2 : Int32} {Q : Int32 → St → Prop} (hb : kd b = 2) {v2 : Int32} {s0 : Int32}  {st : St} (H : Heap) (locs : List Loc) (ls : Array Slot) (h : wX2_minutesFor_L18 b p1 p2 v2 s0 st Q) (hl : lv_has ls 4 [(0, .ref (E.2.1 b)), (2, .int v2)]) (hP : va_P E.1 vwCl (wd E L st) H) (hS : va_S (fA E L s.heap.size) s.heap H locs) : W p l e rmX2_minutesFor s m args below meth c H locs 0 0 (MQ below (zI E L Q (fA E L s.heap.size)) args s rmX2_minutesFor.cells rmX2_minutesFor.slots (fA E L s.heap.size)) (F0 m 18 ls [.int s0]) := by
  unfold wX2_minutesFor_L18 at h
  refine lv_istore_n C.1 C.2.1 dX2_minutesFor_18 rfl hl (Nat.le_of_ble_eq_true rfl) rfl (fun ls hl => ?_)
  have hl : lv_has ls 4 [(3, .int s0), (0, .ref (E.2.1 b)), (2, .int v2)] := hl
  refine lv_aload_n C.1 C.2.1 dX2_minutesFor_19 rfl (lv_at hl 1 rfl) ?_
  refine lv_iload_n C.1 C.2.1 dX2_minutesFor_20 rfl (lv_at hl 2 rfl) ?_
  refine z_ki hS (z_runV (As := [.int v2]) (rest := []) C hP hS (m2 hb hL) (e2 hb) rfl (tX2_hasWalker C.2.2.2.2.2.2.1 (hL.mo (Nat.le_of_ble_eq_true rfl) (Nat.le_of_ble_eq_true rfl)) hb h) q811 q812 q813 q112 q814 hdX2_hasWalker ⟨Nat.le_of_ble_eq_true rfl, Nat.le_of_ble_eq_true rfl⟩ ⟨Nat.zero_le _, Nat.zero_le _⟩ rfl hl.1 rfl (lv_room (Nat.le_of_ble_eq_true rfl)) dX2_minutesFor_21) (fun r4 st3 H locs h hP hS => ?_)
  obtain ⟨hr4, h⟩ := h
  refine lv_if_eq C.1 C.2.1 (tgt := 46) dX2_minutesFor_24 (by decide) (fun hc => ?_) (fun hc => ?_)
  · have h := h.1 hc
    refine lv_iload_n C.1 C.2.1 dX2_minutesFor_46 rfl (lv_at hl 0 rfl) ?_
    exact z_ri C hr hlk rfl hP hS h dX2_minutesFor_47
  · have h := h.2 hc
    refine lv_aload_n C.1 C.2.1 dX2_minutesFor_27 rfl (lv_at hl 1 rfl) ?_
    refine gf2_2 C hP hb (m2 hb hL) q294 dX2_minutesFor_28 ?_
    refine lv_iload_n C.1 C.2.1 dX2_minutesFor_31 rfl (lv_at hl 2 rfl) ?_
    obtain ⟨hi, h⟩ := h
    refine z_iald C hP (k2_2 hb) (l2_2 hb) (m2_2 hb hL) hi dX2_minutesFor_32 ?_
    refine lv_iload_n C.1 C.2.1 dX2_minutesFor_33 rfl (lv_at hl 0 rfl) ?_
    refine lv_icmp_le C.1 C.2.1 (tgt := 46) dX2_minutesFor_34 (by decide) (fun hc => ?_) (fun hc => ?_)
    · have h := h.1 hc
      refine lv_iload_n C.1 C.2.1 dX2_minutesFor_46 rfl (lv_at hl 0 rfl) ?_
      exact z_ri C hr hlk rfl hP hS h dX2_minutesFor_47
    · have h := h.2 hc
      refine lv_aload_n C.1 C.2.1 dX2_minutesFor_37 rfl (lv_at hl 1 rfl) ?_
      refine gf2_2 C hP hb (m2 hb hL) q294 dX2_minutesFor_38 ?_
      refine lv_iload_n C.1 C.2.1 dX2_minutesFor_41 rfl (lv_at hl 2 rfl) ?_
      obtain ⟨hi, h⟩ := h
      refine z_iald C hP (k2_2 hb) (l2_2 hb) (m2_2 hb hL) hi dX2_minutesFor_42 ?_
      refine lv_goto C.1 C.2.1 (tgt := 47) dX2_minutesFor_43 (by decide) ?_
      exact z_ri C hr hlk rfl hP hS h dX2_minutesFor_47
set_option maxHeartbeats 4000000 in
set_option maxRecDepth 100000 in
theorem tX2_minutesFor {l : Launch} {E : En0} {L : List Nat} (hE : EK E L) (hL : Cov 0 54 L) {b : Nat} {p1 : Int32} {p2 : Int32} {st : St} {Q : Int32 → St → Prop} (hb : kd b = 2) (h : wX2_minutesFor b p1 p2 st Q) : Mz l yX2_minutesFor cX2_minutesFor 4 (some .int) rmX2_minutesFor E L [.ref (E.2.1 b), .int p1, .int p2] st (zI E L Q) := by
  refine Mz.of hE (by decide) (Nat.le_of_ble_eq_true rfl) ?_
  intro p e s m below meth c ls C hr hlk _ hl hP
  replace C : Cx E L "PlankBridge$Bridge" cX2_minutesFor 4 p s m _ c := C
  have hS : va_S (fA E L s.heap.size) s.heap s.heap [] := va_S.rf
  replace hl : lv_has ls 4 [(0, .ref (E.2.1 b)), (1, .int p1), (2, .int p2)] := hl
  unfold wX2_minutesFor at h
  refine lv_aload_n C.1 C.2.1 dX2_minutesFor_0 rfl (lv_at hl 0 rfl) ?_
  refine lv_iload_n C.1 C.2.1 dX2_minutesFor_1 rfl (lv_at hl 1 rfl) ?_
  refine z_ki hS (z_runV (As := [.int p1]) (rest := []) C hP hS (m2 hb hL) (e2 hb) rfl (tX2_hasWalker C.2.2.2.2.2.2.1 (hL.mo (Nat.le_of_ble_eq_true rfl) (Nat.le_of_ble_eq_true rfl)) hb h) q811 q812 q813 q112 q814 hdX2_hasWalker ⟨Nat.le_of_ble_eq_true rfl, Nat.le_of_ble_eq_true rfl⟩ ⟨Nat.zero_le _, Nat.zero_le _⟩ rfl hl.1 rfl (lv_room (Nat.le_of_ble_eq_true rfl)) dX2_minutesFor_2) (fun r2 st1 H locs h hP hS => ?_)
  obtain ⟨hr2, h⟩ := h
  refine lv_if_eq C.1 C.2.1 (tgt := 17) dX2_minutesFor_5 (by decide) (fun hc => ?_) (fun hc => ?_)
  · have h := h.1 hc
    refine lv_iconst C.1 C.2.1 (v := 0) dX2_minutesFor_17 rfl ?_
    exact tX2_minutesFor_L18 hL C hr hlk hb _ _ _ h (lv_sub hl [0, 2] rfl) hP hS
  · have h := h.2 hc
    refine lv_aload_n C.1 C.2.1 dX2_minutesFor_8 rfl (lv_at hl 0 rfl) ?_
    refine gf2_2 C hP hb (m2 hb hL) q294 dX2_minutesFor_9 ?_
    refine lv_iload_n C.1 C.2.1 dX2_minutesFor_12 rfl (lv_at hl 1 rfl) ?_
    obtain ⟨hi, h⟩ := h
    refine z_iald C hP (k2_2 hb) (l2_2 hb) (m2_2 hb hL) hi dX2_minutesFor_13 ?_
    refine lv_goto C.1 C.2.1 (tgt := 18) dX2_minutesFor_14 (by decide) ?_
    exact tX2_minutesFor_L18 hL C hr hlk hb _ _ _ h (lv_sub hl [0, 2] rfl) hP hS
def rmX2_weightFor : Room := { frames := 1, cells := 0, slots := 0, locals := 21 }
def wX2_weightFor_L18 (b : Nat) (p1 : Int32) (p2 : Int32)  (v2 : Int32) (s0 : Int32) (st : St) (Q : Int32 → St → Prop) : Prop :=
  (wX2_hasWalker b v2 st (fun r4 st3 => ((r4 = 0 → Q s0 st3) ∧ (¬ r4 = 0 → (vp_in v2 8 ∧ Q (s0 + (gI st3 (b + 1) (v2 : Int32).toNatClampNeg)) st3)))))
def wX2_weightFor (b : Nat) (p1 : Int32) (p2 : Int32) (st : St) (Q : Int32 → St → Prop) : Prop :=
  (wX2_hasWalker b p1 st (fun r2 st1 => ((r2 = 0 → wX2_weightFor_L18 b p1 p2 p2 0 st1 Q) ∧ (¬ r2 = 0 → (vp_in p1 8 ∧ wX2_weightFor_L18 b p1 p2 p2 (gI st1 (b + 1) (p1 : Int32).toNatClampNeg) st1 Q)))))
theorem hdX2_weightFor : yX2_weightFor.cls = "PlankBridge$Bridge" ∧ yX2_weightFor.cls ≠ "java/lang/invoke/MethodHandle" ∧ yX2_weightFor.cls ≠ "java/lang/invoke/VarHandle" ∧ (parseMethodDescriptor yX2_weightFor.desc).map (fun d => d.parameters.length) = some 2 := by decide +kernel
set_option maxHeartbeats 4000000 in
set_option maxRecDepth 100000 in
theorem tX2_weightFor_L18 {l : Launch} {p : Program} {e : Env} {s : State} {m : MethodId} {args : Array Value} {below : List Frame} {meth : Method} {c : Code} {E : En0} {L : List Nat} (hL : Cov 0 54 L) (C : Cx E L "PlankBridge$Bridge" cX2_weightFor 4 p s m args c) (hr : meth.sig.returnType = (some .int)) (hlk : meth.locks = false) {b : Nat} {p1 : Int32} {p2 : Int32} {Q : Int32 → St → Prop} (hb : kd b = 2) {v2 : Int32} {s0 : Int32}  {st : St} (H : Heap) (locs : List Loc) (ls : Array Slot) (h : wX2_weightFor_L18 b p1 p2 v2 s0 st Q) (hl : lv_has ls 4 [(0, .ref (E.2.1 b)), (2, .int v2)]) (hP : va_P E.1 vwCl (wd E L st) H) (hS : va_S (fA E L s.heap.size) s.heap H locs) : W p l e rmX2_weightFor s m args below meth c H locs 0 0 (MQ below (zI E L Q (fA E L s.heap.size)) args s rmX2_weightFor.cells rmX2_weightFor.slots (fA E L s.heap.size)) (F0 m 18 ls [.int s0]) := by
  unfold wX2_weightFor_L18 at h
  refine lv_istore_n C.1 C.2.1 dX2_weightFor_18 rfl hl (Nat.le_of_ble_eq_true rfl) rfl (fun ls hl => ?_)
  have hl : lv_has ls 4 [(3, .int s0), (0, .ref (E.2.1 b)), (2, .int v2)] := hl
  refine lv_aload_n C.1 C.2.1 dX2_weightFor_19 rfl (lv_at hl 1 rfl) ?_
  refine lv_iload_n C.1 C.2.1 dX2_weightFor_20 rfl (lv_at hl 2 rfl) ?_
  refine z_ki hS (z_runV (As := [.int v2]) (rest := []) C hP hS (m2 hb hL) (e2 hb) rfl (tX2_hasWalker C.2.2.2.2.2.2.1 (hL.mo (Nat.le_of_ble_eq_true rfl) (Nat.le_of_ble_eq_true rfl)) hb h) q811 q812 q813 q112 q814 hdX2_hasWalker ⟨Nat.le_of_ble_eq_true rfl, Nat.le_of_ble_eq_true rfl⟩ ⟨Nat.zero_le _, Nat.zero_le _⟩ rfl hl.1 rfl (lv_room (Nat.le_of_ble_eq_true rfl)) dX2_weightFor_21) (fun r4 st3 H locs h hP hS => ?_)
  obtain ⟨hr4, h⟩ := h
  refine lv_if_eq C.1 C.2.1 (tgt := 38) dX2_weightFor_24 (by decide) (fun hc => ?_) (fun hc => ?_)
  · have h := h.1 hc
    refine lv_iload_n C.1 C.2.1 dX2_weightFor_38 rfl (lv_at hl 0 rfl) ?_
    exact z_ri C hr hlk rfl hP hS h dX2_weightFor_39
  · have h := h.2 hc
    refine lv_iload_n C.1 C.2.1 dX2_weightFor_27 rfl (lv_at hl 0 rfl) ?_
    refine lv_aload_n C.1 C.2.1 dX2_weightFor_28 rfl (lv_at hl 1 rfl) ?_
    refine gf2_1 C hP hb (m2 hb hL) q292 dX2_weightFor_29 ?_
    refine lv_iload_n C.1 C.2.1 dX2_weightFor_32 rfl (lv_at hl 2 rfl) ?_
    obtain ⟨hi, h⟩ := h
    refine z_iald C hP (k2_1 hb) (l2_1 hb) (m2_1 hb hL) hi dX2_weightFor_33 ?_
    refine lv_iadd C.1 C.2.1 dX2_weightFor_34  ?_
    refine lv_goto C.1 C.2.1 (tgt := 39) dX2_weightFor_35 (by decide) ?_
    exact z_ri C hr hlk rfl hP hS h dX2_weightFor_39
set_option maxHeartbeats 4000000 in
set_option maxRecDepth 100000 in
theorem tX2_weightFor {l : Launch} {E : En0} {L : List Nat} (hE : EK E L) (hL : Cov 0 54 L) {b : Nat} {p1 : Int32} {p2 : Int32} {st : St} {Q : Int32 → St → Prop} (hb : kd b = 2) (h : wX2_weightFor b p1 p2 st Q) : Mz l yX2_weightFor cX2_weightFor 4 (some .int) rmX2_weightFor E L [.ref (E.2.1 b), .int p1, .int p2] st (zI E L Q) := by
  refine Mz.of hE (by decide) (Nat.le_of_ble_eq_true rfl) ?_
  intro p e s m below meth c ls C hr hlk _ hl hP
  replace C : Cx E L "PlankBridge$Bridge" cX2_weightFor 4 p s m _ c := C
  have hS : va_S (fA E L s.heap.size) s.heap s.heap [] := va_S.rf
  replace hl : lv_has ls 4 [(0, .ref (E.2.1 b)), (1, .int p1), (2, .int p2)] := hl
  unfold wX2_weightFor at h
  refine lv_aload_n C.1 C.2.1 dX2_weightFor_0 rfl (lv_at hl 0 rfl) ?_
  refine lv_iload_n C.1 C.2.1 dX2_weightFor_1 rfl (lv_at hl 1 rfl) ?_
  refine z_ki hS (z_runV (As := [.int p1]) (rest := []) C hP hS (m2 hb hL) (e2 hb) rfl (tX2_hasWalker C.2.2.2.2.2.2.1 (hL.mo (Nat.le_of_ble_eq_true rfl) (Nat.le_of_ble_eq_true rfl)) hb h) q811 q812 q813 q112 q814 hdX2_hasWalker ⟨Nat.le_of_ble_eq_true rfl, Nat.le_of_ble_eq_true rfl⟩ ⟨Nat.zero_le _, Nat.zero_le _⟩ rfl hl.1 rfl (lv_room (Nat.le_of_ble_eq_true rfl)) dX2_weightFor_2) (fun r2 st1 H locs h hP hS => ?_)
  obtain ⟨hr2, h⟩ := h
  refine lv_if_eq C.1 C.2.1 (tgt := 17) dX2_weightFor_5 (by decide) (fun hc => ?_) (fun hc => ?_)
  · have h := h.1 hc
    refine lv_iconst C.1 C.2.1 (v := 0) dX2_weightFor_17 rfl ?_
    exact tX2_weightFor_L18 hL C hr hlk hb _ _ _ h (lv_sub hl [0, 2] rfl) hP hS
  · have h := h.2 hc
    refine lv_aload_n C.1 C.2.1 dX2_weightFor_8 rfl (lv_at hl 0 rfl) ?_
    refine gf2_1 C hP hb (m2 hb hL) q292 dX2_weightFor_9 ?_
    refine lv_iload_n C.1 C.2.1 dX2_weightFor_12 rfl (lv_at hl 1 rfl) ?_
    obtain ⟨hi, h⟩ := h
    refine z_iald C hP (k2_1 hb) (l2_1 hb) (m2_1 hb hL) hi dX2_weightFor_13 ?_
    refine lv_goto C.1 C.2.1 (tgt := 18) dX2_weightFor_14 (by decide) ?_
    exact tX2_weightFor_L18 hL C hr hlk hb _ _ _ h (lv_sub hl [0, 2] rfl) hP hS
def rmX2_canGo : Room := { frames := 2, cells := 0, slots := 0, locals := 44 }
def wX2_canGo_L52 (b : Nat) (p1 : Int32) (p2 : Int32)  (v3 : Int32) (st : St) (Q : Int32 → St → Prop) : Prop :=
  (wX2_canBePassed b st (fun r12 st11 => ((r12 = 0 → Q 0 st11) ∧ (¬ r12 = 0 → (((gI st11 b 8) < v3 → Q 0 st11) ∧ (¬ (gI st11 b 8) < v3 → ((120 < ((gI st11 b 10) + v3) → Q 0 st11) ∧ (¬ 120 < ((gI st11 b 10) + v3) → Q 1 st11))))))))
def wX2_canGo (b : Nat) (p1 : Int32) (p2 : Int32) (st : St) (Q : Int32 → St → Prop) : Prop :=
  (wX2_minutesFor b p1 p2 st (fun r2 st1 => (wX2_hasWalker b p1 st1 (fun r4 st3 => ((r4 = 0 → Q 0 st3) ∧ (¬ r4 = 0 → (wX2_standsNear b p1 st3 (fun r6 st5 => ((¬ r6 = (gI st5 b 7) → Q 0 st5) ∧ (r6 = (gI st5 b 7) → ((p2 = (-1) → wX2_canGo_L52 b p1 p2 r2 st5 Q) ∧ (¬ p2 = (-1) → (wX2_hasWalker b p2 st5 (fun r8 st7 => ((r8 = 0 → Q 0 st7) ∧ (¬ r8 = 0 → (wX2_standsNear b p2 st7 (fun r10 st9 => ((¬ r10 = (gI st9 b 7) → Q 0 st9) ∧ (r10 = (gI st9 b 7) → wX2_canGo_L52 b p1 p2 r2 st9 Q))))))))))))))))))))
theorem hdX2_canGo : yX2_canGo.cls = "PlankBridge$Bridge" ∧ yX2_canGo.cls ≠ "java/lang/invoke/MethodHandle" ∧ yX2_canGo.cls ≠ "java/lang/invoke/VarHandle" ∧ (parseMethodDescriptor yX2_canGo.desc).map (fun d => d.parameters.length) = some 2 := by decide +kernel
set_option maxHeartbeats 4000000 in
set_option maxRecDepth 100000 in
theorem tX2_canGo_L52 {l : Launch} {p : Program} {e : Env} {s : State} {m : MethodId} {args : Array Value} {below : List Frame} {meth : Method} {c : Code} {E : En0} {L : List Nat} (hL : Cov 0 54 L) (C : Cx E L "PlankBridge$Bridge" cX2_canGo 4 p s m args c) (hr : meth.sig.returnType = (some .boolean)) (hlk : meth.locks = false) {b : Nat} {p1 : Int32} {p2 : Int32} {Q : Int32 → St → Prop} (hb : kd b = 2) {v3 : Int32}  {st : St} (H : Heap) (locs : List Loc) (ls : Array Slot) (h : wX2_canGo_L52 b p1 p2 v3 st Q) (hl : lv_has ls 4 [(0, .ref (E.2.1 b)), (3, .int v3)]) (hP : va_P E.1 vwCl (wd E L st) H) (hS : va_S (fA E L s.heap.size) s.heap H locs) : W p l e rmX2_canGo s m args below meth c H locs 0 0 (MQ below (zI E L (fun r u => bz r ∧ Q r u) (fA E L s.heap.size)) args s rmX2_canGo.cells rmX2_canGo.slots (fA E L s.heap.size)) (F0 m 52 ls []) := by
  unfold wX2_canGo_L52 at h
  refine lv_aload_n C.1 C.2.1 dX2_canGo_52 rfl (lv_at hl 0 rfl) ?_
  refine z_ki hS (z_runV (As := []) (rest := []) C hP hS (m2 hb hL) (e2 hb) rfl (tX2_canBePassed C.2.2.2.2.2.2.1 (hL.mo (Nat.le_of_ble_eq_true rfl) (Nat.le_of_ble_eq_true rfl)) hb h) q1060 q735 q736 q112 q737 hdX2_canBePassed ⟨Nat.le_of_ble_eq_true rfl, Nat.le_of_ble_eq_true rfl⟩ ⟨Nat.zero_le _, Nat.zero_le _⟩ rfl hl.1 rfl (lv_room (Nat.le_of_ble_eq_true rfl)) dX2_canGo_53) (fun r12 st11 H locs h hP hS => ?_)
  obtain ⟨hr12, h⟩ := h
  refine lv_if_eq C.1 C.2.1 (tgt := 82) dX2_canGo_56 (by decide) (fun hc => ?_) (fun hc => ?_)
  · have h := h.1 hc
    refine lv_iconst C.1 C.2.1 (v := 0) dX2_canGo_82 rfl ?_
    exact z_ri C hr hlk (bz_n bz0) hP hS ⟨bz0, h⟩ dX2_canGo_83
  · have h := h.2 hc
    refine lv_iload_n C.1 C.2.1 dX2_canGo_59 rfl (lv_at hl 1 rfl) ?_
    refine lv_aload_n C.1 C.2.1 dX2_canGo_60 rfl (lv_at hl 0 rfl) ?_
    refine gf2_8 C hP hb (m2 hb hL) q308 dX2_canGo_61 ?_
    refine lv_icmp_gt C.1 C.2.1 (tgt := 82) dX2_canGo_64 (by decide) (fun hc => ?_) (fun hc => ?_)
    · have h := h.1 hc
      refine lv_iconst C.1 C.2.1 (v := 0) dX2_canGo_82 rfl ?_
      exact z_ri C hr hlk (bz_n bz0) hP hS ⟨bz0, h⟩ dX2_canGo_83
    · have h := h.2 hc
      refine lv_aload_n C.1 C.2.1 dX2_canGo_67 rfl (lv_at hl 0 rfl) ?_
      refine gf2_10 C hP hb (m2 hb hL) q312 dX2_canGo_68 ?_
      refine lv_iload_n C.1 C.2.1 dX2_canGo_71 rfl (lv_at hl 1 rfl) ?_
      refine lv_iadd C.1 C.2.1 dX2_canGo_72  ?_
      refine lv_bipush C.1 C.2.1 (v := 120) dX2_canGo_73 rfl ?_
      refine lv_icmp_gt C.1 C.2.1 (tgt := 82) dX2_canGo_75 (by decide) (fun hc => ?_) (fun hc => ?_)
      · have h := h.1 hc
        refine lv_iconst C.1 C.2.1 (v := 0) dX2_canGo_82 rfl ?_
        exact z_ri C hr hlk (bz_n bz0) hP hS ⟨bz0, h⟩ dX2_canGo_83
      · have h := h.2 hc
        refine lv_iconst C.1 C.2.1 (v := 1) dX2_canGo_78 rfl ?_
        refine lv_goto C.1 C.2.1 (tgt := 83) dX2_canGo_79 (by decide) ?_
        exact z_ri C hr hlk (bz_n bz1) hP hS ⟨bz1, h⟩ dX2_canGo_83
set_option maxHeartbeats 4000000 in
set_option maxRecDepth 100000 in
theorem tX2_canGo {l : Launch} {E : En0} {L : List Nat} (hE : EK E L) (hL : Cov 0 54 L) {b : Nat} {p1 : Int32} {p2 : Int32} {st : St} {Q : Int32 → St → Prop} (hb : kd b = 2) (h : wX2_canGo b p1 p2 st Q) : Mz l yX2_canGo cX2_canGo 4 (some .boolean) rmX2_canGo E L [.ref (E.2.1 b), .int p1, .int p2] st (zI E L (fun r u => bz r ∧ Q r u)) := by
  refine Mz.of hE (by decide) (Nat.le_of_ble_eq_true rfl) ?_
  intro p e s m below meth c ls C hr hlk _ hl hP
  replace C : Cx E L "PlankBridge$Bridge" cX2_canGo 4 p s m _ c := C
  have hS : va_S (fA E L s.heap.size) s.heap s.heap [] := va_S.rf
  replace hl : lv_has ls 4 [(0, .ref (E.2.1 b)), (1, .int p1), (2, .int p2)] := hl
  unfold wX2_canGo at h
  refine lv_aload_n C.1 C.2.1 dX2_canGo_0 rfl (lv_at hl 0 rfl) ?_
  refine lv_iload_n C.1 C.2.1 dX2_canGo_1 rfl (lv_at hl 1 rfl) ?_
  refine lv_iload_n C.1 C.2.1 dX2_canGo_2 rfl (lv_at hl 2 rfl) ?_
  refine z_ki hS (z_runV (As := [.int p1, .int p2]) (rest := []) C hP hS (m2 hb hL) (e2 hb) rfl (tX2_minutesFor C.2.2.2.2.2.2.1 (hL.mo (Nat.le_of_ble_eq_true rfl) (Nat.le_of_ble_eq_true rfl)) hb h) q1058 q808 q809 q112 q810 hdX2_minutesFor ⟨Nat.le_of_ble_eq_true rfl, Nat.le_of_ble_eq_true rfl⟩ ⟨Nat.zero_le _, Nat.zero_le _⟩ rfl hl.1 rfl (lv_room (Nat.le_of_ble_eq_true rfl)) dX2_canGo_3) (fun r2 st1 H locs h hP hS => ?_)
  refine lv_istore_n C.1 C.2.1 dX2_canGo_6 rfl hl (Nat.le_of_ble_eq_true rfl) rfl (fun ls hl => ?_)
  have hl : lv_has ls 4 [(3, .int r2), (0, .ref (E.2.1 b)), (1, .int p1), (2, .int p2)] := hl
  refine lv_aload_n C.1 C.2.1 dX2_canGo_7 rfl (lv_at hl 1 rfl) ?_
  refine lv_iload_n C.1 C.2.1 dX2_canGo_8 rfl (lv_at hl 2 rfl) ?_
  refine z_ki hS (z_runV (As := [.int p1]) (rest := []) C hP hS (m2 hb hL) (e2 hb) rfl (tX2_hasWalker C.2.2.2.2.2.2.1 (hL.mo (Nat.le_of_ble_eq_true rfl) (Nat.le_of_ble_eq_true rfl)) hb h) q811 q812 q813 q112 q814 hdX2_hasWalker ⟨Nat.le_of_ble_eq_true rfl, Nat.le_of_ble_eq_true rfl⟩ ⟨Nat.zero_le _, Nat.zero_le _⟩ rfl hl.1 rfl (lv_room (Nat.le_of_ble_eq_true rfl)) dX2_canGo_9) (fun r4 st3 H locs h hP hS => ?_)
  obtain ⟨hr4, h⟩ := h
  refine lv_if_eq C.1 C.2.1 (tgt := 82) dX2_canGo_12 (by decide) (fun hc => ?_) (fun hc => ?_)
  · have h := h.1 hc
    refine lv_iconst C.1 C.2.1 (v := 0) dX2_canGo_82 rfl ?_
    exact z_ri C hr hlk (bz_n bz0) hP hS ⟨bz0, h⟩ dX2_canGo_83
  · have h := h.2 hc
    refine lv_aload_n C.1 C.2.1 dX2_canGo_15 rfl (lv_at hl 1 rfl) ?_
    refine lv_iload_n C.1 C.2.1 dX2_canGo_16 rfl (lv_at hl 2 rfl) ?_
    refine z_ki hS (z_runV (As := [.int p1]) (rest := []) C hP hS (m2 hb hL) (e2 hb) rfl (tX2_standsNear C.2.2.2.2.2.2.1 (hL.mo (Nat.le_of_ble_eq_true rfl) (Nat.le_of_ble_eq_true rfl)) hb h) q1059 q833 q834 q112 q835 hdX2_standsNear ⟨Nat.le_of_ble_eq_true rfl, Nat.le_of_ble_eq_true rfl⟩ ⟨Nat.zero_le _, Nat.zero_le _⟩ rfl hl.1 rfl (lv_room (Nat.le_of_ble_eq_true rfl)) dX2_canGo_17) (fun r6 st5 H locs h hP hS => ?_)
    obtain ⟨hr6, h⟩ := h
    refine lv_aload_n C.1 C.2.1 dX2_canGo_20 rfl (lv_at hl 1 rfl) ?_
    refine gf2_7 C hP hb (m2 hb hL) q305 dX2_canGo_21 ?_
    refine lv_icmp_ne C.1 C.2.1 (tgt := 82) dX2_canGo_24 (by decide) (fun hc => ?_) (fun hc => ?_)
    · have h := h.1 hc
      refine lv_iconst C.1 C.2.1 (v := 0) dX2_canGo_82 rfl ?_
      exact z_ri C hr hlk (bz_n bz0) hP hS ⟨bz0, h⟩ dX2_canGo_83
    · have h := h.2 hc
      refine lv_iload_n C.1 C.2.1 dX2_canGo_27 rfl (lv_at hl 3 rfl) ?_
      refine lv_iconst C.1 C.2.1 (v := (-1)) dX2_canGo_28 rfl ?_
      refine lv_icmp_eq C.1 C.2.1 (tgt := 52) dX2_canGo_29 (by decide) (fun hc => ?_) (fun hc => ?_)
      · have h := h.1 hc
        exact tX2_canGo_L52 hL C hr hlk hb _ _ _ h (lv_sub hl [1, 0] rfl) hP hS
      · have h := h.2 hc
        refine lv_aload_n C.1 C.2.1 dX2_canGo_32 rfl (lv_at hl 1 rfl) ?_
        refine lv_iload_n C.1 C.2.1 dX2_canGo_33 rfl (lv_at hl 3 rfl) ?_
        refine z_ki hS (z_runV (As := [.int p2]) (rest := []) C hP hS (m2 hb hL) (e2 hb) rfl (tX2_hasWalker C.2.2.2.2.2.2.1 (hL.mo (Nat.le_of_ble_eq_true rfl) (Nat.le_of_ble_eq_true rfl)) hb h) q811 q812 q813 q112 q814 hdX2_hasWalker ⟨Nat.le_of_ble_eq_true rfl, Nat.le_of_ble_eq_true rfl⟩ ⟨Nat.zero_le _, Nat.zero_le _⟩ rfl hl.1 rfl (lv_room (Nat.le_of_ble_eq_true rfl)) dX2_canGo_34) (fun r8 st7 H locs h hP hS => ?_)
        obtain ⟨hr8, h⟩ := h
        refine lv_if_eq C.1 C.2.1 (tgt := 82) dX2_canGo_37 (by decide) (fun hc => ?_) (fun hc => ?_)
        · have h := h.1 hc
          refine lv_iconst C.1 C.2.1 (v := 0) dX2_canGo_82 rfl ?_
          exact z_ri C hr hlk (bz_n bz0) hP hS ⟨bz0, h⟩ dX2_canGo_83
        · have h := h.2 hc
          refine lv_aload_n C.1 C.2.1 dX2_canGo_40 rfl (lv_at hl 1 rfl) ?_
          refine lv_iload_n C.1 C.2.1 dX2_canGo_41 rfl (lv_at hl 3 rfl) ?_
          refine z_ki hS (z_runV (As := [.int p2]) (rest := []) C hP hS (m2 hb hL) (e2 hb) rfl (tX2_standsNear C.2.2.2.2.2.2.1 (hL.mo (Nat.le_of_ble_eq_true rfl) (Nat.le_of_ble_eq_true rfl)) hb h) q1059 q833 q834 q112 q835 hdX2_standsNear ⟨Nat.le_of_ble_eq_true rfl, Nat.le_of_ble_eq_true rfl⟩ ⟨Nat.zero_le _, Nat.zero_le _⟩ rfl hl.1 rfl (lv_room (Nat.le_of_ble_eq_true rfl)) dX2_canGo_42) (fun r10 st9 H locs h hP hS => ?_)
          obtain ⟨hr10, h⟩ := h
          refine lv_aload_n C.1 C.2.1 dX2_canGo_45 rfl (lv_at hl 1 rfl) ?_
          refine gf2_7 C hP hb (m2 hb hL) q305 dX2_canGo_46 ?_
          refine lv_icmp_ne C.1 C.2.1 (tgt := 82) dX2_canGo_49 (by decide) (fun hc => ?_) (fun hc => ?_)
          · have h := h.1 hc
            refine lv_iconst C.1 C.2.1 (v := 0) dX2_canGo_82 rfl ?_
            exact z_ri C hr hlk (bz_n bz0) hP hS ⟨bz0, h⟩ dX2_canGo_83
          · have h := h.2 hc
            exact tX2_canGo_L52 hL C hr hlk hb _ _ _ h (lv_sub hl [1, 0] rfl) hP hS
def rmX2_lay : Room := { frames := 0, cells := 0, slots := 0, locals := 0 }
def wX2_lay (b : Nat) (p1 : Int32) (p2 : Int32) (st : St) (Q : St → Prop) : Prop :=
  ((p1 < 0 → Q st) ∧ (¬ p1 < 0 → (((gI st b 4) ≤ p1 → Q st) ∧ (¬ (gI st b 4) ≤ p1 → (vp_in p1 12 ∧ ∀ st1, st1 = uI st (b + 3) (p1 : Int32).toNatClampNeg p2 → (vp_in p1 12 ∧ ∀ st2, st2 = uI st1 (b + 4) (p1 : Int32).toNatClampNeg 0 → Q st2))))))
theorem hdX2_lay : yX2_lay.cls = "PlankBridge$Bridge" ∧ yX2_lay.cls ≠ "java/lang/invoke/MethodHandle" ∧ yX2_lay.cls ≠ "java/lang/invoke/VarHandle" ∧ (parseMethodDescriptor yX2_lay.desc).map (fun d => d.parameters.length) = some 2 := by decide +kernel
set_option maxHeartbeats 4000000 in
set_option maxRecDepth 100000 in
theorem tX2_lay {l : Launch} {E : En0} {L : List Nat} (hE : EK E L) (hL : Cov 0 54 L) {b : Nat} {p1 : Int32} {p2 : Int32} {st : St} {Q : St → Prop} (hb : kd b = 2) (h : wX2_lay b p1 p2 st Q) : Mz l yX2_lay cX2_lay 3 none rmX2_lay E L [.ref (E.2.1 b), .int p1, .int p2] st (zV E L Q) := by
  refine Mz.of hE (by decide) (Nat.le_of_ble_eq_true rfl) ?_
  intro p e s m below meth c ls C hr hlk _ hl hP
  replace C : Cx E L "PlankBridge$Bridge" cX2_lay 3 p s m _ c := C
  have hS : va_S (fA E L s.heap.size) s.heap s.heap [] := va_S.rf
  replace hl : lv_has ls 3 [(0, .ref (E.2.1 b)), (1, .int p1), (2, .int p2)] := hl
  unfold wX2_lay at h
  refine lv_iload_n C.1 C.2.1 dX2_lay_0 rfl (lv_at hl 1 rfl) ?_
  refine lv_if_lt C.1 C.2.1 (tgt := 26) dX2_lay_1 (by decide) (fun hc => ?_) (fun hc => ?_)
  · have h := h.1 hc
    exact z_rv C hr hlk hP hS h dX2_lay_26
  · have h := h.2 hc
    refine lv_iload_n C.1 C.2.1 dX2_lay_4 rfl (lv_at hl 1 rfl) ?_
    refine lv_aload_n C.1 C.2.1 dX2_lay_5 rfl (lv_at hl 0 rfl) ?_
    refine gf2_4 C hP hb (m2 hb hL) q299 dX2_lay_6 ?_
    refine lv_icmp_ge C.1 C.2.1 (tgt := 26) dX2_lay_9 (by decide) (fun hc => ?_) (fun hc => ?_)
    · have h := h.1 hc
      exact z_rv C hr hlk hP hS h dX2_lay_26
    · have h := h.2 hc
      refine lv_aload_n C.1 C.2.1 dX2_lay_12 rfl (lv_at hl 0 rfl) ?_
      refine gf2_5 C hP hb (m2 hb hL) q301 dX2_lay_13 ?_
      refine lv_iload_n C.1 C.2.1 dX2_lay_16 rfl (lv_at hl 1 rfl) ?_
      refine lv_iload_n C.1 C.2.1 dX2_lay_17 rfl (lv_at hl 2 rfl) ?_
      obtain ⟨hi, h⟩ := h
      refine z_iast C hP hS (k2_3 hb) (l2_3 hb) (m2_3 hb hL) hi dX2_lay_18 (fun H locs hP hS => ?_)
      obtain ⟨st1, est1⟩ : ∃ z, z = uI st (b + 3) (p1 : Int32).toNatClampNeg p2 := ⟨_, rfl⟩
      rw [← est1] at hP; have h := h st1 est1
      refine lv_aload_n C.1 C.2.1 dX2_lay_19 rfl (lv_at hl 0 rfl) ?_
      refine gf2_6 C hP hb (m2 hb hL) q303 dX2_lay_20 ?_
      refine lv_iload_n C.1 C.2.1 dX2_lay_23 rfl (lv_at hl 1 rfl) ?_
      refine lv_iconst C.1 C.2.1 (v := 0) dX2_lay_24 rfl ?_
      obtain ⟨hi, h⟩ := h
      refine z_zast C hP hS (k2_4 hb) (l2_4 hb) (m2_4 hb hL) hi bz0 dX2_lay_25 (fun H locs hP hS => ?_)
      obtain ⟨st2, est2⟩ : ∃ z, z = uI st1 (b + 4) (p1 : Int32).toNatClampNeg 0 := ⟨_, rfl⟩
      rw [← est2] at hP; have h := h st2 est2
      exact z_rv C hr hlk hP hS h dX2_lay_26
def rmX2_treadAll : Room := { frames := 2, cells := 0, slots := 0, locals := 42 }
def wX2_treadAll_L125 (b : Nat) (p1 : Int32) (R4 : Int32 × Int32 × Int32 × St → Prop) (v1 : Int32) (v3 : Int32) (v6 : Int32) (st : St) (Q : Int32 → St → Prop) : Prop :=
  (∀ x5 : Int32, x5 = v3 + 1 → R4 (v1, v6, x5, st))
def wX2_treadAll_L112 (b : Nat) (p1 : Int32) (R4 : Int32 × Int32 × Int32 × St → Prop) (v1 : Int32) (v2 : Int32) (v3 : Int32) (s0 : Int32) (st : St) (Q : Int32 → St → Prop) : Prop :=
  ((s0 = 0 → wX2_treadAll_L125 b p1 R4 v1 v3 s0 st Q) ∧ (¬ s0 = 0 → ((v2 = 0 → wX2_treadAll_L125 b p1 R4 v1 v3 s0 st Q) ∧ (¬ v2 = 0 → Q 0 st))))
def wX2_treadAll_L97 (b : Nat) (p1 : Int32) (R4 : Int32 × Int32 × Int32 × St → Prop) (v1 : Int32) (v2 : Int32) (v3 : Int32) (v4 : Int32) (st : St) (Q : Int32 → St → Prop) : Prop :=
  (vp_in v4 12 ∧ ((¬ (gI st (b + 3) (v4 : Int32).toNatClampNeg) = 0 → wX2_treadAll_L112 b p1 R4 v1 v2 v3 0 st Q) ∧ ((gI st (b + 3) (v4 : Int32).toNatClampNeg) = 0 → wX2_treadAll_L112 b p1 R4 v1 v2 v3 1 st Q)))
def wX2_treadAll_L67 (b : Nat) (p1 : Int32) (R4 : Int32 × Int32 × Int32 × St → Prop) (v1 : Int32) (v2 : Int32) (v3 : Int32) (v4 : Int32) (v5 : Int32) (st : St) (Q : Int32 → St → Prop) : Prop :=
  (vp_in v4 12 ∧ (((gI st (b + 3) (v4 : Int32).toNatClampNeg) ≤ 1 → wX2_treadAll_L97 b p1 R4 v1 v2 v3 v4 st Q) ∧ (¬ (gI st (b + 3) (v4 : Int32).toNatClampNeg) ≤ 1 → ((((2 : Int32) * v1) ≤ v5 → wX2_treadAll_L97 b p1 R4 v1 v2 v3 v4 st Q) ∧ (¬ ((2 : Int32) * v1) ≤ v5 → (vp_in v4 12 ∧ (vp_in v4 12 ∧ ∀ st4, st4 = uI st (b + 3) (v4 : Int32).toNatClampNeg ((gI st (b + 3) (v4 : Int32).toNatClampNeg) - 1) → wX2_treadAll_L97 b p1 R4 v1 v2 v3 v4 st4 Q)))))))
def wX2_treadAll_L31 (b : Nat) (p1 : Int32) (R4 : Int32 × Int32 × Int32 × St → Prop) (v1 : Int32) (v2 : Int32) (v3 : Int32) (s0 : Int32) (st : St) (Q : Int32 → St → Prop) : Prop :=
  (wX2_loadOf b s0 st (fun r2 st1 => (vp_in s0 12 ∧ (((gI st1 (b + 3) (s0 : Int32).toNatClampNeg) ≤ 0 → wX2_treadAll_L67 b p1 R4 v1 v2 v3 s0 r2 st1 Q) ∧ (¬ (gI st1 (b + 3) (s0 : Int32).toNatClampNeg) ≤ 0 → ((v1 ≤ r2 → wX2_treadAll_L67 b p1 R4 v1 v2 v3 s0 r2 st1 Q) ∧ (¬ v1 ≤ r2 → (wX2_lay b s0 0 st1 (fun st3 => wX2_treadAll_L97 b p1 R4 v1 v2 v3 s0 st3 Q)))))))))
def wX2_treadAll_L4 (b : Nat) (p1 : Int32)  (R4 : Int32 × Int32 × Int32 × St → Prop) (v1 : Int32) (v2 : Int32) (v3 : Int32) (st : St) (Q : Int32 → St → Prop) : Prop :=
  (((gI st b 4) ≤ v3 → Q 1 st) ∧ (¬ (gI st b 4) ≤ v3 → (((gI st b 7) = 0 → wX2_treadAll_L31 b p1 R4 v1 v2 v3 (((gI st b 4) - 1) - v3) st Q) ∧ (¬ (gI st b 7) = 0 → wX2_treadAll_L31 b p1 R4 v1 v2 v3 v3 st Q))))
def wX2_treadAll (b : Nat) (p1 : Int32) (st : St) (Q : Int32 → St → Prop) : Prop :=
  (∃ n, lp (fun R s => wX2_treadAll_L4 b p1 R s.1 s.2.1 s.2.2.1 s.2.2.2 Q) n (p1, 0, 0, st))
theorem hdX2_treadAll : yX2_treadAll.cls = "PlankBridge$Bridge" ∧ yX2_treadAll.cls ≠ "java/lang/invoke/MethodHandle" ∧ yX2_treadAll.cls ≠ "java/lang/invoke/VarHandle" ∧ (parseMethodDescriptor yX2_treadAll.desc).map (fun d => d.parameters.length) = some 1 := by decide +kernel
set_option maxHeartbeats 4000000 in
set_option maxRecDepth 100000 in
theorem tX2_treadAll_L125 {l : Launch} {p : Program} {e : Env} {s : State} {m : MethodId} {args : Array Value} {below : List Frame} {meth : Method} {c : Code} {E : En0} {L : List Nat} (hL : Cov 0 54 L) (C : Cx E L "PlankBridge$Bridge" cX2_treadAll 7 p s m args c) (hr : meth.sig.returnType = (some .boolean)) (hlk : meth.locks = false) {b : Nat} {p1 : Int32} {Q : Int32 → St → Prop} (hb : kd b = 2) {R4 : Int32 × Int32 × Int32 × St → Prop} (hR4 : ∀ (v1 : Int32) (v2 : Int32) (v3 : Int32) (st : St), ∀ (H : Heap) (locs : List Loc) (ls : Array Slot), R4 (v1, v2, v3, st) → lv_has ls 7 [(0, .ref (E.2.1 b)), (1, .int v1), (2, .int v2), (3, .int v3)] → va_P E.1 vwCl (wd E L st) H → va_S (fA E L s.heap.size) s.heap H locs → W p l e rmX2_treadAll s m args below meth c H locs 0 0 (MQ below (zI E L (fun r u => bz r ∧ Q r u) (fA E L s.heap.size)) args s rmX2_treadAll.cells rmX2_treadAll.slots (fA E L s.heap.size)) (F0 m 4 ls [])) {v1 : Int32} {v3 : Int32} {v6 : Int32}  {st : St} (H : Heap) (locs : List Loc) (ls : Array Slot) (h : wX2_treadAll_L125 b p1 R4 v1 v3 v6 st Q) (hl : lv_has ls 7 [(0, .ref (E.2.1 b)), (1, .int v1), (3, .int v3), (6, .int v6)]) (hP : va_P E.1 vwCl (wd E L st) H) (hS : va_S (fA E L s.heap.size) s.heap H locs) : W p l e rmX2_treadAll s m args below meth c H locs 0 0 (MQ below (zI E L (fun r u => bz r ∧ Q r u) (fA E L s.heap.size)) args s rmX2_treadAll.cells rmX2_treadAll.slots (fA E L s.heap.size)) (F0 m 125 ls []) := by
  unfold wX2_treadAll_L125 at h
  refine lv_iload C.1 C.2.1 dX2_treadAll_125 (lv_at hl 3 rfl) ?_
  refine lv_istore_n C.1 C.2.1 dX2_treadAll_127 rfl hl (Nat.le_of_ble_eq_true rfl) rfl (fun ls hl => ?_)
  have hl : lv_has ls 7 [(2, .int v6), (0, .ref (E.2.1 b)), (1, .int v1), (3, .int v3), (6, .int v6)] := hl
  obtain ⟨x5, ex5⟩ : ∃ z, z = v3 + 1 := ⟨_, rfl⟩
  have h := h x5 ex5
  refine lv_iinc C.1 C.2.1 dX2_treadAll_128 hl (k := 3) rfl ex5.symm (Nat.le_of_ble_eq_true rfl) rfl (fun ls hl => ?_)
  have hl : lv_has ls 7 [(3, .int x5), (2, .int v6), (0, .ref (E.2.1 b)), (1, .int v1), (6, .int v6)] := hl
  refine lv_goto C.1 C.2.1 (tgt := 4) dX2_treadAll_131 (by decide) ?_
  exact hR4 v1 v6 x5 st _ _ _ h (lv_sub hl [2, 3, 1, 0] rfl) hP hS
set_option maxHeartbeats 4000000 in
set_option maxRecDepth 100000 in
theorem tX2_treadAll_L112 {l : Launch} {p : Program} {e : Env} {s : State} {m : MethodId} {args : Array Value} {below : List Frame} {meth : Method} {c : Code} {E : En0} {L : List Nat} (hL : Cov 0 54 L) (C : Cx E L "PlankBridge$Bridge" cX2_treadAll 7 p s m args c) (hr : meth.sig.returnType = (some .boolean)) (hlk : meth.locks = false) {b : Nat} {p1 : Int32} {Q : Int32 → St → Prop} (hb : kd b = 2) {R4 : Int32 × Int32 × Int32 × St → Prop} (hR4 : ∀ (v1 : Int32) (v2 : Int32) (v3 : Int32) (st : St), ∀ (H : Heap) (locs : List Loc) (ls : Array Slot), R4 (v1, v2, v3, st) → lv_has ls 7 [(0, .ref (E.2.1 b)), (1, .int v1), (2, .int v2), (3, .int v3)] → va_P E.1 vwCl (wd E L st) H → va_S (fA E L s.heap.size) s.heap H locs → W p l e rmX2_treadAll s m args below meth c H locs 0 0 (MQ below (zI E L (fun r u => bz r ∧ Q r u) (fA E L s.heap.size)) args s rmX2_treadAll.cells rmX2_treadAll.slots (fA E L s.heap.size)) (F0 m 4 ls [])) {v1 : Int32} {v2 : Int32} {v3 : Int32} {s0 : Int32}  {st : St} (H : Heap) (locs : List Loc) (ls : Array Slot) (h : wX2_treadAll_L112 b p1 R4 v1 v2 v3 s0 st Q) (hl : lv_has ls 7 [(0, .ref (E.2.1 b)), (1, .int v1), (2, .int v2), (3, .int v3)]) (hP : va_P E.1 vwCl (wd E L st) H) (hS : va_S (fA E L s.heap.size) s.heap H locs) : W p l e rmX2_treadAll s m args below meth c H locs 0 0 (MQ below (zI E L (fun r u => bz r ∧ Q r u) (fA E L s.heap.size)) args s rmX2_treadAll.cells rmX2_treadAll.slots (fA E L s.heap.size)) (F0 m 112 ls [.int s0]) := by
  unfold wX2_treadAll_L112 at h
  refine lv_istore C.1 C.2.1 dX2_treadAll_112 hl (Nat.le_of_ble_eq_true rfl) rfl (fun ls hl => ?_)
  have hl : lv_has ls 7 [(6, .int s0), (0, .ref (E.2.1 b)), (1, .int v1), (2, .int v2), (3, .int v3)] := hl
  refine lv_iload C.1 C.2.1 dX2_treadAll_114 (lv_at hl 0 rfl) ?_
  refine lv_if_eq C.1 C.2.1 (tgt := 125) dX2_treadAll_116 (by decide) (fun hc => ?_) (fun hc => ?_)
  · have h := h.1 hc
    exact tX2_treadAll_L125 hL C hr hlk hb hR4 _ _ _ h (lv_sub hl [1, 2, 4, 0] rfl) hP hS
  · have h := h.2 hc
    refine lv_iload_n C.1 C.2.1 dX2_treadAll_119 rfl (lv_at hl 3 rfl) ?_
    refine lv_if_eq C.1 C.2.1 (tgt := 125) dX2_treadAll_120 (by decide) (fun hc => ?_) (fun hc => ?_)
    · have h := h.1 hc
      exact tX2_treadAll_L125 hL C hr hlk hb hR4 _ _ _ h (lv_sub hl [1, 2, 4, 0] rfl) hP hS
    · have h := h.2 hc
      refine lv_iconst C.1 C.2.1 (v := 0) dX2_treadAll_123 rfl ?_
      exact z_ri C hr hlk (bz_n bz0) hP hS ⟨bz0, h⟩ dX2_treadAll_124
set_option maxHeartbeats 4000000 in
set_option maxRecDepth 100000 in
theorem tX2_treadAll_L97 {l : Launch} {p : Program} {e : Env} {s : State} {m : MethodId} {args : Array Value} {below : List Frame} {meth : Method} {c : Code} {E : En0} {L : List Nat} (hL : Cov 0 54 L) (C : Cx E L "PlankBridge$Bridge" cX2_treadAll 7 p s m args c) (hr : meth.sig.returnType = (some .boolean)) (hlk : meth.locks = false) {b : Nat} {p1 : Int32} {Q : Int32 → St → Prop} (hb : kd b = 2) {R4 : Int32 × Int32 × Int32 × St → Prop} (hR4 : ∀ (v1 : Int32) (v2 : Int32) (v3 : Int32) (st : St), ∀ (H : Heap) (locs : List Loc) (ls : Array Slot), R4 (v1, v2, v3, st) → lv_has ls 7 [(0, .ref (E.2.1 b)), (1, .int v1), (2, .int v2), (3, .int v3)] → va_P E.1 vwCl (wd E L st) H → va_S (fA E L s.heap.size) s.heap H locs → W p l e rmX2_treadAll s m args below meth c H locs 0 0 (MQ below (zI E L (fun r u => bz r ∧ Q r u) (fA E L s.heap.size)) args s rmX2_treadAll.cells rmX2_treadAll.slots (fA E L s.heap.size)) (F0 m 4 ls [])) {v1 : Int32} {v2 : Int32} {v3 : Int32} {v4 : Int32}  {st : St} (H : Heap) (locs : List Loc) (ls : Array Slot) (h : wX2_treadAll_L97 b p1 R4 v1 v2 v3 v4 st Q) (hl : lv_has ls 7 [(0, .ref (E.2.1 b)), (1, .int v1), (2, .int v2), (3, .int v3), (4, .int v4)]) (hP : va_P E.1 vwCl (wd E L st) H) (hS : va_S (fA E L s.heap.size) s.heap H locs) : W p l e rmX2_treadAll s m args below meth c H locs 0 0 (MQ below (zI E L (fun r u => bz r ∧ Q r u) (fA E L s.heap.size)) args s rmX2_treadAll.cells rmX2_treadAll.slots (fA E L s.heap.size)) (F0 m 97 ls []) := by
  unfold wX2_treadAll_L97 at h
  refine lv_aload_n C.1 C.2.1 dX2_treadAll_97 rfl (lv_at hl 0 rfl) ?_
  refine gf2_5 C hP hb (m2 hb hL) q301 dX2_treadAll_98 ?_
  refine lv_iload C.1 C.2.1 dX2_treadAll_101 (lv_at hl 4 rfl) ?_
  obtain ⟨hi, h⟩ := h
  refine z_iald C hP (k2_3 hb) (l2_3 hb) (m2_3 hb hL) hi dX2_treadAll_103 ?_
  refine lv_if_ne C.1 C.2.1 (tgt := 111) dX2_treadAll_104 (by decide) (fun hc => ?_) (fun hc => ?_)
  · have h := h.1 hc
    refine lv_iconst C.1 C.2.1 (v := 0) dX2_treadAll_111 rfl ?_
    exact tX2_treadAll_L112 hL C hr hlk hb hR4 _ _ _ h (lv_sub hl [0, 1, 2, 3] rfl) hP hS
  · have h := h.2 hc
    refine lv_iconst C.1 C.2.1 (v := 1) dX2_treadAll_107 rfl ?_
    refine lv_goto C.1 C.2.1 (tgt := 112) dX2_treadAll_108 (by decide) ?_
    exact tX2_treadAll_L112 hL C hr hlk hb hR4 _ _ _ h (lv_sub hl [0, 1, 2, 3] rfl) hP hS
set_option maxHeartbeats 4000000 in
set_option maxRecDepth 100000 in
theorem tX2_treadAll_L67 {l : Launch} {p : Program} {e : Env} {s : State} {m : MethodId} {args : Array Value} {below : List Frame} {meth : Method} {c : Code} {E : En0} {L : List Nat} (hL : Cov 0 54 L) (C : Cx E L "PlankBridge$Bridge" cX2_treadAll 7 p s m args c) (hr : meth.sig.returnType = (some .boolean)) (hlk : meth.locks = false) {b : Nat} {p1 : Int32} {Q : Int32 → St → Prop} (hb : kd b = 2) {R4 : Int32 × Int32 × Int32 × St → Prop} (hR4 : ∀ (v1 : Int32) (v2 : Int32) (v3 : Int32) (st : St), ∀ (H : Heap) (locs : List Loc) (ls : Array Slot), R4 (v1, v2, v3, st) → lv_has ls 7 [(0, .ref (E.2.1 b)), (1, .int v1), (2, .int v2), (3, .int v3)] → va_P E.1 vwCl (wd E L st) H → va_S (fA E L s.heap.size) s.heap H locs → W p l e rmX2_treadAll s m args below meth c H locs 0 0 (MQ below (zI E L (fun r u => bz r ∧ Q r u) (fA E L s.heap.size)) args s rmX2_treadAll.cells rmX2_treadAll.slots (fA E L s.heap.size)) (F0 m 4 ls [])) {v1 : Int32} {v2 : Int32} {v3 : Int32} {v4 : Int32} {v5 : Int32}  {st : St} (H : Heap) (locs : List Loc) (ls : Array Slot) (h : wX2_treadAll_L67 b p1 R4 v1 v2 v3 v4 v5 st Q) (hl : lv_has ls 7 [(0, .ref (E.2.1 b)), (1, .int v1), (2, .int v2), (3, .int v3), (4, .int v4), (5, .int v5)]) (hP : va_P E.1 vwCl (wd E L st) H) (hS : va_S (fA E L s.heap.size) s.heap H locs) : W p l e rmX2_treadAll s m args below meth c H locs 0 0 (MQ below (zI E L (fun r u => bz r ∧ Q r u) (fA E L s.heap.size)) args s rmX2_treadAll.cells rmX2_treadAll.slots (fA E L s.heap.size)) (F0 m 67 ls []) := by
  unfold wX2_treadAll_L67 at h
  refine lv_aload_n C.1 C.2.1 dX2_treadAll_67 rfl (lv_at hl 0 rfl) ?_
  refine gf2_5 C hP hb (m2 hb hL) q301 dX2_treadAll_68 ?_
  refine lv_iload C.1 C.2.1 dX2_treadAll_71 (lv_at hl 4 rfl) ?_
  obtain ⟨hi, h⟩ := h
  refine z_iald C hP (k2_3 hb) (l2_3 hb) (m2_3 hb hL) hi dX2_treadAll_73 ?_
  refine lv_iconst C.1 C.2.1 (v := 1) dX2_treadAll_74 rfl ?_
  refine lv_icmp_le C.1 C.2.1 (tgt := 97) dX2_treadAll_75 (by decide) (fun hc => ?_) (fun hc => ?_)
  · have h := h.1 hc
    exact tX2_treadAll_L97 hL C hr hlk hb hR4 _ _ _ h (lv_sub hl [0, 1, 2, 3, 4] rfl) hP hS
  · have h := h.2 hc
    refine lv_iload C.1 C.2.1 dX2_treadAll_78 (lv_at hl 5 rfl) ?_
    refine lv_iconst C.1 C.2.1 (v := 2) dX2_treadAll_80 rfl ?_
    refine lv_iload_n C.1 C.2.1 dX2_treadAll_81 rfl (lv_at hl 1 rfl) ?_
    refine lv_imul C.1 C.2.1 dX2_treadAll_82  ?_
    refine lv_icmp_ge C.1 C.2.1 (tgt := 97) dX2_treadAll_83 (by decide) (fun hc => ?_) (fun hc => ?_)
    · have h := h.1 hc
      exact tX2_treadAll_L97 hL C hr hlk hb hR4 _ _ _ h (lv_sub hl [0, 1, 2, 3, 4] rfl) hP hS
    · have h := h.2 hc
      refine lv_aload_n C.1 C.2.1 dX2_treadAll_86 rfl (lv_at hl 0 rfl) ?_
      refine gf2_5 C hP hb (m2 hb hL) q301 dX2_treadAll_87 ?_
      refine lv_iload C.1 C.2.1 dX2_treadAll_90 (lv_at hl 4 rfl) ?_
      refine lv_dup2_11 C.1 C.2.1 dX2_treadAll_92 rfl rfl ?_
      obtain ⟨hi, h⟩ := h
      refine z_iald C hP (k2_3 hb) (l2_3 hb) (m2_3 hb hL) hi dX2_treadAll_93 ?_
      refine lv_iconst C.1 C.2.1 (v := 1) dX2_treadAll_94 rfl ?_
      refine lv_isub C.1 C.2.1 dX2_treadAll_95  ?_
      obtain ⟨hi, h⟩ := h
      refine z_iast C hP hS (k2_3 hb) (l2_3 hb) (m2_3 hb hL) hi dX2_treadAll_96 (fun H locs hP hS => ?_)
      obtain ⟨st4, est4⟩ : ∃ z, z = uI st (b + 3) (v4 : Int32).toNatClampNeg ((gI st (b + 3) (v4 : Int32).toNatClampNeg) - 1) := ⟨_, rfl⟩
      rw [← est4] at hP; have h := h st4 est4
      exact tX2_treadAll_L97 hL C hr hlk hb hR4 _ _ _ h (lv_sub hl [0, 1, 2, 3, 4] rfl) hP hS
set_option maxHeartbeats 4000000 in
set_option maxRecDepth 100000 in
theorem tX2_treadAll_L31 {l : Launch} {p : Program} {e : Env} {s : State} {m : MethodId} {args : Array Value} {below : List Frame} {meth : Method} {c : Code} {E : En0} {L : List Nat} (hL : Cov 0 54 L) (C : Cx E L "PlankBridge$Bridge" cX2_treadAll 7 p s m args c) (hr : meth.sig.returnType = (some .boolean)) (hlk : meth.locks = false) {b : Nat} {p1 : Int32} {Q : Int32 → St → Prop} (hb : kd b = 2) {R4 : Int32 × Int32 × Int32 × St → Prop} (hR4 : ∀ (v1 : Int32) (v2 : Int32) (v3 : Int32) (st : St), ∀ (H : Heap) (locs : List Loc) (ls : Array Slot), R4 (v1, v2, v3, st) → lv_has ls 7 [(0, .ref (E.2.1 b)), (1, .int v1), (2, .int v2), (3, .int v3)] → va_P E.1 vwCl (wd E L st) H → va_S (fA E L s.heap.size) s.heap H locs → W p l e rmX2_treadAll s m args below meth c H locs 0 0 (MQ below (zI E L (fun r u => bz r ∧ Q r u) (fA E L s.heap.size)) args s rmX2_treadAll.cells rmX2_treadAll.slots (fA E L s.heap.size)) (F0 m 4 ls [])) {v1 : Int32} {v2 : Int32} {v3 : Int32} {s0 : Int32}  {st : St} (H : Heap) (locs : List Loc) (ls : Array Slot) (h : wX2_treadAll_L31 b p1 R4 v1 v2 v3 s0 st Q) (hl : lv_has ls 7 [(0, .ref (E.2.1 b)), (1, .int v1), (2, .int v2), (3, .int v3)]) (hP : va_P E.1 vwCl (wd E L st) H) (hS : va_S (fA E L s.heap.size) s.heap H locs) : W p l e rmX2_treadAll s m args below meth c H locs 0 0 (MQ below (zI E L (fun r u => bz r ∧ Q r u) (fA E L s.heap.size)) args s rmX2_treadAll.cells rmX2_treadAll.slots (fA E L s.heap.size)) (F0 m 31 ls [.int s0]) := by
  unfold wX2_treadAll_L31 at h
  refine lv_istore C.1 C.2.1 dX2_treadAll_31 hl (Nat.le_of_ble_eq_true rfl) rfl (fun ls hl => ?_)
  have hl : lv_has ls 7 [(4, .int s0), (0, .ref (E.2.1 b)), (1, .int v1), (2, .int v2), (3, .int v3)] := hl
  refine lv_aload_n C.1 C.2.1 dX2_treadAll_33 rfl (lv_at hl 1 rfl) ?_
  refine lv_iload C.1 C.2.1 dX2_treadAll_34 (lv_at hl 0 rfl) ?_
  refine z_ki hS (z_runV (As := [.int s0]) (rest := []) C hP hS (m2 hb hL) (e2 hb) rfl (tX2_loadOf C.2.2.2.2.2.2.1 (hL.mo (Nat.le_of_ble_eq_true rfl) (Nat.le_of_ble_eq_true rfl)) hb h) q1074 q837 q838 q112 q839 hdX2_loadOf ⟨Nat.le_of_ble_eq_true rfl, Nat.le_of_ble_eq_true rfl⟩ ⟨Nat.zero_le _, Nat.zero_le _⟩ rfl hl.1 rfl (lv_room (Nat.le_of_ble_eq_true rfl)) dX2_treadAll_36) (fun r2 st1 H locs h hP hS => ?_)
  refine lv_istore C.1 C.2.1 dX2_treadAll_39 hl (Nat.le_of_ble_eq_true rfl) rfl (fun ls hl => ?_)
  have hl : lv_has ls 7 [(5, .int r2), (4, .int s0), (0, .ref (E.2.1 b)), (1, .int v1), (2, .int v2), (3, .int v3)] := hl
  refine lv_aload_n C.1 C.2.1 dX2_treadAll_41 rfl (lv_at hl 2 rfl) ?_
  refine gf2_5 C hP hb (m2 hb hL) q301 dX2_treadAll_42 ?_
  refine lv_iload C.1 C.2.1 dX2_treadAll_45 (lv_at hl 1 rfl) ?_
  obtain ⟨hi, h⟩ := h
  refine z_iald C hP (k2_3 hb) (l2_3 hb) (m2_3 hb hL) hi dX2_treadAll_47 ?_
  refine lv_if_le C.1 C.2.1 (tgt := 67) dX2_treadAll_48 (by decide) (fun hc => ?_) (fun hc => ?_)
  · have h := h.1 hc
    exact tX2_treadAll_L67 hL C hr hlk hb hR4 _ _ _ h (lv_sub hl [2, 3, 4, 5, 1, 0] rfl) hP hS
  · have h := h.2 hc
    refine lv_iload C.1 C.2.1 dX2_treadAll_51 (lv_at hl 0 rfl) ?_
    refine lv_iload_n C.1 C.2.1 dX2_treadAll_53 rfl (lv_at hl 3 rfl) ?_
    refine lv_icmp_ge C.1 C.2.1 (tgt := 67) dX2_treadAll_54 (by decide) (fun hc => ?_) (fun hc => ?_)
    · have h := h.1 hc
      exact tX2_treadAll_L67 hL C hr hlk hb hR4 _ _ _ h (lv_sub hl [2, 3, 4, 5, 1, 0] rfl) hP hS
    · have h := h.2 hc
      refine lv_aload_n C.1 C.2.1 dX2_treadAll_57 rfl (lv_at hl 2 rfl) ?_
      refine lv_iload C.1 C.2.1 dX2_treadAll_58 (lv_at hl 1 rfl) ?_
      refine lv_iconst C.1 C.2.1 (v := 0) dX2_treadAll_60 rfl ?_
      refine z_kv hS (z_runV (As := [.int s0, .int 0]) (rest := []) C hP hS (m2 hb hL) (e2 hb) rfl (tX2_lay C.2.2.2.2.2.2.1 (hL.mo (Nat.le_of_ble_eq_true rfl) (Nat.le_of_ble_eq_true rfl)) hb h) q1075 q1076 q1077 q112 q1078 hdX2_lay ⟨Nat.le_of_ble_eq_true rfl, Nat.le_of_ble_eq_true rfl⟩ ⟨Nat.zero_le _, Nat.zero_le _⟩ rfl hl.1 rfl (lv_room (Nat.le_of_ble_eq_true rfl)) dX2_treadAll_61) (fun st3 H locs h hP hS => ?_)
      refine lv_goto C.1 C.2.1 (tgt := 97) dX2_treadAll_64 (by decide) ?_
      exact tX2_treadAll_L97 hL C hr hlk hb hR4 _ _ _ h (lv_sub hl [2, 3, 4, 5, 1] rfl) hP hS
set_option maxHeartbeats 4000000 in
set_option maxRecDepth 100000 in
theorem tX2_treadAll_L4 {l : Launch} {p : Program} {e : Env} {s : State} {m : MethodId} {args : Array Value} {below : List Frame} {meth : Method} {c : Code} {E : En0} {L : List Nat} (hL : Cov 0 54 L) (C : Cx E L "PlankBridge$Bridge" cX2_treadAll 7 p s m args c) (hr : meth.sig.returnType = (some .boolean)) (hlk : meth.locks = false) {b : Nat} {p1 : Int32} {Q : Int32 → St → Prop} (hb : kd b = 2) : ∀ (n : Nat) (v1 : Int32) (v2 : Int32) (v3 : Int32) (st : St) (H : Heap) (locs : List Loc) (ls : Array Slot), lp (fun R s => wX2_treadAll_L4 b p1 R s.1 s.2.1 s.2.2.1 s.2.2.2 Q) n (v1, v2, v3, st) → lv_has ls 7 [(0, .ref (E.2.1 b)), (1, .int v1), (2, .int v2), (3, .int v3)] → va_P E.1 vwCl (wd E L st) H → va_S (fA E L s.heap.size) s.heap H locs → W p l e rmX2_treadAll s m args below meth c H locs 0 0 (MQ below (zI E L (fun r u => bz r ∧ Q r u) (fA E L s.heap.size)) args s rmX2_treadAll.cells rmX2_treadAll.slots (fA E L s.heap.size)) (F0 m 4 ls []) := by
  intro n
  induction n with
  | zero => exact fun _ _ _ _ _ _ _ h _ _ _ => False.elim ‹_›
  | succ n ih =>
    intro v1 v2 v3 st  H locs ls h hl hP hS
    have hR4 := ih
    replace h : wX2_treadAll_L4 b p1 (lp (fun R s => wX2_treadAll_L4 b p1 R s.1 s.2.1 s.2.2.1 s.2.2.2 Q) n) v1 v2 v3 st Q := h
    unfold wX2_treadAll_L4 at h
    refine lv_iload_n C.1 C.2.1 dX2_treadAll_4 rfl (lv_at hl 3 rfl) ?_
    refine lv_aload_n C.1 C.2.1 dX2_treadAll_5 rfl (lv_at hl 0 rfl) ?_
    refine gf2_4 C hP hb (m2 hb hL) q299 dX2_treadAll_6 ?_
    refine lv_icmp_ge C.1 C.2.1 (tgt := 134) dX2_treadAll_9 (by decide) (fun hc => ?_) (fun hc => ?_)
    · have h := h.1 hc
      refine lv_iconst C.1 C.2.1 (v := 1) dX2_treadAll_134 rfl ?_
      exact z_ri C hr hlk (bz_n bz1) hP hS ⟨bz1, h⟩ dX2_treadAll_135
    · have h := h.2 hc
      refine lv_aload_n C.1 C.2.1 dX2_treadAll_12 rfl (lv_at hl 0 rfl) ?_
      refine gf2_7 C hP hb (m2 hb hL) q305 dX2_treadAll_13 ?_
      refine lv_if_eq C.1 C.2.1 (tgt := 23) dX2_treadAll_16 (by decide) (fun hc => ?_) (fun hc => ?_)
      · have h := h.1 hc
        refine lv_aload_n C.1 C.2.1 dX2_treadAll_23 rfl (lv_at hl 0 rfl) ?_
        refine gf2_4 C hP hb (m2 hb hL) q299 dX2_treadAll_24 ?_
        refine lv_iconst C.1 C.2.1 (v := 1) dX2_treadAll_27 rfl ?_
        refine lv_isub C.1 C.2.1 dX2_treadAll_28  ?_
        refine lv_iload_n C.1 C.2.1 dX2_treadAll_29 rfl (lv_at hl 3 rfl) ?_
        refine lv_isub C.1 C.2.1 dX2_treadAll_30  ?_
        exact tX2_treadAll_L31 hL C hr hlk hb hR4 _ _ _ h hl hP hS
      · have h := h.2 hc
        refine lv_iload_n C.1 C.2.1 dX2_treadAll_19 rfl (lv_at hl 3 rfl) ?_
        refine lv_goto C.1 C.2.1 (tgt := 31) dX2_treadAll_20 (by decide) ?_
        exact tX2_treadAll_L31 hL C hr hlk hb hR4 _ _ _ h hl hP hS
set_option maxHeartbeats 4000000 in
set_option maxRecDepth 100000 in
theorem tX2_treadAll {l : Launch} {E : En0} {L : List Nat} (hE : EK E L) (hL : Cov 0 54 L) {b : Nat} {p1 : Int32} {st : St} {Q : Int32 → St → Prop} (hb : kd b = 2) (h : wX2_treadAll b p1 st Q) : Mz l yX2_treadAll cX2_treadAll 7 (some .boolean) rmX2_treadAll E L [.ref (E.2.1 b), .int p1] st (zI E L (fun r u => bz r ∧ Q r u)) := by
  refine Mz.of hE (by decide) (Nat.le_of_ble_eq_true rfl) ?_
  intro p e s m below meth c ls C hr hlk _ hl hP
  replace C : Cx E L "PlankBridge$Bridge" cX2_treadAll 7 p s m _ c := C
  have hS : va_S (fA E L s.heap.size) s.heap s.heap [] := va_S.rf
  replace hl : lv_has ls 7 [(0, .ref (E.2.1 b)), (1, .int p1)] := hl
  unfold wX2_treadAll at h
  refine lv_iconst C.1 C.2.1 (v := 0) dX2_treadAll_0 rfl ?_
  refine lv_istore_n C.1 C.2.1 dX2_treadAll_1 rfl hl (Nat.le_of_ble_eq_true rfl) rfl (fun ls hl => ?_)
  have hl : lv_has ls 7 [(2, .int 0), (0, .ref (E.2.1 b)), (1, .int p1)] := hl
  refine lv_iconst C.1 C.2.1 (v := 0) dX2_treadAll_2 rfl ?_
  refine lv_istore_n C.1 C.2.1 dX2_treadAll_3 rfl hl (Nat.le_of_ble_eq_true rfl) rfl (fun ls hl => ?_)
  have hl : lv_has ls 7 [(3, .int 0), (2, .int 0), (0, .ref (E.2.1 b)), (1, .int p1)] := hl
  obtain ⟨n, h⟩ := h
  exact tX2_treadAll_L4 hL C hr hlk hb n p1 0 0 st _ _ _ h (lv_sub hl [2, 3, 1, 0] rfl) hP hS
def rmX2_beginNight : Room := { frames := 1, cells := 0, slots := 0, locals := 25 }
def wX2_beginNight_L65 (b : Nat) (R18 : Int32 × St → Prop) (v1 : Int32) (st : St) (Q : St → Prop) : Prop :=
  (∀ x9 : Int32, x9 = v1 + 1 → R18 (x9, st))
def wX2_beginNight_L64 (b : Nat) (R18 : Int32 × St → Prop) (v1 : Int32) (s0 : Int32) (s1 : Int32) (st : St) (Q : St → Prop) : Prop :=
  (vp_in s1 12 ∧ bz s0 ∧ ∀ st10, st10 = uI st (b + 4) (s1 : Int32).toNatClampNeg s0 → wX2_beginNight_L65 b R18 v1 st10 Q)
def wX2_beginNight_L18 (b : Nat)  (R18 : Int32 × St → Prop) (v1 : Int32) (st : St) (Q : St → Prop) : Prop :=
  (((gI st b 4) ≤ v1 → (wX2_nightIsWeak b st (fun r4 st3 => ((r4 = 0 → Q st3) ∧ (¬ r4 = 0 → (wX2_findWeakest b 0 st3 (fun r6 st5 => ((r6 = (-1) → Q st5) ∧ (¬ r6 = (-1) → (vp_in r6 12 ∧ ∀ st7, st7 = uI st5 (b + 4) (r6 : Int32).toNatClampNeg 1 → Q st7)))))))))) ∧ (¬ (gI st b 4) ≤ v1 → (vp_in v1 12 ∧ (((gI st (b + 4) (v1 : Int32).toNatClampNeg) = 0 → wX2_beginNight_L65 b R18 v1 st Q) ∧ (¬ (gI st (b + 4) (v1 : Int32).toNatClampNeg) = 0 → (vp_in v1 12 ∧ (vp_in v1 12 ∧ ∀ st8, st8 = uI st (b + 3) (v1 : Int32).toNatClampNeg ((gI st (b + 3) (v1 : Int32).toNatClampNeg) - 1) → (vp_in v1 12 ∧ (((gI st8 (b + 3) (v1 : Int32).toNatClampNeg) ≤ 0 → wX2_beginNight_L64 b R18 v1 0 v1 st8 Q) ∧ (¬ (gI st8 (b + 3) (v1 : Int32).toNatClampNeg) ≤ 0 → wX2_beginNight_L64 b R18 v1 1 v1 st8 Q))))))))))
def wX2_beginNight (b : Nat) (st : St) (Q : St → Prop) : Prop :=
  (∀ st1, st1 = uI st b 9 ((gI st b 9) + 1) → (∀ st2, st2 = uI st1 b 8 60 → (∃ n, lp (fun R s => wX2_beginNight_L18 b R s.1 s.2 Q) n (0, st2))))
theorem hdX2_beginNight : yX2_beginNight.cls = "PlankBridge$Bridge" ∧ yX2_beginNight.cls ≠ "java/lang/invoke/MethodHandle" ∧ yX2_beginNight.cls ≠ "java/lang/invoke/VarHandle" ∧ (parseMethodDescriptor yX2_beginNight.desc).map (fun d => d.parameters.length) = some 0 := by decide +kernel
set_option maxHeartbeats 4000000 in
set_option maxRecDepth 100000 in
theorem tX2_beginNight_L65 {l : Launch} {p : Program} {e : Env} {s : State} {m : MethodId} {args : Array Value} {below : List Frame} {meth : Method} {c : Code} {E : En0} {L : List Nat} (hL : Cov 0 54 L) (C : Cx E L "PlankBridge$Bridge" cX2_beginNight 2 p s m args c) (hr : meth.sig.returnType = none) (hlk : meth.locks = false) {b : Nat} {Q : St → Prop} (hb : kd b = 2) {R18 : Int32 × St → Prop} (hR18 : ∀ (v1 : Int32) (st : St), ∀ (H : Heap) (locs : List Loc) (ls : Array Slot), R18 (v1, st) → lv_has ls 2 [(0, .ref (E.2.1 b)), (1, .int v1)] → va_P E.1 vwCl (wd E L st) H → va_S (fA E L s.heap.size) s.heap H locs → W p l e rmX2_beginNight s m args below meth c H locs 0 0 (MQ below (zV E L Q (fA E L s.heap.size)) args s rmX2_beginNight.cells rmX2_beginNight.slots (fA E L s.heap.size)) (F0 m 18 ls [])) {v1 : Int32}  {st : St} (H : Heap) (locs : List Loc) (ls : Array Slot) (h : wX2_beginNight_L65 b R18 v1 st Q) (hl : lv_has ls 2 [(0, .ref (E.2.1 b)), (1, .int v1)]) (hP : va_P E.1 vwCl (wd E L st) H) (hS : va_S (fA E L s.heap.size) s.heap H locs) : W p l e rmX2_beginNight s m args below meth c H locs 0 0 (MQ below (zV E L Q (fA E L s.heap.size)) args s rmX2_beginNight.cells rmX2_beginNight.slots (fA E L s.heap.size)) (F0 m 65 ls []) := by
  unfold wX2_beginNight_L65 at h
  obtain ⟨x9, ex9⟩ : ∃ z, z = v1 + 1 := ⟨_, rfl⟩
  have h := h x9 ex9
  refine lv_iinc C.1 C.2.1 dX2_beginNight_65 hl (k := 1) rfl ex9.symm (Nat.le_of_ble_eq_true rfl) rfl (fun ls hl => ?_)
  have hl : lv_has ls 2 [(1, .int x9), (0, .ref (E.2.1 b))] := hl
  refine lv_goto C.1 C.2.1 (tgt := 18) dX2_beginNight_68 (by decide) ?_
  exact hR18 x9 st _ _ _ h (lv_sub hl [1, 0] rfl) hP hS
set_option maxHeartbeats 4000000 in
set_option maxRecDepth 100000 in
theorem tX2_beginNight_L64 {l : Launch} {p : Program} {e : Env} {s : State} {m : MethodId} {args : Array Value} {below : List Frame} {meth : Method} {c : Code} {E : En0} {L : List Nat} (hL : Cov 0 54 L) (C : Cx E L "PlankBridge$Bridge" cX2_beginNight 2 p s m args c) (hr : meth.sig.returnType = none) (hlk : meth.locks = false) {b : Nat} {Q : St → Prop} (hb : kd b = 2) {R18 : Int32 × St → Prop} (hR18 : ∀ (v1 : Int32) (st : St), ∀ (H : Heap) (locs : List Loc) (ls : Array Slot), R18 (v1, st) → lv_has ls 2 [(0, .ref (E.2.1 b)), (1, .int v1)] → va_P E.1 vwCl (wd E L st) H → va_S (fA E L s.heap.size) s.heap H locs → W p l e rmX2_beginNight s m args below meth c H locs 0 0 (MQ below (zV E L Q (fA E L s.heap.size)) args s rmX2_beginNight.cells rmX2_beginNight.slots (fA E L s.heap.size)) (F0 m 18 ls [])) {v1 : Int32} {s0 : Int32} {s1 : Int32}  {st : St} (H : Heap) (locs : List Loc) (ls : Array Slot) (h : wX2_beginNight_L64 b R18 v1 s0 s1 st Q) (hl : lv_has ls 2 [(0, .ref (E.2.1 b)), (1, .int v1)]) (hP : va_P E.1 vwCl (wd E L st) H) (hS : va_S (fA E L s.heap.size) s.heap H locs) : W p l e rmX2_beginNight s m args below meth c H locs 0 0 (MQ below (zV E L Q (fA E L s.heap.size)) args s rmX2_beginNight.cells rmX2_beginNight.slots (fA E L s.heap.size)) (F0 m 64 ls [.int s0, .int s1, .ref (E.2.1 ((b + 4)))]) := by
  unfold wX2_beginNight_L64 at h
  obtain ⟨hi, h⟩ := h
  obtain ⟨hz, h⟩ := h
  refine z_zast C hP hS (k2_4 hb) (l2_4 hb) (m2_4 hb hL) hi hz dX2_beginNight_64 (fun H locs hP hS => ?_)
  obtain ⟨st10, est10⟩ : ∃ z, z = uI st (b + 4) (s1 : Int32).toNatClampNeg s0 := ⟨_, rfl⟩
  rw [← est10] at hP; have h := h st10 est10
  exact tX2_beginNight_L65 hL C hr hlk hb hR18 _ _ _ h hl hP hS
set_option maxHeartbeats 4000000 in
set_option maxRecDepth 100000 in
theorem tX2_beginNight_L18 {l : Launch} {p : Program} {e : Env} {s : State} {m : MethodId} {args : Array Value} {below : List Frame} {meth : Method} {c : Code} {E : En0} {L : List Nat} (hL : Cov 0 54 L) (C : Cx E L "PlankBridge$Bridge" cX2_beginNight 2 p s m args c) (hr : meth.sig.returnType = none) (hlk : meth.locks = false) {b : Nat} {Q : St → Prop} (hb : kd b = 2) : ∀ (n : Nat) (v1 : Int32) (st : St) (H : Heap) (locs : List Loc) (ls : Array Slot), lp (fun R s => wX2_beginNight_L18 b R s.1 s.2 Q) n (v1, st) → lv_has ls 2 [(0, .ref (E.2.1 b)), (1, .int v1)] → va_P E.1 vwCl (wd E L st) H → va_S (fA E L s.heap.size) s.heap H locs → W p l e rmX2_beginNight s m args below meth c H locs 0 0 (MQ below (zV E L Q (fA E L s.heap.size)) args s rmX2_beginNight.cells rmX2_beginNight.slots (fA E L s.heap.size)) (F0 m 18 ls []) := by
  intro n
  induction n with
  | zero => exact fun _ _ _ _ _ h _ _ _ => False.elim ‹_›
  | succ n ih =>
    intro v1 st  H locs ls h hl hP hS
    have hR18 := ih
    replace h : wX2_beginNight_L18 b (lp (fun R s => wX2_beginNight_L18 b R s.1 s.2 Q) n) v1 st Q := h
    unfold wX2_beginNight_L18 at h
    refine lv_iload_n C.1 C.2.1 dX2_beginNight_18 rfl (lv_at hl 1 rfl) ?_
    refine lv_aload_n C.1 C.2.1 dX2_beginNight_19 rfl (lv_at hl 0 rfl) ?_
    refine gf2_4 C hP hb (m2 hb hL) q299 dX2_beginNight_20 ?_
    refine lv_icmp_ge C.1 C.2.1 (tgt := 71) dX2_beginNight_23 (by decide) (fun hc => ?_) (fun hc => ?_)
    · have h := h.1 hc
      refine lv_aload_n C.1 C.2.1 dX2_beginNight_71 rfl (lv_at hl 0 rfl) ?_
      refine z_ki hS (z_runV (As := []) (rest := []) C hP hS (m2 hb hL) (e2 hb) rfl (tX2_nightIsWeak C.2.2.2.2.2.2.1 (hL.mo (Nat.le_of_ble_eq_true rfl) (Nat.le_of_ble_eq_true rfl)) hb h) q840 q759 q760 q112 q761 hdX2_nightIsWeak ⟨Nat.le_of_ble_eq_true rfl, Nat.le_of_ble_eq_true rfl⟩ ⟨Nat.zero_le _, Nat.zero_le _⟩ rfl hl.1 rfl (lv_room (Nat.le_of_ble_eq_true rfl)) dX2_beginNight_72) (fun r4 st3 H locs h hP hS => ?_)
      obtain ⟨hr4, h⟩ := h
      refine lv_if_eq C.1 C.2.1 (tgt := 96) dX2_beginNight_75 (by decide) (fun hc => ?_) (fun hc => ?_)
      · have h := h.1 hc
        exact z_rv C hr hlk hP hS h dX2_beginNight_96
      · have h := h.2 hc
        refine lv_aload_n C.1 C.2.1 dX2_beginNight_78 rfl (lv_at hl 0 rfl) ?_
        refine lv_iconst C.1 C.2.1 (v := 0) dX2_beginNight_79 rfl ?_
        refine z_ki hS (z_runV (As := [.int 0]) (rest := []) C hP hS (m2 hb hL) (e2 hb) rfl (tX2_findWeakest C.2.2.2.2.2.2.1 (hL.mo (Nat.le_of_ble_eq_true rfl) (Nat.le_of_ble_eq_true rfl)) hb h) q1087 q1032 q1033 q112 q1034 hdX2_findWeakest ⟨Nat.le_of_ble_eq_true rfl, Nat.le_of_ble_eq_true rfl⟩ ⟨Nat.zero_le _, Nat.zero_le _⟩ rfl hl.1 rfl (lv_room (Nat.le_of_ble_eq_true rfl)) dX2_beginNight_80) (fun r6 st5 H locs h hP hS => ?_)
        refine lv_istore_n C.1 C.2.1 dX2_beginNight_83 rfl hl (Nat.le_of_ble_eq_true rfl) rfl (fun ls hl => ?_)
        have hl : lv_has ls 2 [(1, .int r6), (0, .ref (E.2.1 b))] := hl
        refine lv_iload_n C.1 C.2.1 dX2_beginNight_84 rfl (lv_at hl 0 rfl) ?_
        refine lv_iconst C.1 C.2.1 (v := (-1)) dX2_beginNight_85 rfl ?_
        refine lv_icmp_eq C.1 C.2.1 (tgt := 96) dX2_beginNight_86 (by decide) (fun hc => ?_) (fun hc => ?_)
        · have h := h.1 hc
          exact z_rv C hr hlk hP hS h dX2_beginNight_96
        · have h := h.2 hc
          refine lv_aload_n C.1 C.2.1 dX2_beginNight_89 rfl (lv_at hl 1 rfl) ?_
          refine gf2_6 C hP hb (m2 hb hL) q303 dX2_beginNight_90 ?_
          refine lv_iload_n C.1 C.2.1 dX2_beginNight_93 rfl (lv_at hl 0 rfl) ?_
          refine lv_iconst C.1 C.2.1 (v := 1) dX2_beginNight_94 rfl ?_
          obtain ⟨hi, h⟩ := h
          refine z_zast C hP hS (k2_4 hb) (l2_4 hb) (m2_4 hb hL) hi bz1 dX2_beginNight_95 (fun H locs hP hS => ?_)
          obtain ⟨st7, est7⟩ : ∃ z, z = uI st5 (b + 4) (r6 : Int32).toNatClampNeg 1 := ⟨_, rfl⟩
          rw [← est7] at hP; have h := h st7 est7
          exact z_rv C hr hlk hP hS h dX2_beginNight_96
    · have h := h.2 hc
      refine lv_aload_n C.1 C.2.1 dX2_beginNight_26 rfl (lv_at hl 0 rfl) ?_
      refine gf2_6 C hP hb (m2 hb hL) q303 dX2_beginNight_27 ?_
      refine lv_iload_n C.1 C.2.1 dX2_beginNight_30 rfl (lv_at hl 1 rfl) ?_
      obtain ⟨hi, h⟩ := h
      refine z_zald C hP (k2_4 hb) (l2_4 hb) (m2_4 hb hL) hi dX2_beginNight_31 ?_
      refine lv_if_eq C.1 C.2.1 (tgt := 65) dX2_beginNight_32 (by decide) (fun hc => ?_) (fun hc => ?_)
      · have h := h.1 hc
        exact tX2_beginNight_L65 hL C hr hlk hb hR18 _ _ _ h hl hP hS
      · have h := h.2 hc
        refine lv_aload_n C.1 C.2.1 dX2_beginNight_35 rfl (lv_at hl 0 rfl) ?_
        refine gf2_5 C hP hb (m2 hb hL) q301 dX2_beginNight_36 ?_
        refine lv_iload_n C.1 C.2.1 dX2_beginNight_39 rfl (lv_at hl 1 rfl) ?_
        refine lv_dup2_11 C.1 C.2.1 dX2_beginNight_40 rfl rfl ?_
        obtain ⟨hi, h⟩ := h
        refine z_iald C hP (k2_3 hb) (l2_3 hb) (m2_3 hb hL) hi dX2_beginNight_41 ?_
        refine lv_iconst C.1 C.2.1 (v := 1) dX2_beginNight_42 rfl ?_
        refine lv_isub C.1 C.2.1 dX2_beginNight_43  ?_
        obtain ⟨hi, h⟩ := h
        refine z_iast C hP hS (k2_3 hb) (l2_3 hb) (m2_3 hb hL) hi dX2_beginNight_44 (fun H locs hP hS => ?_)
        obtain ⟨st8, est8⟩ : ∃ z, z = uI st (b + 3) (v1 : Int32).toNatClampNeg ((gI st (b + 3) (v1 : Int32).toNatClampNeg) - 1) := ⟨_, rfl⟩
        rw [← est8] at hP; have h := h st8 est8
        refine lv_aload_n C.1 C.2.1 dX2_beginNight_45 rfl (lv_at hl 0 rfl) ?_
        refine gf2_6 C hP hb (m2 hb hL) q303 dX2_beginNight_46 ?_
        refine lv_iload_n C.1 C.2.1 dX2_beginNight_49 rfl (lv_at hl 1 rfl) ?_
        refine lv_aload_n C.1 C.2.1 dX2_beginNight_50 rfl (lv_at hl 0 rfl) ?_
        refine gf2_5 C hP hb (m2 hb hL) q301 dX2_beginNight_51 ?_
        refine lv_iload_n C.1 C.2.1 dX2_beginNight_54 rfl (lv_at hl 1 rfl) ?_
        obtain ⟨hi, h⟩ := h
        refine z_iald C hP (k2_3 hb) (l2_3 hb) (m2_3 hb hL) hi dX2_beginNight_55 ?_
        refine lv_if_le C.1 C.2.1 (tgt := 63) dX2_beginNight_56 (by decide) (fun hc => ?_) (fun hc => ?_)
        · have h := h.1 hc
          refine lv_iconst C.1 C.2.1 (v := 0) dX2_beginNight_63 rfl ?_
          exact tX2_beginNight_L64 hL C hr hlk hb hR18 _ _ _ h hl hP hS
        · have h := h.2 hc
          refine lv_iconst C.1 C.2.1 (v := 1) dX2_beginNight_59 rfl ?_
          refine lv_goto C.1 C.2.1 (tgt := 64) dX2_beginNight_60 (by decide) ?_
          exact tX2_beginNight_L64 hL C hr hlk hb hR18 _ _ _ h hl hP hS
set_option maxHeartbeats 4000000 in
set_option maxRecDepth 100000 in
theorem tX2_beginNight {l : Launch} {E : En0} {L : List Nat} (hE : EK E L) (hL : Cov 0 54 L) {b : Nat} {st : St} {Q : St → Prop} (hb : kd b = 2) (h : wX2_beginNight b st Q) : Mz l yX2_beginNight cX2_beginNight 2 none rmX2_beginNight E L [.ref (E.2.1 b)] st (zV E L Q) := by
  refine Mz.of hE (by decide) (Nat.le_of_ble_eq_true rfl) ?_
  intro p e s m below meth c ls C hr hlk _ hl hP
  replace C : Cx E L "PlankBridge$Bridge" cX2_beginNight 2 p s m _ c := C
  have hS : va_S (fA E L s.heap.size) s.heap s.heap [] := va_S.rf
  replace hl : lv_has ls 2 [(0, .ref (E.2.1 b))] := hl
  unfold wX2_beginNight at h
  refine lv_aload_n C.1 C.2.1 dX2_beginNight_0 rfl (lv_at hl 0 rfl) ?_
  refine lv_dup C.1 C.2.1 dX2_beginNight_1 rfl ?_
  refine gf2_9 C hP hb (m2 hb hL) q310 dX2_beginNight_2 ?_
  refine lv_iconst C.1 C.2.1 (v := 1) dX2_beginNight_5 rfl ?_
  refine lv_iadd C.1 C.2.1 dX2_beginNight_6  ?_
  refine pf2_9 C hP hS hb (m2 hb hL) q310 dX2_beginNight_7 (fun H locs hP hS => ?_)
  obtain ⟨st1, est1⟩ : ∃ z, z = uI st b 9 ((gI st b 9) + 1) := ⟨_, rfl⟩
  rw [← est1] at hP; have h := h st1 est1
  refine lv_aload_n C.1 C.2.1 dX2_beginNight_10 rfl (lv_at hl 0 rfl) ?_
  refine lv_bipush C.1 C.2.1 (v := 60) dX2_beginNight_11 rfl ?_
  refine pf2_8 C hP hS hb (m2 hb hL) q308 dX2_beginNight_13 (fun H locs hP hS => ?_)
  obtain ⟨st2, est2⟩ : ∃ z, z = uI st1 b 8 60 := ⟨_, rfl⟩
  rw [← est2] at hP; have h := h st2 est2
  refine lv_iconst C.1 C.2.1 (v := 0) dX2_beginNight_16 rfl ?_
  refine lv_istore_n C.1 C.2.1 dX2_beginNight_17 rfl hl (Nat.le_of_ble_eq_true rfl) rfl (fun ls hl => ?_)
  have hl : lv_has ls 2 [(1, .int 0), (0, .ref (E.2.1 b))] := hl
  obtain ⟨n, h⟩ := h
  exact tX2_beginNight_L18 hL C hr hlk hb n 0 st2 _ _ _ h (lv_sub hl [1, 0] rfl) hP hS
def rmX2_letGoBy : Room := { frames := 2, cells := 0, slots := 0, locals := 46 }
def wX2_letGoBy_L12 (b : Nat) (p1 : Int32)  (R12 : Int32 × St → Prop) (v2 : Int32) (st : St) (Q : Int32 → St → Prop) : Prop :=
  (((gI st b 10) < 120 → Q v2 st) ∧ (¬ (gI st b 10) < 120 → ((600 < v2 → Q v2 st) ∧ (¬ 600 < v2 → (∀ st2, st2 = uI st b 10 ((gI st b 10) - 120) → (wX2_beginNight b st2 (fun st3 => (∀ x4 : Int32, x4 = v2 + 1 → R12 (x4, st3)))))))))
def wX2_letGoBy (b : Nat) (p1 : Int32) (st : St) (Q : Int32 → St → Prop) : Prop :=
  (∀ st1, st1 = uI st b 10 ((gI st b 10) + p1) → (∃ n, lp (fun R s => wX2_letGoBy_L12 b p1 R s.1 s.2 Q) n (0, st1)))
theorem hdX2_letGoBy : yX2_letGoBy.cls = "PlankBridge$Bridge" ∧ yX2_letGoBy.cls ≠ "java/lang/invoke/MethodHandle" ∧ yX2_letGoBy.cls ≠ "java/lang/invoke/VarHandle" ∧ (parseMethodDescriptor yX2_letGoBy.desc).map (fun d => d.parameters.length) = some 1 := by decide +kernel
set_option maxHeartbeats 4000000 in
set_option maxRecDepth 100000 in
theorem tX2_letGoBy_L12 {l : Launch} {p : Program} {e : Env} {s : State} {m : MethodId} {args : Array Value} {below : List Frame} {meth : Method} {c : Code} {E : En0} {L : List Nat} (hL : Cov 0 54 L) (C : Cx E L "PlankBridge$Bridge" cX2_letGoBy 3 p s m args c) (hr : meth.sig.returnType = (some .int)) (hlk : meth.locks = false) {b : Nat} {p1 : Int32} {Q : Int32 → St → Prop} (hb : kd b = 2) : ∀ (n : Nat) (v2 : Int32) (st : St) (H : Heap) (locs : List Loc) (ls : Array Slot), lp (fun R s => wX2_letGoBy_L12 b p1 R s.1 s.2 Q) n (v2, st) → lv_has ls 3 [(0, .ref (E.2.1 b)), (2, .int v2)] → va_P E.1 vwCl (wd E L st) H → va_S (fA E L s.heap.size) s.heap H locs → W p l e rmX2_letGoBy s m args below meth c H locs 0 0 (MQ below (zI E L Q (fA E L s.heap.size)) args s rmX2_letGoBy.cells rmX2_letGoBy.slots (fA E L s.heap.size)) (F0 m 12 ls []) := by
  intro n
  induction n with
  | zero => exact fun _ _ _ _ _ h _ _ _ => False.elim ‹_›
  | succ n ih =>
    intro v2 st  H locs ls h hl hP hS
    have hR12 := ih
    replace h : wX2_letGoBy_L12 b p1 (lp (fun R s => wX2_letGoBy_L12 b p1 R s.1 s.2 Q) n) v2 st Q := h
    unfold wX2_letGoBy_L12 at h
    refine lv_aload_n C.1 C.2.1 dX2_letGoBy_12 rfl (lv_at hl 0 rfl) ?_
    refine gf2_10 C hP hb (m2 hb hL) q312 dX2_letGoBy_13 ?_
    refine lv_bipush C.1 C.2.1 (v := 120) dX2_letGoBy_16 rfl ?_
    refine lv_icmp_lt C.1 C.2.1 (tgt := 49) dX2_letGoBy_18 (by decide) (fun hc => ?_) (fun hc => ?_)
    · have h := h.1 hc
      refine lv_iload_n C.1 C.2.1 dX2_letGoBy_49 rfl (lv_at hl 1 rfl) ?_
      exact z_ri C hr hlk rfl hP hS h dX2_letGoBy_50
    · have h := h.2 hc
      refine lv_iload_n C.1 C.2.1 dX2_letGoBy_21 rfl (lv_at hl 1 rfl) ?_
      refine lv_sipush C.1 C.2.1 (v := 600) dX2_letGoBy_22 rfl ?_
      refine lv_icmp_gt C.1 C.2.1 (tgt := 49) dX2_letGoBy_25 (by decide) (fun hc => ?_) (fun hc => ?_)
      · have h := h.1 hc
        refine lv_iload_n C.1 C.2.1 dX2_letGoBy_49 rfl (lv_at hl 1 rfl) ?_
        exact z_ri C hr hlk rfl hP hS h dX2_letGoBy_50
      · have h := h.2 hc
        refine lv_aload_n C.1 C.2.1 dX2_letGoBy_28 rfl (lv_at hl 0 rfl) ?_
        refine lv_dup C.1 C.2.1 dX2_letGoBy_29 rfl ?_
        refine gf2_10 C hP hb (m2 hb hL) q312 dX2_letGoBy_30 ?_
        refine lv_bipush C.1 C.2.1 (v := 120) dX2_letGoBy_33 rfl ?_
        refine lv_isub C.1 C.2.1 dX2_letGoBy_35  ?_
        refine pf2_10 C hP hS hb (m2 hb hL) q312 dX2_letGoBy_36 (fun H locs hP hS => ?_)
        obtain ⟨st2, est2⟩ : ∃ z, z = uI st b 10 ((gI st b 10) - 120) := ⟨_, rfl⟩
        rw [← est2] at hP; have h := h st2 est2
        refine lv_aload_n C.1 C.2.1 dX2_letGoBy_39 rfl (lv_at hl 0 rfl) ?_
        refine z_kv hS (z_runV (As := []) (rest := []) C hP hS (m2 hb hL) (e2 hb) rfl (tX2_beginNight C.2.2.2.2.2.2.1 (hL.mo (Nat.le_of_ble_eq_true rfl) (Nat.le_of_ble_eq_true rfl)) hb h) q1083 q1085 q26 q112 q1086 hdX2_beginNight ⟨Nat.le_of_ble_eq_true rfl, Nat.le_of_ble_eq_true rfl⟩ ⟨Nat.zero_le _, Nat.zero_le _⟩ rfl hl.1 rfl (lv_room (Nat.le_of_ble_eq_true rfl)) dX2_letGoBy_40) (fun st3 H locs h hP hS => ?_)
        obtain ⟨x4, ex4⟩ : ∃ z, z = v2 + 1 := ⟨_, rfl⟩
        have h := h x4 ex4
        refine lv_iinc C.1 C.2.1 dX2_letGoBy_43 hl (k := 1) rfl ex4.symm (Nat.le_of_ble_eq_true rfl) rfl (fun ls hl => ?_)
        have hl : lv_has ls 3 [(2, .int x4), (0, .ref (E.2.1 b))] := hl
        refine lv_goto C.1 C.2.1 (tgt := 12) dX2_letGoBy_46 (by decide) ?_
        exact hR12 x4 st3 _ _ _ h (lv_sub hl [1, 0] rfl) hP hS
set_option maxHeartbeats 4000000 in
set_option maxRecDepth 100000 in
theorem tX2_letGoBy {l : Launch} {E : En0} {L : List Nat} (hE : EK E L) (hL : Cov 0 54 L) {b : Nat} {p1 : Int32} {st : St} {Q : Int32 → St → Prop} (hb : kd b = 2) (h : wX2_letGoBy b p1 st Q) : Mz l yX2_letGoBy cX2_letGoBy 3 (some .int) rmX2_letGoBy E L [.ref (E.2.1 b), .int p1] st (zI E L Q) := by
  refine Mz.of hE (by decide) (Nat.le_of_ble_eq_true rfl) ?_
  intro p e s m below meth c ls C hr hlk _ hl hP
  replace C : Cx E L "PlankBridge$Bridge" cX2_letGoBy 3 p s m _ c := C
  have hS : va_S (fA E L s.heap.size) s.heap s.heap [] := va_S.rf
  replace hl : lv_has ls 3 [(0, .ref (E.2.1 b)), (1, .int p1)] := hl
  unfold wX2_letGoBy at h
  refine lv_aload_n C.1 C.2.1 dX2_letGoBy_0 rfl (lv_at hl 0 rfl) ?_
  refine lv_dup C.1 C.2.1 dX2_letGoBy_1 rfl ?_
  refine gf2_10 C hP hb (m2 hb hL) q312 dX2_letGoBy_2 ?_
  refine lv_iload_n C.1 C.2.1 dX2_letGoBy_5 rfl (lv_at hl 1 rfl) ?_
  refine lv_iadd C.1 C.2.1 dX2_letGoBy_6  ?_
  refine pf2_10 C hP hS hb (m2 hb hL) q312 dX2_letGoBy_7 (fun H locs hP hS => ?_)
  obtain ⟨st1, est1⟩ : ∃ z, z = uI st b 10 ((gI st b 10) + p1) := ⟨_, rfl⟩
  rw [← est1] at hP; have h := h st1 est1
  refine lv_iconst C.1 C.2.1 (v := 0) dX2_letGoBy_10 rfl ?_
  refine lv_istore_n C.1 C.2.1 dX2_letGoBy_11 rfl hl (Nat.le_of_ble_eq_true rfl) rfl (fun ls hl => ?_)
  have hl : lv_has ls 3 [(2, .int 0), (0, .ref (E.2.1 b)), (1, .int p1)] := hl
  obtain ⟨n, h⟩ := h
  exact tX2_letGoBy_L12 hL C hr hlk hb n 0 st1 _ _ _ h (lv_sub hl [1, 0] rfl) hP hS
def rmX2_go : Room := { frames := 3, cells := 0, slots := 0, locals := 68 }
def wX2_go_L87 (b : Nat) (p1 : Int32) (p2 : Int32)  (v1 : Int32) (v2 : Int32) (v3 : Int32) (st : St) (Q : Int32 → St → Prop) : Prop :=
  (wX2_minutesFor b v1 v2 st (fun r8 st7 => (∀ st9, st9 = uI st7 b 8 ((gI st7 b 8) - r8) → (wX2_letGoBy b r8 st9 (fun r11 st10 => (bz v3 ∧ Q v3 st10))))))
def wX2_go_L61 (b : Nat) (p1 : Int32) (p2 : Int32)  (v1 : Int32) (v2 : Int32) (v3 : Int32) (s0 : Int32) (st : St) (Q : Int32 → St → Prop) : Prop :=
  (bz s0 ∧ ∀ st13, st13 = uI st b 7 s0 → (∀ st14, st14 = uI st13 b 11 ((gI st13 b 11) + 1) → wX2_go_L87 b p1 p2 v1 v2 v3 st14 Q))
def wX2_go_L44 (b : Nat) (p1 : Int32) (p2 : Int32)  (v1 : Int32) (v2 : Int32) (v3 : Int32) (s0 : Int32) (s1 : Int32) (st : St) (Q : Int32 → St → Prop) : Prop :=
  (∀ st12, st12 = uI st b 3 (s1 ^^^ s0) → ((¬ (gI st12 b 7) = 0 → wX2_go_L61 b p1 p2 v1 v2 v3 0 st12 Q) ∧ ((gI st12 b 7) = 0 → wX2_go_L61 b p1 p2 v1 v2 v3 1 st12 Q)))
def wX2_go (b : Nat) (p1 : Int32) (p2 : Int32) (st : St) (Q : Int32 → St → Prop) : Prop :=
  (wX2_weightFor b p1 p2 st (fun r2 st1 => (wX2_treadAll b r2 st1 (fun r4 st3 => ((r4 = 0 → (∀ st5, st5 = uI st3 b 12 ((gI st3 b 12) + 1) → wX2_go_L87 b p1 p2 p1 p2 r4 st5 Q)) ∧ (¬ r4 = 0 → (∀ st6, st6 = uI st3 b 3 ((gI st3 b 3) ^^^ ((1 : Int32) <<< (p1 &&& 31))) → ((¬ p2 = (-1) → wX2_go_L44 b p1 p2 p1 p2 r4 ((1 : Int32) <<< (p2 &&& 31)) (gI st6 b 3) st6 Q) ∧ (p2 = (-1) → wX2_go_L44 b p1 p2 p1 p2 r4 0 (gI st6 b 3) st6 Q)))))))))
theorem hdX2_go : yX2_go.cls = "PlankBridge$Bridge" ∧ yX2_go.cls ≠ "java/lang/invoke/MethodHandle" ∧ yX2_go.cls ≠ "java/lang/invoke/VarHandle" ∧ (parseMethodDescriptor yX2_go.desc).map (fun d => d.parameters.length) = some 2 := by decide +kernel
set_option maxHeartbeats 4000000 in
set_option maxRecDepth 100000 in
theorem tX2_go_L87 {l : Launch} {p : Program} {e : Env} {s : State} {m : MethodId} {args : Array Value} {below : List Frame} {meth : Method} {c : Code} {E : En0} {L : List Nat} (hL : Cov 0 54 L) (C : Cx E L "PlankBridge$Bridge" cX2_go 5 p s m args c) (hr : meth.sig.returnType = (some .boolean)) (hlk : meth.locks = false) {b : Nat} {p1 : Int32} {p2 : Int32} {Q : Int32 → St → Prop} (hb : kd b = 2) {v1 : Int32} {v2 : Int32} {v3 : Int32}  {st : St} (H : Heap) (locs : List Loc) (ls : Array Slot) (h : wX2_go_L87 b p1 p2 v1 v2 v3 st Q) (hl : lv_has ls 5 [(0, .ref (E.2.1 b)), (1, .int v1), (2, .int v2), (3, .int v3)]) (hP : va_P E.1 vwCl (wd E L st) H) (hS : va_S (fA E L s.heap.size) s.heap H locs) : W p l e rmX2_go s m args below meth c H locs 0 0 (MQ below (zI E L (fun r u => bz r ∧ Q r u) (fA E L s.heap.size)) args s rmX2_go.cells rmX2_go.slots (fA E L s.heap.size)) (F0 m 87 ls []) := by
  unfold wX2_go_L87 at h
  refine lv_aload_n C.1 C.2.1 dX2_go_87 rfl (lv_at hl 0 rfl) ?_
  refine lv_iload_n C.1 C.2.1 dX2_go_88 rfl (lv_at hl 1 rfl) ?_
  refine lv_iload_n C.1 C.2.1 dX2_go_89 rfl (lv_at hl 2 rfl) ?_
  refine z_ki hS (z_runV (As := [.int v1, .int v2]) (rest := []) C hP hS (m2 hb hL) (e2 hb) rfl (tX2_minutesFor C.2.2.2.2.2.2.1 (hL.mo (Nat.le_of_ble_eq_true rfl) (Nat.le_of_ble_eq_true rfl)) hb h) q1058 q808 q809 q112 q810 hdX2_minutesFor ⟨Nat.le_of_ble_eq_true rfl, Nat.le_of_ble_eq_true rfl⟩ ⟨Nat.zero_le _, Nat.zero_le _⟩ rfl hl.1 rfl (lv_room (Nat.le_of_ble_eq_true rfl)) dX2_go_90) (fun r8 st7 H locs h hP hS => ?_)
  refine lv_istore C.1 C.2.1 dX2_go_93 hl (Nat.le_of_ble_eq_true rfl) rfl (fun ls hl => ?_)
  have hl : lv_has ls 5 [(4, .int r8), (0, .ref (E.2.1 b)), (1, .int v1), (2, .int v2), (3, .int v3)] := hl
  refine lv_aload_n C.1 C.2.1 dX2_go_95 rfl (lv_at hl 1 rfl) ?_
  refine lv_dup C.1 C.2.1 dX2_go_96 rfl ?_
  refine gf2_8 C hP hb (m2 hb hL) q308 dX2_go_97 ?_
  refine lv_iload C.1 C.2.1 dX2_go_100 (lv_at hl 0 rfl) ?_
  refine lv_isub C.1 C.2.1 dX2_go_102  ?_
  refine pf2_8 C hP hS hb (m2 hb hL) q308 dX2_go_103 (fun H locs hP hS => ?_)
  obtain ⟨st9, est9⟩ : ∃ z, z = uI st7 b 8 ((gI st7 b 8) - r8) := ⟨_, rfl⟩
  rw [← est9] at hP; have h := h st9 est9
  refine lv_aload_n C.1 C.2.1 dX2_go_106 rfl (lv_at hl 1 rfl) ?_
  refine lv_iload C.1 C.2.1 dX2_go_107 (lv_at hl 0 rfl) ?_
  refine z_ki hS (z_runV (As := [.int r8]) (rest := []) C hP hS (m2 hb hL) (e2 hb) rfl (tX2_letGoBy C.2.2.2.2.2.2.1 (hL.mo (Nat.le_of_ble_eq_true rfl) (Nat.le_of_ble_eq_true rfl)) hb h) q1079 q1080 q1081 q112 q1082 hdX2_letGoBy ⟨Nat.le_of_ble_eq_true rfl, Nat.le_of_ble_eq_true rfl⟩ ⟨Nat.zero_le _, Nat.zero_le _⟩ rfl hl.1 rfl (lv_room (Nat.le_of_ble_eq_true rfl)) dX2_go_109) (fun r11 st10 H locs h hP hS => ?_)
  refine lv_pop C.1 C.2.1 dX2_go_112 rfl ?_
  refine lv_iload_n C.1 C.2.1 dX2_go_113 rfl (lv_at hl 4 rfl) ?_
  exact z_ri C hr hlk (bz_n h.1) hP hS h dX2_go_114
set_option maxHeartbeats 4000000 in
set_option maxRecDepth 100000 in
theorem tX2_go_L61 {l : Launch} {p : Program} {e : Env} {s : State} {m : MethodId} {args : Array Value} {below : List Frame} {meth : Method} {c : Code} {E : En0} {L : List Nat} (hL : Cov 0 54 L) (C : Cx E L "PlankBridge$Bridge" cX2_go 5 p s m args c) (hr : meth.sig.returnType = (some .boolean)) (hlk : meth.locks = false) {b : Nat} {p1 : Int32} {p2 : Int32} {Q : Int32 → St → Prop} (hb : kd b = 2) {v1 : Int32} {v2 : Int32} {v3 : Int32} {s0 : Int32}  {st : St} (H : Heap) (locs : List Loc) (ls : Array Slot) (h : wX2_go_L61 b p1 p2 v1 v2 v3 s0 st Q) (hl : lv_has ls 5 [(0, .ref (E.2.1 b)), (1, .int v1), (2, .int v2), (3, .int v3)]) (hP : va_P E.1 vwCl (wd E L st) H) (hS : va_S (fA E L s.heap.size) s.heap H locs) : W p l e rmX2_go s m args below meth c H locs 0 0 (MQ below (zI E L (fun r u => bz r ∧ Q r u) (fA E L s.heap.size)) args s rmX2_go.cells rmX2_go.slots (fA E L s.heap.size)) (F0 m 61 ls [.int s0, .ref (E.2.1 b)]) := by
  unfold wX2_go_L61 at h
  obtain ⟨hz, h⟩ := h
  refine pf2_7 C hP hS hb (m2 hb hL) hz q305 dX2_go_61 (fun H locs hP hS => ?_)
  obtain ⟨st13, est13⟩ : ∃ z, z = uI st b 7 s0 := ⟨_, rfl⟩
  rw [← est13] at hP; have h := h st13 est13
  refine lv_aload_n C.1 C.2.1 dX2_go_64 rfl (lv_at hl 0 rfl) ?_
  refine lv_dup C.1 C.2.1 dX2_go_65 rfl ?_
  refine gf2_11 C hP hb (m2 hb hL) q314 dX2_go_66 ?_
  refine lv_iconst C.1 C.2.1 (v := 1) dX2_go_69 rfl ?_
  refine lv_iadd C.1 C.2.1 dX2_go_70  ?_
  refine pf2_11 C hP hS hb (m2 hb hL) q314 dX2_go_71 (fun H locs hP hS => ?_)
  obtain ⟨st14, est14⟩ : ∃ z, z = uI st13 b 11 ((gI st13 b 11) + 1) := ⟨_, rfl⟩
  rw [← est14] at hP; have h := h st14 est14
  refine lv_goto C.1 C.2.1 (tgt := 87) dX2_go_74 (by decide) ?_
  exact tX2_go_L87 hL C hr hlk hb _ _ _ h hl hP hS
set_option maxHeartbeats 4000000 in
set_option maxRecDepth 100000 in
theorem tX2_go_L44 {l : Launch} {p : Program} {e : Env} {s : State} {m : MethodId} {args : Array Value} {below : List Frame} {meth : Method} {c : Code} {E : En0} {L : List Nat} (hL : Cov 0 54 L) (C : Cx E L "PlankBridge$Bridge" cX2_go 5 p s m args c) (hr : meth.sig.returnType = (some .boolean)) (hlk : meth.locks = false) {b : Nat} {p1 : Int32} {p2 : Int32} {Q : Int32 → St → Prop} (hb : kd b = 2) {v1 : Int32} {v2 : Int32} {v3 : Int32} {s0 : Int32} {s1 : Int32}  {st : St} (H : Heap) (locs : List Loc) (ls : Array Slot) (h : wX2_go_L44 b p1 p2 v1 v2 v3 s0 s1 st Q) (hl : lv_has ls 5 [(0, .ref (E.2.1 b)), (1, .int v1), (2, .int v2), (3, .int v3)]) (hP : va_P E.1 vwCl (wd E L st) H) (hS : va_S (fA E L s.heap.size) s.heap H locs) : W p l e rmX2_go s m args below meth c H locs 0 0 (MQ below (zI E L (fun r u => bz r ∧ Q r u) (fA E L s.heap.size)) args s rmX2_go.cells rmX2_go.slots (fA E L s.heap.size)) (F0 m 44 ls [.int s0, .int s1, .ref (E.2.1 b)]) := by
  unfold wX2_go_L44 at h
  refine lv_ixor C.1 C.2.1 dX2_go_44  ?_
  refine pf2_3 C hP hS hb (m2 hb hL) q296 dX2_go_45 (fun H locs hP hS => ?_)
  obtain ⟨st12, est12⟩ : ∃ z, z = uI st b 3 (s1 ^^^ s0) := ⟨_, rfl⟩
  rw [← est12] at hP; have h := h st12 est12
  refine lv_aload_n C.1 C.2.1 dX2_go_48 rfl (lv_at hl 0 rfl) ?_
  refine lv_aload_n C.1 C.2.1 dX2_go_49 rfl (lv_at hl 0 rfl) ?_
  refine gf2_7 C hP hb (m2 hb hL) q305 dX2_go_50 ?_
  refine lv_if_ne C.1 C.2.1 (tgt := 60) dX2_go_53 (by decide) (fun hc => ?_) (fun hc => ?_)
  · have h := h.1 hc
    refine lv_iconst C.1 C.2.1 (v := 0) dX2_go_60 rfl ?_
    exact tX2_go_L61 hL C hr hlk hb _ _ _ h hl hP hS
  · have h := h.2 hc
    refine lv_iconst C.1 C.2.1 (v := 1) dX2_go_56 rfl ?_
    refine lv_goto C.1 C.2.1 (tgt := 61) dX2_go_57 (by decide) ?_
    exact tX2_go_L61 hL C hr hlk hb _ _ _ h hl hP hS
set_option maxHeartbeats 4000000 in
set_option maxRecDepth 100000 in
theorem tX2_go {l : Launch} {E : En0} {L : List Nat} (hE : EK E L) (hL : Cov 0 54 L) {b : Nat} {p1 : Int32} {p2 : Int32} {st : St} {Q : Int32 → St → Prop} (hb : kd b = 2) (h : wX2_go b p1 p2 st Q) : Mz l yX2_go cX2_go 5 (some .boolean) rmX2_go E L [.ref (E.2.1 b), .int p1, .int p2] st (zI E L (fun r u => bz r ∧ Q r u)) := by
  refine Mz.of hE (by decide) (Nat.le_of_ble_eq_true rfl) ?_
  intro p e s m below meth c ls C hr hlk _ hl hP
  replace C : Cx E L "PlankBridge$Bridge" cX2_go 5 p s m _ c := C
  have hS : va_S (fA E L s.heap.size) s.heap s.heap [] := va_S.rf
  replace hl : lv_has ls 5 [(0, .ref (E.2.1 b)), (1, .int p1), (2, .int p2)] := hl
  unfold wX2_go at h
  refine lv_aload_n C.1 C.2.1 dX2_go_0 rfl (lv_at hl 0 rfl) ?_
  refine lv_aload_n C.1 C.2.1 dX2_go_1 rfl (lv_at hl 0 rfl) ?_
  refine lv_iload_n C.1 C.2.1 dX2_go_2 rfl (lv_at hl 1 rfl) ?_
  refine lv_iload_n C.1 C.2.1 dX2_go_3 rfl (lv_at hl 2 rfl) ?_
  refine z_ki hS (z_runV (As := [.int p1, .int p2]) (rest := [.ref (E.2.1 b)]) C hP hS (m2 hb hL) (e2 hb) rfl (tX2_weightFor C.2.2.2.2.2.2.1 (hL.mo (Nat.le_of_ble_eq_true rfl) (Nat.le_of_ble_eq_true rfl)) hb h) q1066 q1068 q24 q112 q1069 hdX2_weightFor ⟨Nat.le_of_ble_eq_true rfl, Nat.le_of_ble_eq_true rfl⟩ ⟨Nat.zero_le _, Nat.zero_le _⟩ rfl hl.1 rfl (lv_room (Nat.le_of_ble_eq_true rfl)) dX2_go_4) (fun r2 st1 H locs h hP hS => ?_)
  refine z_ki hS (z_runV (As := [.int r2]) (rest := []) C hP hS (m2 hb hL) (e2 hb) rfl (tX2_treadAll C.2.2.2.2.2.2.1 (hL.mo (Nat.le_of_ble_eq_true rfl) (Nat.le_of_ble_eq_true rfl)) hb h) q1070 q1072 q25 q112 q1073 hdX2_treadAll ⟨Nat.le_of_ble_eq_true rfl, Nat.le_of_ble_eq_true rfl⟩ ⟨Nat.zero_le _, Nat.zero_le _⟩ rfl hl.1 rfl (lv_room (Nat.le_of_ble_eq_true rfl)) dX2_go_7) (fun r4 st3 H locs h hP hS => ?_)
  obtain ⟨hr4, h⟩ := h
  refine lv_istore_n C.1 C.2.1 dX2_go_10 rfl hl (Nat.le_of_ble_eq_true rfl) rfl (fun ls hl => ?_)
  have hl : lv_has ls 5 [(3, .int r4), (0, .ref (E.2.1 b)), (1, .int p1), (2, .int p2)] := hl
  refine lv_iload_n C.1 C.2.1 dX2_go_11 rfl (lv_at hl 0 rfl) ?_
  refine lv_if_eq C.1 C.2.1 (tgt := 77) dX2_go_12 (by decide) (fun hc => ?_) (fun hc => ?_)
  · have h := h.1 hc
    refine lv_aload_n C.1 C.2.1 dX2_go_77 rfl (lv_at hl 1 rfl) ?_
    refine lv_dup C.1 C.2.1 dX2_go_78 rfl ?_
    refine gf2_12 C hP hb (m2 hb hL) q316 dX2_go_79 ?_
    refine lv_iconst C.1 C.2.1 (v := 1) dX2_go_82 rfl ?_
    refine lv_iadd C.1 C.2.1 dX2_go_83  ?_
    refine pf2_12 C hP hS hb (m2 hb hL) q316 dX2_go_84 (fun H locs hP hS => ?_)
    obtain ⟨st5, est5⟩ : ∃ z, z = uI st3 b 12 ((gI st3 b 12) + 1) := ⟨_, rfl⟩
    rw [← est5] at hP; have h := h st5 est5
    exact tX2_go_L87 hL C hr hlk hb _ _ _ h (lv_sub hl [1, 2, 3, 0] rfl) hP hS
  · have h := h.2 hc
    refine lv_aload_n C.1 C.2.1 dX2_go_15 rfl (lv_at hl 1 rfl) ?_
    refine lv_dup C.1 C.2.1 dX2_go_16 rfl ?_
    refine gf2_3 C hP hb (m2 hb hL) q296 dX2_go_17 ?_
    refine lv_iconst C.1 C.2.1 (v := 1) dX2_go_20 rfl ?_
    refine lv_iload_n C.1 C.2.1 dX2_go_21 rfl (lv_at hl 2 rfl) ?_
    refine lv_ishl C.1 C.2.1 dX2_go_22  ?_
    refine lv_ixor C.1 C.2.1 dX2_go_23  ?_
    refine pf2_3 C hP hS hb (m2 hb hL) q296 dX2_go_24 (fun H locs hP hS => ?_)
    obtain ⟨st6, est6⟩ : ∃ z, z = uI st3 b 3 ((gI st3 b 3) ^^^ ((1 : Int32) <<< (p1 &&& 31))) := ⟨_, rfl⟩
    rw [← est6] at hP; have h := h st6 est6
    refine lv_aload_n C.1 C.2.1 dX2_go_27 rfl (lv_at hl 1 rfl) ?_
    refine lv_dup C.1 C.2.1 dX2_go_28 rfl ?_
    refine gf2_3 C hP hb (m2 hb hL) q296 dX2_go_29 ?_
    refine lv_iload_n C.1 C.2.1 dX2_go_32 rfl (lv_at hl 3 rfl) ?_
    refine lv_iconst C.1 C.2.1 (v := (-1)) dX2_go_33 rfl ?_
    refine lv_icmp_ne C.1 C.2.1 (tgt := 41) dX2_go_34 (by decide) (fun hc => ?_) (fun hc => ?_)
    · have h := h.1 hc
      refine lv_iconst C.1 C.2.1 (v := 1) dX2_go_41 rfl ?_
      refine lv_iload_n C.1 C.2.1 dX2_go_42 rfl (lv_at hl 3 rfl) ?_
      refine lv_ishl C.1 C.2.1 dX2_go_43  ?_
      exact tX2_go_L44 hL C hr hlk hb _ _ _ h (lv_sub hl [1, 2, 3, 0] rfl) hP hS
    · have h := h.2 hc
      refine lv_iconst C.1 C.2.1 (v := 0) dX2_go_37 rfl ?_
      refine lv_goto C.1 C.2.1 (tgt := 44) dX2_go_38 (by decide) ?_
      exact tX2_go_L44 hL C hr hlk hb _ _ _ h (lv_sub hl [1, 2, 3, 0] rfl) hP hS
def rmX2_mendFirst : Room := { frames := 1, cells := 0, slots := 0, locals := 22 }
def wX2_mendFirst_L15 (b : Nat) (p1 : Int32)  (R15 : Int32 × Int32 × St → Prop) (v1 : Int32) (v2 : Int32) (st : St) (Q : Int32 → St → Prop) : Prop :=
  (((gI st b 4) ≤ v2 → Q 0 st) ∧ (¬ (gI st b 4) ≤ v2 → (vp_in v2 12 ∧ ((¬ (gI st (b + 3) (v2 : Int32).toNatClampNeg) = 0 → (∀ x1 : Int32, x1 = v2 + 1 → R15 (v1, x1, st))) ∧ ((gI st (b + 3) (v2 : Int32).toNatClampNeg) = 0 → (wX2_lay b v2 v1 st (fun st2 => Q 1 st2)))))))
def wX2_mendFirst (b : Nat) (p1 : Int32) (st : St) (Q : Int32 → St → Prop) : Prop :=
  ((p1 < 1 → Q 0 st) ∧ (¬ p1 < 1 → ((p1 ≤ 30 → (∃ n, lp (fun R s => wX2_mendFirst_L15 b p1 R s.1 s.2.1 s.2.2 Q) n (p1, 0, st))) ∧ (¬ p1 ≤ 30 → Q 0 st))))
theorem hdX2_mendFirst : yX2_mendFirst.cls = "PlankBridge$Bridge" ∧ yX2_mendFirst.cls ≠ "java/lang/invoke/MethodHandle" ∧ yX2_mendFirst.cls ≠ "java/lang/invoke/VarHandle" ∧ (parseMethodDescriptor yX2_mendFirst.desc).map (fun d => d.parameters.length) = some 1 := by decide +kernel
set_option maxHeartbeats 4000000 in
set_option maxRecDepth 100000 in
theorem tX2_mendFirst_L15 {l : Launch} {p : Program} {e : Env} {s : State} {m : MethodId} {args : Array Value} {below : List Frame} {meth : Method} {c : Code} {E : En0} {L : List Nat} (hL : Cov 0 54 L) (C : Cx E L "PlankBridge$Bridge" cX2_mendFirst 3 p s m args c) (hr : meth.sig.returnType = (some .boolean)) (hlk : meth.locks = false) {b : Nat} {p1 : Int32} {Q : Int32 → St → Prop} (hb : kd b = 2) : ∀ (n : Nat) (v1 : Int32) (v2 : Int32) (st : St) (H : Heap) (locs : List Loc) (ls : Array Slot), lp (fun R s => wX2_mendFirst_L15 b p1 R s.1 s.2.1 s.2.2 Q) n (v1, v2, st) → lv_has ls 3 [(0, .ref (E.2.1 b)), (1, .int v1), (2, .int v2)] → va_P E.1 vwCl (wd E L st) H → va_S (fA E L s.heap.size) s.heap H locs → W p l e rmX2_mendFirst s m args below meth c H locs 0 0 (MQ below (zI E L (fun r u => bz r ∧ Q r u) (fA E L s.heap.size)) args s rmX2_mendFirst.cells rmX2_mendFirst.slots (fA E L s.heap.size)) (F0 m 15 ls []) := by
  intro n
  induction n with
  | zero => exact fun _ _ _ _ _ _ h _ _ _ => False.elim ‹_›
  | succ n ih =>
    intro v1 v2 st  H locs ls h hl hP hS
    have hR15 := ih
    replace h : wX2_mendFirst_L15 b p1 (lp (fun R s => wX2_mendFirst_L15 b p1 R s.1 s.2.1 s.2.2 Q) n) v1 v2 st Q := h
    unfold wX2_mendFirst_L15 at h
    refine lv_iload_n C.1 C.2.1 dX2_mendFirst_15 rfl (lv_at hl 2 rfl) ?_
    refine lv_aload_n C.1 C.2.1 dX2_mendFirst_16 rfl (lv_at hl 0 rfl) ?_
    refine gf2_4 C hP hb (m2 hb hL) q299 dX2_mendFirst_17 ?_
    refine lv_icmp_ge C.1 C.2.1 (tgt := 46) dX2_mendFirst_20 (by decide) (fun hc => ?_) (fun hc => ?_)
    · have h := h.1 hc
      refine lv_iconst C.1 C.2.1 (v := 0) dX2_mendFirst_46 rfl ?_
      exact z_ri C hr hlk (bz_n bz0) hP hS ⟨bz0, h⟩ dX2_mendFirst_47
    · have h := h.2 hc
      refine lv_aload_n C.1 C.2.1 dX2_mendFirst_23 rfl (lv_at hl 0 rfl) ?_
      refine gf2_5 C hP hb (m2 hb hL) q301 dX2_mendFirst_24 ?_
      refine lv_iload_n C.1 C.2.1 dX2_mendFirst_27 rfl (lv_at hl 2 rfl) ?_
      obtain ⟨hi, h⟩ := h
      refine z_iald C hP (k2_3 hb) (l2_3 hb) (m2_3 hb hL) hi dX2_mendFirst_28 ?_
      refine lv_if_ne C.1 C.2.1 (tgt := 40) dX2_mendFirst_29 (by decide) (fun hc => ?_) (fun hc => ?_)
      · have h := h.1 hc
        obtain ⟨x1, ex1⟩ : ∃ z, z = v2 + 1 := ⟨_, rfl⟩
        have h := h x1 ex1
        refine lv_iinc C.1 C.2.1 dX2_mendFirst_40 hl (k := 2) rfl ex1.symm (Nat.le_of_ble_eq_true rfl) rfl (fun ls hl => ?_)
        have hl : lv_has ls 3 [(2, .int x1), (0, .ref (E.2.1 b)), (1, .int v1)] := hl
        refine lv_goto C.1 C.2.1 (tgt := 15) dX2_mendFirst_43 (by decide) ?_
        exact hR15 v1 x1 st _ _ _ h (lv_sub hl [1, 2, 0] rfl) hP hS
      · have h := h.2 hc
        refine lv_aload_n C.1 C.2.1 dX2_mendFirst_32 rfl (lv_at hl 0 rfl) ?_
        refine lv_iload_n C.1 C.2.1 dX2_mendFirst_33 rfl (lv_at hl 2 rfl) ?_
        refine lv_iload_n C.1 C.2.1 dX2_mendFirst_34 rfl (lv_at hl 1 rfl) ?_
        refine z_kv hS (z_runV (As := [.int v2, .int v1]) (rest := []) C hP hS (m2 hb hL) (e2 hb) rfl (tX2_lay C.2.2.2.2.2.2.1 (hL.mo (Nat.le_of_ble_eq_true rfl) (Nat.le_of_ble_eq_true rfl)) hb h) q1075 q1076 q1077 q112 q1078 hdX2_lay ⟨Nat.le_of_ble_eq_true rfl, Nat.le_of_ble_eq_true rfl⟩ ⟨Nat.zero_le _, Nat.zero_le _⟩ rfl hl.1 rfl (lv_room (Nat.le_of_ble_eq_true rfl)) dX2_mendFirst_35) (fun st2 H locs h hP hS => ?_)
        refine lv_iconst C.1 C.2.1 (v := 1) dX2_mendFirst_38 rfl ?_
        exact z_ri C hr hlk (bz_n bz1) hP hS ⟨bz1, h⟩ dX2_mendFirst_39
set_option maxHeartbeats 4000000 in
set_option maxRecDepth 100000 in
theorem tX2_mendFirst {l : Launch} {E : En0} {L : List Nat} (hE : EK E L) (hL : Cov 0 54 L) {b : Nat} {p1 : Int32} {st : St} {Q : Int32 → St → Prop} (hb : kd b = 2) (h : wX2_mendFirst b p1 st Q) : Mz l yX2_mendFirst cX2_mendFirst 3 (some .boolean) rmX2_mendFirst E L [.ref (E.2.1 b), .int p1] st (zI E L (fun r u => bz r ∧ Q r u)) := by
  refine Mz.of hE (by decide) (Nat.le_of_ble_eq_true rfl) ?_
  intro p e s m below meth c ls C hr hlk _ hl hP
  replace C : Cx E L "PlankBridge$Bridge" cX2_mendFirst 3 p s m _ c := C
  have hS : va_S (fA E L s.heap.size) s.heap s.heap [] := va_S.rf
  replace hl : lv_has ls 3 [(0, .ref (E.2.1 b)), (1, .int p1)] := hl
  unfold wX2_mendFirst at h
  refine lv_iload_n C.1 C.2.1 dX2_mendFirst_0 rfl (lv_at hl 1 rfl) ?_
  refine lv_iconst C.1 C.2.1 (v := 1) dX2_mendFirst_1 rfl ?_
  refine lv_icmp_lt C.1 C.2.1 (tgt := 11) dX2_mendFirst_2 (by decide) (fun hc => ?_) (fun hc => ?_)
  · have h := h.1 hc
    refine lv_iconst C.1 C.2.1 (v := 0) dX2_mendFirst_11 rfl ?_
    exact z_ri C hr hlk (bz_n bz0) hP hS ⟨bz0, h⟩ dX2_mendFirst_12
  · have h := h.2 hc
    refine lv_iload_n C.1 C.2.1 dX2_mendFirst_5 rfl (lv_at hl 1 rfl) ?_
    refine lv_bipush C.1 C.2.1 (v := 30) dX2_mendFirst_6 rfl ?_
    refine lv_icmp_le C.1 C.2.1 (tgt := 13) dX2_mendFirst_8 (by decide) (fun hc => ?_) (fun hc => ?_)
    · have h := h.1 hc
      refine lv_iconst C.1 C.2.1 (v := 0) dX2_mendFirst_13 rfl ?_
      refine lv_istore_n C.1 C.2.1 dX2_mendFirst_14 rfl hl (Nat.le_of_ble_eq_true rfl) rfl (fun ls hl => ?_)
      have hl : lv_has ls 3 [(2, .int 0), (0, .ref (E.2.1 b)), (1, .int p1)] := hl
      obtain ⟨n, h⟩ := h
      exact tX2_mendFirst_L15 hL C hr hlk hb n p1 0 st _ _ _ h (lv_sub hl [1, 2, 0] rfl) hP hS
    · have h := h.2 hc
      refine lv_iconst C.1 C.2.1 (v := 0) dX2_mendFirst_11 rfl ?_
      exact z_ri C hr hlk (bz_n bz0) hP hS ⟨bz0, h⟩ dX2_mendFirst_12
def rmX2_writeNote : Room := { frames := 0, cells := 0, slots := 0, locals := 0 }
def wX2_writeNote_L19 (b : Nat) (p1 : Int32)   (st : St) (Q : St → Prop) : Prop :=
  (∀ st3, st3 = uI st b 13 ((gI st b 13) + 1) → Q st3)
def wX2_writeNote (b : Nat) (p1 : Int32) (st : St) (Q : St → Prop) : Prop :=
  (∀ x1 : Int32, x1 = ((gI st b 13) - (gI st b 13) / 10 * 10) → ((x1 < 0 → wX2_writeNote_L19 b p1 st Q) ∧ (¬ x1 < 0 → (vp_in x1 10 ∧ ∀ st2, st2 = uI st (b + 5) (x1 : Int32).toNatClampNeg p1 → wX2_writeNote_L19 b p1 st2 Q))))
theorem hdX2_writeNote : yX2_writeNote.cls = "PlankBridge$Bridge" ∧ yX2_writeNote.cls ≠ "java/lang/invoke/MethodHandle" ∧ yX2_writeNote.cls ≠ "java/lang/invoke/VarHandle" ∧ (parseMethodDescriptor yX2_writeNote.desc).map (fun d => d.parameters.length) = some 1 := by decide +kernel
set_option maxHeartbeats 4000000 in
set_option maxRecDepth 100000 in
theorem tX2_writeNote_L19 {l : Launch} {p : Program} {e : Env} {s : State} {m : MethodId} {args : Array Value} {below : List Frame} {meth : Method} {c : Code} {E : En0} {L : List Nat} (hL : Cov 0 54 L) (C : Cx E L "PlankBridge$Bridge" cX2_writeNote 3 p s m args c) (hr : meth.sig.returnType = none) (hlk : meth.locks = false) {b : Nat} {p1 : Int32} {Q : St → Prop} (hb : kd b = 2)   {st : St} (H : Heap) (locs : List Loc) (ls : Array Slot) (h : wX2_writeNote_L19 b p1 st Q) (hl : lv_has ls 3 [(0, .ref (E.2.1 b))]) (hP : va_P E.1 vwCl (wd E L st) H) (hS : va_S (fA E L s.heap.size) s.heap H locs) : W p l e rmX2_writeNote s m args below meth c H locs 0 0 (MQ below (zV E L Q (fA E L s.heap.size)) args s rmX2_writeNote.cells rmX2_writeNote.slots (fA E L s.heap.size)) (F0 m 19 ls []) := by
  unfold wX2_writeNote_L19 at h
  refine lv_aload_n C.1 C.2.1 dX2_writeNote_19 rfl (lv_at hl 0 rfl) ?_
  refine lv_dup C.1 C.2.1 dX2_writeNote_20 rfl ?_
  refine gf2_13 C hP hb (m2 hb hL) q318 dX2_writeNote_21 ?_
  refine lv_iconst C.1 C.2.1 (v := 1) dX2_writeNote_24 rfl ?_
  refine lv_iadd C.1 C.2.1 dX2_writeNote_25  ?_
  refine pf2_13 C hP hS hb (m2 hb hL) q318 dX2_writeNote_26 (fun H locs hP hS => ?_)
  obtain ⟨st3, est3⟩ : ∃ z, z = uI st b 13 ((gI st b 13) + 1) := ⟨_, rfl⟩
  rw [← est3] at hP; have h := h st3 est3
  exact z_rv C hr hlk hP hS h dX2_writeNote_29
set_option maxHeartbeats 4000000 in
set_option maxRecDepth 100000 in
theorem tX2_writeNote {l : Launch} {E : En0} {L : List Nat} (hE : EK E L) (hL : Cov 0 54 L) {b : Nat} {p1 : Int32} {st : St} {Q : St → Prop} (hb : kd b = 2) (h : wX2_writeNote b p1 st Q) : Mz l yX2_writeNote cX2_writeNote 3 none rmX2_writeNote E L [.ref (E.2.1 b), .int p1] st (zV E L Q) := by
  refine Mz.of hE (by decide) (Nat.le_of_ble_eq_true rfl) ?_
  intro p e s m below meth c ls C hr hlk _ hl hP
  replace C : Cx E L "PlankBridge$Bridge" cX2_writeNote 3 p s m _ c := C
  have hS : va_S (fA E L s.heap.size) s.heap s.heap [] := va_S.rf
  replace hl : lv_has ls 3 [(0, .ref (E.2.1 b)), (1, .int p1)] := hl
  unfold wX2_writeNote at h
  refine lv_aload_n C.1 C.2.1 dX2_writeNote_0 rfl (lv_at hl 0 rfl) ?_
  refine gf2_13 C hP hb (m2 hb hL) q318 dX2_writeNote_1 ?_
  refine lv_bipush C.1 C.2.1 (v := 10) dX2_writeNote_4 rfl ?_
  refine lv_irem C.1 C.2.1 dX2_writeNote_6  (by decide) ?_
  refine lv_topi (fun x1 ex1 => ?_)
  have h := h x1 ex1
  refine lv_istore_n C.1 C.2.1 dX2_writeNote_7 rfl hl (Nat.le_of_ble_eq_true rfl) rfl (fun ls hl => ?_)
  have hl : lv_has ls 3 [(2, .int x1), (0, .ref (E.2.1 b)), (1, .int p1)] := hl
  refine lv_iload_n C.1 C.2.1 dX2_writeNote_8 rfl (lv_at hl 0 rfl) ?_
  refine lv_if_lt C.1 C.2.1 (tgt := 19) dX2_writeNote_9 (by decide) (fun hc => ?_) (fun hc => ?_)
  · have h := h.1 hc
    exact tX2_writeNote_L19 hL C hr hlk hb _ _ _ h (lv_sub hl [1] rfl) hP hS
  · have h := h.2 hc
    refine lv_aload_n C.1 C.2.1 dX2_writeNote_12 rfl (lv_at hl 1 rfl) ?_
    refine gf2_14 C hP hb (m2 hb hL) q320 dX2_writeNote_13 ?_
    refine lv_iload_n C.1 C.2.1 dX2_writeNote_16 rfl (lv_at hl 0 rfl) ?_
    refine lv_iload_n C.1 C.2.1 dX2_writeNote_17 rfl (lv_at hl 2 rfl) ?_
    obtain ⟨hi, h⟩ := h
    refine z_iast C hP hS (k2_5 hb) (l2_5 hb) (m2_5 hb hL) hi dX2_writeNote_18 (fun H locs hP hS => ?_)
    obtain ⟨st2, est2⟩ : ∃ z, z = uI st (b + 5) (x1 : Int32).toNatClampNeg p1 := ⟨_, rfl⟩
    rw [← est2] at hP; have h := h st2 est2
    exact tX2_writeNote_L19 hL C hr hlk hb _ _ _ h (lv_sub hl [1] rfl) hP hS
def rmX2_readNote : Room := { frames := 0, cells := 0, slots := 0, locals := 0 }
def wX2_readNote (b : Nat) (p1 : Int32) (st : St) (Q : Int32 → St → Prop) : Prop :=
  (∀ x1 : Int32, x1 = ((((gI st b 13) - 1) - p1) - (((gI st b 13) - 1) - p1) / 10 * 10) → ((x1 < 0 → Q 0 st) ∧ (¬ x1 < 0 → (vp_in x1 10 ∧ Q (gI st (b + 5) (x1 : Int32).toNatClampNeg) st))))
theorem hdX2_readNote : yX2_readNote.cls = "PlankBridge$Bridge" ∧ yX2_readNote.cls ≠ "java/lang/invoke/MethodHandle" ∧ yX2_readNote.cls ≠ "java/lang/invoke/VarHandle" ∧ (parseMethodDescriptor yX2_readNote.desc).map (fun d => d.parameters.length) = some 1 := by decide +kernel
set_option maxHeartbeats 4000000 in
set_option maxRecDepth 100000 in
theorem tX2_readNote {l : Launch} {E : En0} {L : List Nat} (hE : EK E L) (hL : Cov 0 54 L) {b : Nat} {p1 : Int32} {st : St} {Q : Int32 → St → Prop} (hb : kd b = 2) (h : wX2_readNote b p1 st Q) : Mz l yX2_readNote cX2_readNote 3 (some .int) rmX2_readNote E L [.ref (E.2.1 b), .int p1] st (zI E L Q) := by
  refine Mz.of hE (by decide) (Nat.le_of_ble_eq_true rfl) ?_
  intro p e s m below meth c ls C hr hlk _ hl hP
  replace C : Cx E L "PlankBridge$Bridge" cX2_readNote 3 p s m _ c := C
  have hS : va_S (fA E L s.heap.size) s.heap s.heap [] := va_S.rf
  replace hl : lv_has ls 3 [(0, .ref (E.2.1 b)), (1, .int p1)] := hl
  unfold wX2_readNote at h
  refine lv_aload_n C.1 C.2.1 dX2_readNote_0 rfl (lv_at hl 0 rfl) ?_
  refine gf2_13 C hP hb (m2 hb hL) q318 dX2_readNote_1 ?_
  refine lv_iconst C.1 C.2.1 (v := 1) dX2_readNote_4 rfl ?_
  refine lv_isub C.1 C.2.1 dX2_readNote_5  ?_
  refine lv_iload_n C.1 C.2.1 dX2_readNote_6 rfl (lv_at hl 1 rfl) ?_
  refine lv_isub C.1 C.2.1 dX2_readNote_7  ?_
  refine lv_bipush C.1 C.2.1 (v := 10) dX2_readNote_8 rfl ?_
  refine lv_irem C.1 C.2.1 dX2_readNote_10  (by decide) ?_
  refine lv_topi (fun x1 ex1 => ?_)
  have h := h x1 ex1
  refine lv_istore_n C.1 C.2.1 dX2_readNote_11 rfl hl (Nat.le_of_ble_eq_true rfl) rfl (fun ls hl => ?_)
  have hl : lv_has ls 3 [(2, .int x1), (0, .ref (E.2.1 b)), (1, .int p1)] := hl
  refine lv_iload_n C.1 C.2.1 dX2_readNote_12 rfl (lv_at hl 0 rfl) ?_
  refine lv_if_lt C.1 C.2.1 (tgt := 25) dX2_readNote_13 (by decide) (fun hc => ?_) (fun hc => ?_)
  · have h := h.1 hc
    refine lv_iconst C.1 C.2.1 (v := 0) dX2_readNote_25 rfl ?_
    exact z_ri C hr hlk rfl hP hS h dX2_readNote_26
  · have h := h.2 hc
    refine lv_aload_n C.1 C.2.1 dX2_readNote_16 rfl (lv_at hl 1 rfl) ?_
    refine gf2_14 C hP hb (m2 hb hL) q320 dX2_readNote_17 ?_
    refine lv_iload_n C.1 C.2.1 dX2_readNote_20 rfl (lv_at hl 0 rfl) ?_
    obtain ⟨hi, h⟩ := h
    refine z_iald C hP (k2_5 hb) (l2_5 hb) (m2_5 hb hL) hi dX2_readNote_21 ?_
    refine lv_goto C.1 C.2.1 (tgt := 26) dX2_readNote_22 (by decide) ?_
    exact z_ri C hr hlk rfl hP hS h dX2_readNote_26

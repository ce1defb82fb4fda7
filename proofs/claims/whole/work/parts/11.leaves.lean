def rmX3_withSign : Room := { frames := 0, cells := 0, slots := 0, locals := 0 }
def wX3_withSign (p1 : Int64) (p2 : Int32) (st : St) (Q : Int64 → St → Prop) : Prop :=
  Q ((p1 * 128) + ((p2 : Int32).toInt64)) st
theorem hdX3_withSign : yX3_withSign.cls ≠ "java/lang/invoke/MethodHandle" ∧ yX3_withSign.cls ≠ "java/lang/invoke/VarHandle" ∧ (parseMethodDescriptor yX3_withSign.desc).map (fun d => d.parameters.length) = some 2 := by decide +kernel
set_option maxHeartbeats 4000000 in
set_option maxRecDepth 100000 in
theorem tX3_withSign {l : Launch} {E : En0} {L : List Nat} (hE : EK E L) (hL : Cov 0 54 L) {p1 : Int64} {p2 : Int32} {st : St} {Q : Int64 → St → Prop}  (h : wX3_withSign p1 p2 st Q) : Mz l yX3_withSign cX3_withSign 3 (some .long) rmX3_withSign E L [.long p1, .int p2] st (zJ E L Q) := by
  refine Mz.of hE (by decide) (Nat.le_of_ble_eq_true rfl) ?_
  intro p e s m below meth c ls C hr hlk _ hl hP
  replace C : Cx E L "PlankBridge$Kind" cX3_withSign 3 p s m _ c := C
  have hS : va_S (fA E L s.heap.size) s.heap s.heap [] := va_S.rf
  replace hl : lv_has ls 3 [(0, .long p1), (2, .int p2)] := hl
  unfold wX3_withSign at h
  refine lv_lload_n C.1 C.2.1 dX3_withSign_0 rfl (lv_at hl 0 rfl) ?_
  refine lv_ldc2 C.1 C.2.1 C.2.2.2.1 (C.T q481) dX3_withSign_1 ?_
  refine lv_lmul C.1 C.2.1 dX3_withSign_4 ?_
  refine lv_iload_n C.1 C.2.1 dX3_withSign_5 rfl (lv_at hl 1 rfl) ?_
  refine t_i2l C.1 C.2.1 dX3_withSign_6 rfl ?_
  refine lv_ladd C.1 C.2.1 dX3_withSign_7 ?_
  exact z_rj C hr hlk hP hS h dX3_withSign_8
def rmX3_spelled : Room := { frames := 0, cells := 0, slots := 0, locals := 0 }
def wX3_spelled_L2 (p1 : Int64) (p2 : Option Nat)  (R2 : Int64 × (Option Nat) × Int32 × St → Prop) (v0 : Int64) (v2 : Option Nat) (v3 : Int32) (st : St) (Q : Option Nat → St → Prop) : Prop :=
  ((37 ≤ v3 → (kin v2 ∧ Q v2 st)) ∧ (¬ 37 ≤ v3 → (vp_in v3 37 ∧ ((¬ (lg_cmp (kCode (v3 : Int32).toNatClampNeg) v0) = 0 → (∀ x4 : Int32, x4 = v3 + 1 → R2 (v0, v2, x4, st))) ∧ ((lg_cmp (kCode (v3 : Int32).toNatClampNeg) v0) = 0 → (vp_in v3 37 ∧ Q ((some (v3 : Int32).toNatClampNeg)) st))))))
def wX3_spelled (p1 : Int64) (p2 : Option Nat) (st : St) (Q : Option Nat → St → Prop) : Prop :=
  (∃ n, lp (fun R s => wX3_spelled_L2 p1 p2 R s.1 s.2.1 s.2.2.1 s.2.2.2 Q) n (p1, p2, 0, st))
theorem hdX3_spelled : yX3_spelled.cls ≠ "java/lang/invoke/MethodHandle" ∧ yX3_spelled.cls ≠ "java/lang/invoke/VarHandle" ∧ (parseMethodDescriptor yX3_spelled.desc).map (fun d => d.parameters.length) = some 2 := by decide +kernel
set_option maxHeartbeats 4000000 in
set_option maxRecDepth 100000 in
theorem tX3_spelled_L2 {l : Launch} {p : Program} {e : Env} {s : State} {m : MethodId} {args : Array Value} {below : List Frame} {meth : Method} {c : Code} {E : En0} {L : List Nat} (hL : Cov 0 54 L) (C : Cx E L "PlankBridge$Kind" cX3_spelled 4 p s m args c) (hr : meth.sig.returnType = (some (.object "PlankBridge$Kind"))) (hlk : meth.locks = false) {p1 : Int64} {p2 : Option Nat} {Q : Option Nat → St → Prop}  : ∀ (n : Nat) (v0 : Int64) (v2 : Option Nat) (v3 : Int32) (st : St) (H : Heap) (locs : List Loc) (ls : Array Slot), lp (fun R s => wX3_spelled_L2 p1 p2 R s.1 s.2.1 s.2.2.1 s.2.2.2 Q) n (v0, v2, v3, st) → lv_has ls 4 [(0, .long v0), (2, va_re E.2.2.1 v2), (3, .int v3)] → va_P E.1 vwCl (wd E L st) H → va_S (fA E L s.heap.size) s.heap H locs → W p l e rmX3_spelled s m args below meth c H locs 0 0 (MQ below (zK E L (fun r u => kin r ∧ Q r u) (fA E L s.heap.size)) args s rmX3_spelled.cells rmX3_spelled.slots (fA E L s.heap.size)) (F0 m 2 ls []) := by
  intro n
  induction n with
  | zero => exact fun _ _ _ _ _ _ _ h _ _ _ => False.elim ‹_›
  | succ n ih =>
    intro v0 v2 v3 st  H locs ls h hl hP hS
    have hR2 := ih
    replace h : wX3_spelled_L2 p1 p2 (lp (fun R s => wX3_spelled_L2 p1 p2 R s.1 s.2.1 s.2.2.1 s.2.2.2 Q) n) v0 v2 v3 st Q := h
    unfold wX3_spelled_L2 at h
    refine lv_iload_n C.1 C.2.1 dX3_spelled_2 rfl (lv_at hl 2 rfl) ?_
    refine z_all C hS q485 dX3_spelled_3 (fun t1 ht1 => ?_)
    refine va_tlen C.1 C.2.1 ht1 hS (v := 37) rfl dX3_spelled_6 ?_
    refine lv_icmp_ge C.1 C.2.1 (tgt := 35) dX3_spelled_7 (by decide) (fun hc => ?_) (fun hc => ?_)
    · have h := h.1 hc
      refine z_aloadE_n C.1 C.2.1 dX3_spelled_35 rfl (lv_at hl 1 rfl) ?_
      exact z_re C hr hlk hP hS h dX3_spelled_36
    · have h := h.2 hc
      refine z_all C hS q485 dX3_spelled_10 (fun t2 ht2 => ?_)
      refine lv_iload_n C.1 C.2.1 dX3_spelled_13 rfl (lv_at hl 2 rfl) ?_
      obtain ⟨hi3, h⟩ := h
      refine z_allat C hS ht2 hi3 dX3_spelled_14 ?_
      refine z_kcodeE C hS (i := (v3 : Int32).toNatClampNeg) rfl ((kin_l (Nat.not_le.mp fun q => hi3 (Or.inr q))) _ rfl) q1972 dX3_spelled_15 ?_
      refine lv_lload_n C.1 C.2.1 dX3_spelled_18 rfl (lv_at hl 0 rfl) ?_
      refine W.lcmp C.1 C.2.1 dX3_spelled_19 ?_
      refine lv_if_ne C.1 C.2.1 (tgt := 29) dX3_spelled_20 (by decide) (fun hc => ?_) (fun hc => ?_)
      · have h := h.1 hc
        obtain ⟨x4, ex4⟩ : ∃ z, z = v3 + 1 := ⟨_, rfl⟩
        have h := h x4 ex4
        refine lv_iinc C.1 C.2.1 dX3_spelled_29 hl (k := 2) rfl ex4.symm (Nat.le_of_ble_eq_true rfl) rfl (fun ls hl => ?_)
        have hl : lv_has ls 4 [(3, .int x4), (0, .long v0), (2, va_re E.2.2.1 v2)] := (by cases v2 <;> exact hl)
        refine lv_goto C.1 C.2.1 (tgt := 2) dX3_spelled_32 (by decide) ?_
        exact hR2 v0 v2 x4 st _ _ _ h (lv_sub hl [1, 2, 0] rfl) hP hS
      · have h := h.2 hc
        refine z_all C hS q485 dX3_spelled_23 (fun t5 ht5 => ?_)
        refine lv_iload_n C.1 C.2.1 dX3_spelled_26 rfl (lv_at hl 2 rfl) ?_
        obtain ⟨hi6, h⟩ := h
        refine z_allat C hS ht5 hi6 dX3_spelled_27 ?_
        exact z_re C hr hlk hP hS ⟨(kin_l (Nat.not_le.mp fun q => hi6 (Or.inr q))), h⟩ dX3_spelled_28
set_option maxHeartbeats 4000000 in
set_option maxRecDepth 100000 in
theorem tX3_spelled {l : Launch} {E : En0} {L : List Nat} (hE : EK E L) (hL : Cov 0 54 L) {p1 : Int64} {p2 : Option Nat} {st : St} {Q : Option Nat → St → Prop}  (h : wX3_spelled p1 p2 st Q) : Mz l yX3_spelled cX3_spelled 4 (some (.object "PlankBridge$Kind")) rmX3_spelled E L [.long p1, va_re E.2.2.1 p2] st (zK E L (fun r u => kin r ∧ Q r u)) := by
  refine Mz.of hE (by decide) (by cases p2 <;> exact Nat.le_of_ble_eq_true rfl) ?_
  intro p e s m below meth c ls C hr hlk _ hl hP
  replace C : Cx E L "PlankBridge$Kind" cX3_spelled 4 p s m _ c := C
  have hS : va_S (fA E L s.heap.size) s.heap s.heap [] := va_S.rf
  replace hl : lv_has ls 4 [(0, .long p1), (2, va_re E.2.2.1 p2)] := (by cases p2 <;> exact hl)
  unfold wX3_spelled at h
  refine lv_iconst C.1 C.2.1 (v := 0) dX3_spelled_0 rfl ?_
  refine lv_istore_n C.1 C.2.1 dX3_spelled_1 rfl hl (Nat.le_of_ble_eq_true rfl) rfl (fun ls hl => ?_)
  have hl : lv_has ls 4 [(3, .int 0), (0, .long p1), (2, va_re E.2.2.1 p2)] := (by cases p2 <;> exact hl)
  obtain ⟨n, h⟩ := h
  exact tX3_spelled_L2 hL C hr hlk  n p1 p2 0 st _ _ _ h (lv_sub hl [1, 2, 0] rfl) hP hS
def rmX3_isChoice : Room := { frames := 0, cells := 0, slots := 0, locals := 0 }
def wX3_isChoice_L28 (b : Nat)   (st : St) (Q : Int32 → St → Prop) : Prop :=
  Q 1 st
def wX3_isChoice (b : Nat) (st : St) (Q : Int32 → St → Prop) : Prop :=
  ((((some b)) = ((some 26)) → wX3_isChoice_L28 b st Q) ∧ (¬ ((some b)) = ((some 26)) → ((((some b)) = ((some 27)) → wX3_isChoice_L28 b st Q) ∧ (¬ ((some b)) = ((some 27)) → ((((some b)) = ((some 28)) → wX3_isChoice_L28 b st Q) ∧ (¬ ((some b)) = ((some 28)) → ((¬ ((some b)) = ((some 29)) → Q 0 st) ∧ (((some b)) = ((some 29)) → wX3_isChoice_L28 b st Q))))))))
theorem hdX3_isChoice : yX3_isChoice.cls = "PlankBridge$Kind" ∧ yX3_isChoice.cls ≠ "java/lang/invoke/MethodHandle" ∧ yX3_isChoice.cls ≠ "java/lang/invoke/VarHandle" ∧ (parseMethodDescriptor yX3_isChoice.desc).map (fun d => d.parameters.length) = some 0 := by decide +kernel
set_option maxHeartbeats 4000000 in
set_option maxRecDepth 100000 in
theorem tX3_isChoice_L28 {l : Launch} {p : Program} {e : Env} {s : State} {m : MethodId} {args : Array Value} {below : List Frame} {meth : Method} {c : Code} {E : En0} {L : List Nat} (hL : Cov 0 54 L) (C : Cx E L "PlankBridge$Kind" cX3_isChoice 1 p s m args c) (hr : meth.sig.returnType = (some .boolean)) (hlk : meth.locks = false) {b : Nat} {Q : Int32 → St → Prop} (hb : b < 37)   {st : St} (H : Heap) (locs : List Loc) (ls : Array Slot) (h : wX3_isChoice_L28 b st Q) (hl : lv_has ls 1 []) (hP : va_P E.1 vwCl (wd E L st) H) (hS : va_S (fA E L s.heap.size) s.heap H locs) : W p l e rmX3_isChoice s m args below meth c H locs 0 0 (MQ below (zI E L (fun r u => bz r ∧ Q r u) (fA E L s.heap.size)) args s rmX3_isChoice.cells rmX3_isChoice.slots (fA E L s.heap.size)) (F0 m 28 ls []) := by
  unfold wX3_isChoice_L28 at h
  refine lv_iconst C.1 C.2.1 (v := 1) dX3_isChoice_28 rfl ?_
  refine lv_goto C.1 C.2.1 (tgt := 33) dX3_isChoice_29 (by decide) ?_
  exact z_ri C hr hlk (bz_n bz1) hP hS ⟨bz1, h⟩ dX3_isChoice_33
set_option maxHeartbeats 4000000 in
set_option maxRecDepth 100000 in
theorem tX3_isChoice {l : Launch} {E : En0} {L : List Nat} (hE : EK E L) (hL : Cov 0 54 L) {b : Nat} {st : St} {Q : Int32 → St → Prop} (hb : b < 37) (h : wX3_isChoice b st Q) : Mz l yX3_isChoice cX3_isChoice 1 (some .boolean) rmX3_isChoice E L [.ref (E.2.2.1 b)] st (zI E L (fun r u => bz r ∧ Q r u)) := by
  refine Mz.of hE (by decide) (Nat.le_of_ble_eq_true rfl) ?_
  intro p e s m below meth c ls C hr hlk _ hl hP
  replace C : Cx E L "PlankBridge$Kind" cX3_isChoice 1 p s m _ c := C
  have hS : va_S (fA E L s.heap.size) s.heap s.heap [] := va_S.rf
  replace hl : lv_has ls 1 [(0, va_re E.2.2.1 (some b))] := hl
  unfold wX3_isChoice at h
  refine z_aloadE_n C.1 C.2.1 dX3_isChoice_0 rfl (lv_at hl 0 rfl) ?_
  refine z_kst C hS (i := 26) (by decide) rfl q605 dX3_isChoice_1 ?_
  refine z_acmp_eq C (kin_l hb) (kin_l (by decide)) (tgt := 28) dX3_isChoice_4 (by decide) (fun hc => ?_) (fun hc => ?_)
  · have h := h.1 hc
    exact tX3_isChoice_L28 hL C hr hlk hb _ _ _ h (lv_sub hl [] rfl) hP hS
  · have h := h.2 hc
    refine z_aloadE_n C.1 C.2.1 dX3_isChoice_7 rfl (lv_at hl 0 rfl) ?_
    refine z_kst C hS (i := 27) (by decide) rfl q607 dX3_isChoice_8 ?_
    refine z_acmp_eq C (kin_l hb) (kin_l (by decide)) (tgt := 28) dX3_isChoice_11 (by decide) (fun hc => ?_) (fun hc => ?_)
    · have h := h.1 hc
      exact tX3_isChoice_L28 hL C hr hlk hb _ _ _ h (lv_sub hl [] rfl) hP hS
    · have h := h.2 hc
      refine z_aloadE_n C.1 C.2.1 dX3_isChoice_14 rfl (lv_at hl 0 rfl) ?_
      refine z_kst C hS (i := 28) (by decide) rfl q609 dX3_isChoice_15 ?_
      refine z_acmp_eq C (kin_l hb) (kin_l (by decide)) (tgt := 28) dX3_isChoice_18 (by decide) (fun hc => ?_) (fun hc => ?_)
      · have h := h.1 hc
        exact tX3_isChoice_L28 hL C hr hlk hb _ _ _ h (lv_sub hl [] rfl) hP hS
      · have h := h.2 hc
        refine z_aloadE_n C.1 C.2.1 dX3_isChoice_21 rfl (lv_at hl 0 rfl) ?_
        refine z_kst C hS (i := 29) (by decide) rfl q611 dX3_isChoice_22 ?_
        refine z_acmp_ne C (kin_l hb) (kin_l (by decide)) (tgt := 32) dX3_isChoice_25 (by decide) (fun hc => ?_) (fun hc => ?_)
        · have h := h.1 hc
          refine lv_iconst C.1 C.2.1 (v := 0) dX3_isChoice_32 rfl ?_
          exact z_ri C hr hlk (bz_n bz0) hP hS ⟨bz0, h⟩ dX3_isChoice_33
        · have h := h.2 hc
          exact tX3_isChoice_L28 hL C hr hlk hb _ _ _ h (lv_sub hl [] rfl) hP hS
def rmX3_isMeasure : Room := { frames := 0, cells := 0, slots := 0, locals := 0 }
def wX3_isMeasure_L49 (b : Nat)   (st : St) (Q : Int32 → St → Prop) : Prop :=
  Q 1 st
def wX3_isMeasure (b : Nat) (st : St) (Q : Int32 → St → Prop) : Prop :=
  ((((some b)) = ((some 30)) → wX3_isMeasure_L49 b st Q) ∧ (¬ ((some b)) = ((some 30)) → ((((some b)) = ((some 31)) → wX3_isMeasure_L49 b st Q) ∧ (¬ ((some b)) = ((some 31)) → ((((some b)) = ((some 32)) → wX3_isMeasure_L49 b st Q) ∧ (¬ ((some b)) = ((some 32)) → ((((some b)) = ((some 33)) → wX3_isMeasure_L49 b st Q) ∧ (¬ ((some b)) = ((some 33)) → ((((some b)) = ((some 34)) → wX3_isMeasure_L49 b st Q) ∧ (¬ ((some b)) = ((some 34)) → ((((some b)) = ((some 35)) → wX3_isMeasure_L49 b st Q) ∧ (¬ ((some b)) = ((some 35)) → ((¬ ((some b)) = ((some 36)) → Q 0 st) ∧ (((some b)) = ((some 36)) → wX3_isMeasure_L49 b st Q))))))))))))))
theorem hdX3_isMeasure : yX3_isMeasure.cls = "PlankBridge$Kind" ∧ yX3_isMeasure.cls ≠ "java/lang/invoke/MethodHandle" ∧ yX3_isMeasure.cls ≠ "java/lang/invoke/VarHandle" ∧ (parseMethodDescriptor yX3_isMeasure.desc).map (fun d => d.parameters.length) = some 0 := by decide +kernel
set_option maxHeartbeats 4000000 in
set_option maxRecDepth 100000 in
theorem tX3_isMeasure_L49 {l : Launch} {p : Program} {e : Env} {s : State} {m : MethodId} {args : Array Value} {below : List Frame} {meth : Method} {c : Code} {E : En0} {L : List Nat} (hL : Cov 0 54 L) (C : Cx E L "PlankBridge$Kind" cX3_isMeasure 1 p s m args c) (hr : meth.sig.returnType = (some .boolean)) (hlk : meth.locks = false) {b : Nat} {Q : Int32 → St → Prop} (hb : b < 37)   {st : St} (H : Heap) (locs : List Loc) (ls : Array Slot) (h : wX3_isMeasure_L49 b st Q) (hl : lv_has ls 1 []) (hP : va_P E.1 vwCl (wd E L st) H) (hS : va_S (fA E L s.heap.size) s.heap H locs) : W p l e rmX3_isMeasure s m args below meth c H locs 0 0 (MQ below (zI E L (fun r u => bz r ∧ Q r u) (fA E L s.heap.size)) args s rmX3_isMeasure.cells rmX3_isMeasure.slots (fA E L s.heap.size)) (F0 m 49 ls []) := by
  unfold wX3_isMeasure_L49 at h
  refine lv_iconst C.1 C.2.1 (v := 1) dX3_isMeasure_49 rfl ?_
  refine lv_goto C.1 C.2.1 (tgt := 54) dX3_isMeasure_50 (by decide) ?_
  exact z_ri C hr hlk (bz_n bz1) hP hS ⟨bz1, h⟩ dX3_isMeasure_54
set_option maxHeartbeats 4000000 in
set_option maxRecDepth 100000 in
theorem tX3_isMeasure {l : Launch} {E : En0} {L : List Nat} (hE : EK E L) (hL : Cov 0 54 L) {b : Nat} {st : St} {Q : Int32 → St → Prop} (hb : b < 37) (h : wX3_isMeasure b st Q) : Mz l yX3_isMeasure cX3_isMeasure 1 (some .boolean) rmX3_isMeasure E L [.ref (E.2.2.1 b)] st (zI E L (fun r u => bz r ∧ Q r u)) := by
  refine Mz.of hE (by decide) (Nat.le_of_ble_eq_true rfl) ?_
  intro p e s m below meth c ls C hr hlk _ hl hP
  replace C : Cx E L "PlankBridge$Kind" cX3_isMeasure 1 p s m _ c := C
  have hS : va_S (fA E L s.heap.size) s.heap s.heap [] := va_S.rf
  replace hl : lv_has ls 1 [(0, va_re E.2.2.1 (some b))] := hl
  unfold wX3_isMeasure at h
  refine z_aloadE_n C.1 C.2.1 dX3_isMeasure_0 rfl (lv_at hl 0 rfl) ?_
  refine z_kst C hS (i := 30) (by decide) rfl q627 dX3_isMeasure_1 ?_
  refine z_acmp_eq C (kin_l hb) (kin_l (by decide)) (tgt := 49) dX3_isMeasure_4 (by decide) (fun hc => ?_) (fun hc => ?_)
  · have h := h.1 hc
    exact tX3_isMeasure_L49 hL C hr hlk hb _ _ _ h (lv_sub hl [] rfl) hP hS
  · have h := h.2 hc
    refine z_aloadE_n C.1 C.2.1 dX3_isMeasure_7 rfl (lv_at hl 0 rfl) ?_
    refine z_kst C hS (i := 31) (by decide) rfl q629 dX3_isMeasure_8 ?_
    refine z_acmp_eq C (kin_l hb) (kin_l (by decide)) (tgt := 49) dX3_isMeasure_11 (by decide) (fun hc => ?_) (fun hc => ?_)
    · have h := h.1 hc
      exact tX3_isMeasure_L49 hL C hr hlk hb _ _ _ h (lv_sub hl [] rfl) hP hS
    · have h := h.2 hc
      refine z_aloadE_n C.1 C.2.1 dX3_isMeasure_14 rfl (lv_at hl 0 rfl) ?_
      refine z_kst C hS (i := 32) (by decide) rfl q631 dX3_isMeasure_15 ?_
      refine z_acmp_eq C (kin_l hb) (kin_l (by decide)) (tgt := 49) dX3_isMeasure_18 (by decide) (fun hc => ?_) (fun hc => ?_)
      · have h := h.1 hc
        exact tX3_isMeasure_L49 hL C hr hlk hb _ _ _ h (lv_sub hl [] rfl) hP hS
      · have h := h.2 hc
        refine z_aloadE_n C.1 C.2.1 dX3_isMeasure_21 rfl (lv_at hl 0 rfl) ?_
        refine z_kst C hS (i := 33) (by decide) rfl q633 dX3_isMeasure_22 ?_
        refine z_acmp_eq C (kin_l hb) (kin_l (by decide)) (tgt := 49) dX3_isMeasure_25 (by decide) (fun hc => ?_) (fun hc => ?_)
        · have h := h.1 hc
          exact tX3_isMeasure_L49 hL C hr hlk hb _ _ _ h (lv_sub hl [] rfl) hP hS
        · have h := h.2 hc
          refine z_aloadE_n C.1 C.2.1 dX3_isMeasure_28 rfl (lv_at hl 0 rfl) ?_
          refine z_kst C hS (i := 34) (by decide) rfl q635 dX3_isMeasure_29 ?_
          refine z_acmp_eq C (kin_l hb) (kin_l (by decide)) (tgt := 49) dX3_isMeasure_32 (by decide) (fun hc => ?_) (fun hc => ?_)
          · have h := h.1 hc
            exact tX3_isMeasure_L49 hL C hr hlk hb _ _ _ h (lv_sub hl [] rfl) hP hS
          · have h := h.2 hc
            refine z_aloadE_n C.1 C.2.1 dX3_isMeasure_35 rfl (lv_at hl 0 rfl) ?_
            refine z_kst C hS (i := 35) (by decide) rfl q637 dX3_isMeasure_36 ?_
            refine z_acmp_eq C (kin_l hb) (kin_l (by decide)) (tgt := 49) dX3_isMeasure_39 (by decide) (fun hc => ?_) (fun hc => ?_)
            · have h := h.1 hc
              exact tX3_isMeasure_L49 hL C hr hlk hb _ _ _ h (lv_sub hl [] rfl) hP hS
            · have h := h.2 hc
              refine z_aloadE_n C.1 C.2.1 dX3_isMeasure_42 rfl (lv_at hl 0 rfl) ?_
              refine z_kst C hS (i := 36) (by decide) rfl q639 dX3_isMeasure_43 ?_
              refine z_acmp_ne C (kin_l hb) (kin_l (by decide)) (tgt := 53) dX3_isMeasure_46 (by decide) (fun hc => ?_) (fun hc => ?_)
              · have h := h.1 hc
                refine lv_iconst C.1 C.2.1 (v := 0) dX3_isMeasure_53 rfl ?_
                exact z_ri C hr hlk (bz_n bz0) hP hS ⟨bz0, h⟩ dX3_isMeasure_54
              · have h := h.2 hc
                exact tX3_isMeasure_L49 hL C hr hlk hb _ _ _ h (lv_sub hl [] rfl) hP hS
def rmX3_isComparison : Room := { frames := 0, cells := 0, slots := 0, locals := 0 }
def wX3_isComparison_L21 (b : Nat)   (st : St) (Q : Int32 → St → Prop) : Prop :=
  Q 1 st
def wX3_isComparison (b : Nat) (st : St) (Q : Int32 → St → Prop) : Prop :=
  ((((some b)) = ((some 8)) → wX3_isComparison_L21 b st Q) ∧ (¬ ((some b)) = ((some 8)) → ((((some b)) = ((some 9)) → wX3_isComparison_L21 b st Q) ∧ (¬ ((some b)) = ((some 9)) → ((¬ ((some b)) = ((some 10)) → Q 0 st) ∧ (((some b)) = ((some 10)) → wX3_isComparison_L21 b st Q))))))
theorem hdX3_isComparison : yX3_isComparison.cls = "PlankBridge$Kind" ∧ yX3_isComparison.cls ≠ "java/lang/invoke/MethodHandle" ∧ yX3_isComparison.cls ≠ "java/lang/invoke/VarHandle" ∧ (parseMethodDescriptor yX3_isComparison.desc).map (fun d => d.parameters.length) = some 0 := by decide +kernel
set_option maxHeartbeats 4000000 in
set_option maxRecDepth 100000 in
theorem tX3_isComparison_L21 {l : Launch} {p : Program} {e : Env} {s : State} {m : MethodId} {args : Array Value} {below : List Frame} {meth : Method} {c : Code} {E : En0} {L : List Nat} (hL : Cov 0 54 L) (C : Cx E L "PlankBridge$Kind" cX3_isComparison 1 p s m args c) (hr : meth.sig.returnType = (some .boolean)) (hlk : meth.locks = false) {b : Nat} {Q : Int32 → St → Prop} (hb : b < 37)   {st : St} (H : Heap) (locs : List Loc) (ls : Array Slot) (h : wX3_isComparison_L21 b st Q) (hl : lv_has ls 1 []) (hP : va_P E.1 vwCl (wd E L st) H) (hS : va_S (fA E L s.heap.size) s.heap H locs) : W p l e rmX3_isComparison s m args below meth c H locs 0 0 (MQ below (zI E L (fun r u => bz r ∧ Q r u) (fA E L s.heap.size)) args s rmX3_isComparison.cells rmX3_isComparison.slots (fA E L s.heap.size)) (F0 m 21 ls []) := by
  unfold wX3_isComparison_L21 at h
  refine lv_iconst C.1 C.2.1 (v := 1) dX3_isComparison_21 rfl ?_
  refine lv_goto C.1 C.2.1 (tgt := 26) dX3_isComparison_22 (by decide) ?_
  exact z_ri C hr hlk (bz_n bz1) hP hS ⟨bz1, h⟩ dX3_isComparison_26
set_option maxHeartbeats 4000000 in
set_option maxRecDepth 100000 in
theorem tX3_isComparison {l : Launch} {E : En0} {L : List Nat} (hE : EK E L) (hL : Cov 0 54 L) {b : Nat} {st : St} {Q : Int32 → St → Prop} (hb : b < 37) (h : wX3_isComparison b st Q) : Mz l yX3_isComparison cX3_isComparison 1 (some .boolean) rmX3_isComparison E L [.ref (E.2.2.1 b)] st (zI E L (fun r u => bz r ∧ Q r u)) := by
  refine Mz.of hE (by decide) (Nat.le_of_ble_eq_true rfl) ?_
  intro p e s m below meth c ls C hr hlk _ hl hP
  replace C : Cx E L "PlankBridge$Kind" cX3_isComparison 1 p s m _ c := C
  have hS : va_S (fA E L s.heap.size) s.heap s.heap [] := va_S.rf
  replace hl : lv_has ls 1 [(0, va_re E.2.2.1 (some b))] := hl
  unfold wX3_isComparison at h
  refine z_aloadE_n C.1 C.2.1 dX3_isComparison_0 rfl (lv_at hl 0 rfl) ?_
  refine z_kst C hS (i := 8) (by decide) rfl q653 dX3_isComparison_1 ?_
  refine z_acmp_eq C (kin_l hb) (kin_l (by decide)) (tgt := 21) dX3_isComparison_4 (by decide) (fun hc => ?_) (fun hc => ?_)
  · have h := h.1 hc
    exact tX3_isComparison_L21 hL C hr hlk hb _ _ _ h (lv_sub hl [] rfl) hP hS
  · have h := h.2 hc
    refine z_aloadE_n C.1 C.2.1 dX3_isComparison_7 rfl (lv_at hl 0 rfl) ?_
    refine z_kst C hS (i := 9) (by decide) rfl q655 dX3_isComparison_8 ?_
    refine z_acmp_eq C (kin_l hb) (kin_l (by decide)) (tgt := 21) dX3_isComparison_11 (by decide) (fun hc => ?_) (fun hc => ?_)
    · have h := h.1 hc
      exact tX3_isComparison_L21 hL C hr hlk hb _ _ _ h (lv_sub hl [] rfl) hP hS
    · have h := h.2 hc
      refine z_aloadE_n C.1 C.2.1 dX3_isComparison_14 rfl (lv_at hl 0 rfl) ?_
      refine z_kst C hS (i := 10) (by decide) rfl q657 dX3_isComparison_15 ?_
      refine z_acmp_ne C (kin_l hb) (kin_l (by decide)) (tgt := 25) dX3_isComparison_18 (by decide) (fun hc => ?_) (fun hc => ?_)
      · have h := h.1 hc
        refine lv_iconst C.1 C.2.1 (v := 0) dX3_isComparison_25 rfl ?_
        exact z_ri C hr hlk (bz_n bz0) hP hS ⟨bz0, h⟩ dX3_isComparison_26
      · have h := h.2 hc
        exact tX3_isComparison_L21 hL C hr hlk hb _ _ _ h (lv_sub hl [] rfl) hP hS
def rmX6_hasRoomFor : Room := { frames := 0, cells := 0, slots := 0, locals := 0 }
def wX6_hasRoomFor (b : Nat) (p1 : Int32) (st : St) (Q : Int32 → St → Prop) : Prop :=
  ((1600 < ((gI st b 1) + p1) → Q 0 st) ∧ (¬ 1600 < ((gI st b 1) + p1) → Q 1 st))
theorem hdX6_hasRoomFor : yX6_hasRoomFor.cls = "PlankBridge$Tape" ∧ yX6_hasRoomFor.cls ≠ "java/lang/invoke/MethodHandle" ∧ yX6_hasRoomFor.cls ≠ "java/lang/invoke/VarHandle" ∧ (parseMethodDescriptor yX6_hasRoomFor.desc).map (fun d => d.parameters.length) = some 1 := by decide +kernel
set_option maxHeartbeats 4000000 in
set_option maxRecDepth 100000 in
theorem tX6_hasRoomFor {l : Launch} {E : En0} {L : List Nat} (hE : EK E L) (hL : Cov 0 54 L) {b : Nat} {p1 : Int32} {st : St} {Q : Int32 → St → Prop} (hb : kd b = 5) (h : wX6_hasRoomFor b p1 st Q) : Mz l yX6_hasRoomFor cX6_hasRoomFor 2 (some .boolean) rmX6_hasRoomFor E L [.ref (E.2.1 b), .int p1] st (zI E L (fun r u => bz r ∧ Q r u)) := by
  refine Mz.of hE (by decide) (Nat.le_of_ble_eq_true rfl) ?_
  intro p e s m below meth c ls C hr hlk _ hl hP
  replace C : Cx E L "PlankBridge$Tape" cX6_hasRoomFor 2 p s m _ c := C
  have hS : va_S (fA E L s.heap.size) s.heap s.heap [] := va_S.rf
  replace hl : lv_has ls 2 [(0, .ref (E.2.1 b)), (1, .int p1)] := hl
  unfold wX6_hasRoomFor at h
  refine lv_aload_n C.1 C.2.1 dX6_hasRoomFor_0 rfl (lv_at hl 0 rfl) ?_
  refine gf5_1 C hP hb (m5 hb hL) q148 dX6_hasRoomFor_1 ?_
  refine lv_iload_n C.1 C.2.1 dX6_hasRoomFor_4 rfl (lv_at hl 1 rfl) ?_
  refine lv_iadd C.1 C.2.1 dX6_hasRoomFor_5  ?_
  refine lv_sipush C.1 C.2.1 (v := 1600) dX6_hasRoomFor_6 rfl ?_
  refine lv_icmp_gt C.1 C.2.1 (tgt := 16) dX6_hasRoomFor_9 (by decide) (fun hc => ?_) (fun hc => ?_)
  · have h := h.1 hc
    refine lv_iconst C.1 C.2.1 (v := 0) dX6_hasRoomFor_16 rfl ?_
    exact z_ri C hr hlk (bz_n bz0) hP hS ⟨bz0, h⟩ dX6_hasRoomFor_17
  · have h := h.2 hc
    refine lv_iconst C.1 C.2.1 (v := 1) dX6_hasRoomFor_12 rfl ?_
    refine lv_goto C.1 C.2.1 (tgt := 17) dX6_hasRoomFor_13 (by decide) ?_
    exact z_ri C hr hlk (bz_n bz1) hP hS ⟨bz1, h⟩ dX6_hasRoomFor_17
def rmX6_append : Room := { frames := 0, cells := 0, slots := 0, locals := 0 }
def wX6_append_L47 (b : Nat) (p1 : Int32) (R3 : Int32 × Int32 × St → Prop) (v1 : Int32) (v2 : Int32) (st : St) (Q : St → Prop) : Prop :=
  (∀ x3 : Int32, x3 = v2 + (-8) → R3 (v1, x3, st))
def wX6_append_L3 (b : Nat) (p1 : Int32)  (R3 : Int32 × Int32 × St → Prop) (v1 : Int32) (v2 : Int32) (st : St) (Q : St → Prop) : Prop :=
  ((v2 < 0 → Q st) ∧ (¬ v2 < 0 → (((gI st b 1) < 0 → wX6_append_L47 b p1 R3 v1 v2 st Q) ∧ (¬ (gI st b 1) < 0 → ((1600 ≤ (gI st b 1) → wX6_append_L47 b p1 R3 v1 v2 st Q) ∧ (¬ 1600 ≤ (gI st b 1) → (vp_in (gI st b 1) 1600 ∧ ∀ st1, st1 = uI st (b + 1) (gI st b 1 : Int32).toNatClampNeg ((((v1 : Int32).toUInt32 >>> ((v2 : Int32).toUInt32 &&& Int32.toUInt32 31)).toInt32 : Int32).toInt8.toInt32) → (∀ st2, st2 = uI st1 b 1 ((gI st1 b 1) + 1) → wX6_append_L47 b p1 R3 v1 v2 st2 Q))))))))
def wX6_append (b : Nat) (p1 : Int32) (st : St) (Q : St → Prop) : Prop :=
  (∃ n, lp (fun R s => wX6_append_L3 b p1 R s.1 s.2.1 s.2.2 Q) n (p1, 24, st))
theorem hdX6_append : yX6_append.cls = "PlankBridge$Tape" ∧ yX6_append.cls ≠ "java/lang/invoke/MethodHandle" ∧ yX6_append.cls ≠ "java/lang/invoke/VarHandle" ∧ (parseMethodDescriptor yX6_append.desc).map (fun d => d.parameters.length) = some 1 := by decide +kernel
set_option maxHeartbeats 4000000 in
set_option maxRecDepth 100000 in
theorem tX6_append_L47 {l : Launch} {p : Program} {e : Env} {s : State} {m : MethodId} {args : Array Value} {below : List Frame} {meth : Method} {c : Code} {E : En0} {L : List Nat} (hL : Cov 0 54 L) (C : Cx E L "PlankBridge$Tape" cX6_append 3 p s m args c) (hr : meth.sig.returnType = none) (hlk : meth.locks = false) {b : Nat} {p1 : Int32} {Q : St → Prop} (hb : kd b = 5) {R3 : Int32 × Int32 × St → Prop} (hR3 : ∀ (v1 : Int32) (v2 : Int32) (st : St), ∀ (H : Heap) (locs : List Loc) (ls : Array Slot), R3 (v1, v2, st) → lv_has ls 3 [(0, .ref (E.2.1 b)), (1, .int v1), (2, .int v2)] → va_P E.1 vwCl (wd E L st) H → va_S (fA E L s.heap.size) s.heap H locs → W p l e rmX6_append s m args below meth c H locs 0 0 (MQ below (zV E L Q (fA E L s.heap.size)) args s rmX6_append.cells rmX6_append.slots (fA E L s.heap.size)) (F0 m 3 ls [])) {v1 : Int32} {v2 : Int32}  {st : St} (H : Heap) (locs : List Loc) (ls : Array Slot) (h : wX6_append_L47 b p1 R3 v1 v2 st Q) (hl : lv_has ls 3 [(0, .ref (E.2.1 b)), (1, .int v1), (2, .int v2)]) (hP : va_P E.1 vwCl (wd E L st) H) (hS : va_S (fA E L s.heap.size) s.heap H locs) : W p l e rmX6_append s m args below meth c H locs 0 0 (MQ below (zV E L Q (fA E L s.heap.size)) args s rmX6_append.cells rmX6_append.slots (fA E L s.heap.size)) (F0 m 47 ls []) := by
  unfold wX6_append_L47 at h
  obtain ⟨x3, ex3⟩ : ∃ z, z = v2 + (-8) := ⟨_, rfl⟩
  have h := h x3 ex3
  refine lv_iinc C.1 C.2.1 dX6_append_47 hl (k := 2) rfl ex3.symm (Nat.le_of_ble_eq_true rfl) rfl (fun ls hl => ?_)
  have hl : lv_has ls 3 [(2, .int x3), (0, .ref (E.2.1 b)), (1, .int v1)] := hl
  refine lv_goto C.1 C.2.1 (tgt := 3) dX6_append_50 (by decide) ?_
  exact hR3 v1 x3 st _ _ _ h (lv_sub hl [1, 2, 0] rfl) hP hS
set_option maxHeartbeats 4000000 in
set_option maxRecDepth 100000 in
theorem tX6_append_L3 {l : Launch} {p : Program} {e : Env} {s : State} {m : MethodId} {args : Array Value} {below : List Frame} {meth : Method} {c : Code} {E : En0} {L : List Nat} (hL : Cov 0 54 L) (C : Cx E L "PlankBridge$Tape" cX6_append 3 p s m args c) (hr : meth.sig.returnType = none) (hlk : meth.locks = false) {b : Nat} {p1 : Int32} {Q : St → Prop} (hb : kd b = 5) : ∀ (n : Nat) (v1 : Int32) (v2 : Int32) (st : St) (H : Heap) (locs : List Loc) (ls : Array Slot), lp (fun R s => wX6_append_L3 b p1 R s.1 s.2.1 s.2.2 Q) n (v1, v2, st) → lv_has ls 3 [(0, .ref (E.2.1 b)), (1, .int v1), (2, .int v2)] → va_P E.1 vwCl (wd E L st) H → va_S (fA E L s.heap.size) s.heap H locs → W p l e rmX6_append s m args below meth c H locs 0 0 (MQ below (zV E L Q (fA E L s.heap.size)) args s rmX6_append.cells rmX6_append.slots (fA E L s.heap.size)) (F0 m 3 ls []) := by
  intro n
  induction n with
  | zero => exact fun _ _ _ _ _ _ h _ _ _ => False.elim ‹_›
  | succ n ih =>
    intro v1 v2 st  H locs ls h hl hP hS
    have hR3 := ih
    replace h : wX6_append_L3 b p1 (lp (fun R s => wX6_append_L3 b p1 R s.1 s.2.1 s.2.2 Q) n) v1 v2 st Q := h
    unfold wX6_append_L3 at h
    refine lv_iload_n C.1 C.2.1 dX6_append_3 rfl (lv_at hl 2 rfl) ?_
    refine lv_if_lt C.1 C.2.1 (tgt := 53) dX6_append_4 (by decide) (fun hc => ?_) (fun hc => ?_)
    · have h := h.1 hc
      exact z_rv C hr hlk hP hS h dX6_append_53
    · have h := h.2 hc
      refine lv_aload_n C.1 C.2.1 dX6_append_7 rfl (lv_at hl 0 rfl) ?_
      refine gf5_1 C hP hb (m5 hb hL) q148 dX6_append_8 ?_
      refine lv_if_lt C.1 C.2.1 (tgt := 47) dX6_append_11 (by decide) (fun hc => ?_) (fun hc => ?_)
      · have h := h.1 hc
        exact tX6_append_L47 hL C hr hlk hb hR3 _ _ _ h hl hP hS
      · have h := h.2 hc
        refine lv_aload_n C.1 C.2.1 dX6_append_14 rfl (lv_at hl 0 rfl) ?_
        refine gf5_1 C hP hb (m5 hb hL) q148 dX6_append_15 ?_
        refine lv_sipush C.1 C.2.1 (v := 1600) dX6_append_18 rfl ?_
        refine lv_icmp_ge C.1 C.2.1 (tgt := 47) dX6_append_21 (by decide) (fun hc => ?_) (fun hc => ?_)
        · have h := h.1 hc
          exact tX6_append_L47 hL C hr hlk hb hR3 _ _ _ h hl hP hS
        · have h := h.2 hc
          refine lv_aload_n C.1 C.2.1 dX6_append_24 rfl (lv_at hl 0 rfl) ?_
          refine gf5_0 C hP hb (m5 hb hL) q147 dX6_append_25 ?_
          refine lv_aload_n C.1 C.2.1 dX6_append_28 rfl (lv_at hl 0 rfl) ?_
          refine gf5_1 C hP hb (m5 hb hL) q148 dX6_append_29 ?_
          refine lv_iload_n C.1 C.2.1 dX6_append_32 rfl (lv_at hl 1 rfl) ?_
          refine lv_iload_n C.1 C.2.1 dX6_append_33 rfl (lv_at hl 2 rfl) ?_
          refine t_iushr C.1 C.2.1 dX6_append_34  rfl ?_
          refine t_i2b C.1 C.2.1 dX6_append_35 rfl ?_
          obtain ⟨hi, h⟩ := h
          refine z_bast C hP hS (k5_1 hb) (l5_1 hb) (m5_1 hb hL) hi (pk_vb _) dX6_append_36 (fun H locs hP hS => ?_)
          obtain ⟨st1, est1⟩ : ∃ z, z = uI st (b + 1) (gI st b 1 : Int32).toNatClampNeg ((((v1 : Int32).toUInt32 >>> ((v2 : Int32).toUInt32 &&& Int32.toUInt32 31)).toInt32 : Int32).toInt8.toInt32) := ⟨_, rfl⟩
          rw [← est1] at hP; have h := h st1 est1
          refine lv_aload_n C.1 C.2.1 dX6_append_37 rfl (lv_at hl 0 rfl) ?_
          refine lv_dup C.1 C.2.1 dX6_append_38 rfl ?_
          refine gf5_1 C hP hb (m5 hb hL) q148 dX6_append_39 ?_
          refine lv_iconst C.1 C.2.1 (v := 1) dX6_append_42 rfl ?_
          refine lv_iadd C.1 C.2.1 dX6_append_43  ?_
          refine pf5_1 C hP hS hb (m5 hb hL) q148 dX6_append_44 (fun H locs hP hS => ?_)
          obtain ⟨st2, est2⟩ : ∃ z, z = uI st1 b 1 ((gI st1 b 1) + 1) := ⟨_, rfl⟩
          rw [← est2] at hP; have h := h st2 est2
          exact tX6_append_L47 hL C hr hlk hb hR3 _ _ _ h hl hP hS
set_option maxHeartbeats 4000000 in
set_option maxRecDepth 100000 in
theorem tX6_append {l : Launch} {E : En0} {L : List Nat} (hE : EK E L) (hL : Cov 0 54 L) {b : Nat} {p1 : Int32} {st : St} {Q : St → Prop} (hb : kd b = 5) (h : wX6_append b p1 st Q) : Mz l yX6_append cX6_append 3 none rmX6_append E L [.ref (E.2.1 b), .int p1] st (zV E L Q) := by
  refine Mz.of hE (by decide) (Nat.le_of_ble_eq_true rfl) ?_
  intro p e s m below meth c ls C hr hlk _ hl hP
  replace C : Cx E L "PlankBridge$Tape" cX6_append 3 p s m _ c := C
  have hS : va_S (fA E L s.heap.size) s.heap s.heap [] := va_S.rf
  replace hl : lv_has ls 3 [(0, .ref (E.2.1 b)), (1, .int p1)] := hl
  unfold wX6_append at h
  refine lv_bipush C.1 C.2.1 (v := 24) dX6_append_0 rfl ?_
  refine lv_istore_n C.1 C.2.1 dX6_append_2 rfl hl (Nat.le_of_ble_eq_true rfl) rfl (fun ls hl => ?_)
  have hl : lv_has ls 3 [(2, .int 24), (0, .ref (E.2.1 b)), (1, .int p1)] := hl
  obtain ⟨n, h⟩ := h
  exact tX6_append_L3 hL C hr hlk hb n p1 24 st _ _ _ h (lv_sub hl [1, 2, 0] rfl) hP hS
def rmX6_byteAt : Room := { frames := 0, cells := 0, slots := 0, locals := 0 }
def wX6_byteAt (b : Nat) (p1 : Int32) (st : St) (Q : Int32 → St → Prop) : Prop :=
  ((p1 < 0 → Q (-1) st) ∧ (¬ p1 < 0 → (((gI st b 1) ≤ p1 → Q (-1) st) ∧ (¬ (gI st b 1) ≤ p1 → (vp_in p1 1600 ∧ Q ((gI st (b + 1) (p1 : Int32).toNatClampNeg) &&& 255) st)))))
theorem hdX6_byteAt : yX6_byteAt.cls = "PlankBridge$Tape" ∧ yX6_byteAt.cls ≠ "java/lang/invoke/MethodHandle" ∧ yX6_byteAt.cls ≠ "java/lang/invoke/VarHandle" ∧ (parseMethodDescriptor yX6_byteAt.desc).map (fun d => d.parameters.length) = some 1 := by decide +kernel
set_option maxHeartbeats 4000000 in
set_option maxRecDepth 100000 in
theorem tX6_byteAt {l : Launch} {E : En0} {L : List Nat} (hE : EK E L) (hL : Cov 0 54 L) {b : Nat} {p1 : Int32} {st : St} {Q : Int32 → St → Prop} (hb : kd b = 5) (h : wX6_byteAt b p1 st Q) : Mz l yX6_byteAt cX6_byteAt 2 (some .int) rmX6_byteAt E L [.ref (E.2.1 b), .int p1] st (zI E L Q) := by
  refine Mz.of hE (by decide) (Nat.le_of_ble_eq_true rfl) ?_
  intro p e s m below meth c ls C hr hlk _ hl hP
  replace C : Cx E L "PlankBridge$Tape" cX6_byteAt 2 p s m _ c := C
  have hS : va_S (fA E L s.heap.size) s.heap s.heap [] := va_S.rf
  replace hl : lv_has ls 2 [(0, .ref (E.2.1 b)), (1, .int p1)] := hl
  unfold wX6_byteAt at h
  refine lv_iload_n C.1 C.2.1 dX6_byteAt_0 rfl (lv_at hl 1 rfl) ?_
  refine lv_if_lt C.1 C.2.1 (tgt := 25) dX6_byteAt_1 (by decide) (fun hc => ?_) (fun hc => ?_)
  · have h := h.1 hc
    refine lv_iconst C.1 C.2.1 (v := (-1)) dX6_byteAt_25 rfl ?_
    exact z_ri C hr hlk rfl hP hS h dX6_byteAt_26
  · have h := h.2 hc
    refine lv_iload_n C.1 C.2.1 dX6_byteAt_4 rfl (lv_at hl 1 rfl) ?_
    refine lv_aload_n C.1 C.2.1 dX6_byteAt_5 rfl (lv_at hl 0 rfl) ?_
    refine gf5_1 C hP hb (m5 hb hL) q148 dX6_byteAt_6 ?_
    refine lv_icmp_ge C.1 C.2.1 (tgt := 25) dX6_byteAt_9 (by decide) (fun hc => ?_) (fun hc => ?_)
    · have h := h.1 hc
      refine lv_iconst C.1 C.2.1 (v := (-1)) dX6_byteAt_25 rfl ?_
      exact z_ri C hr hlk rfl hP hS h dX6_byteAt_26
    · have h := h.2 hc
      refine lv_aload_n C.1 C.2.1 dX6_byteAt_12 rfl (lv_at hl 0 rfl) ?_
      refine gf5_0 C hP hb (m5 hb hL) q147 dX6_byteAt_13 ?_
      refine lv_iload_n C.1 C.2.1 dX6_byteAt_16 rfl (lv_at hl 1 rfl) ?_
      obtain ⟨hi, h⟩ := h
      refine z_bald C hP (k5_1 hb) (l5_1 hb) (m5_1 hb hL) hi dX6_byteAt_17 ?_
      refine lv_sipush C.1 C.2.1 (v := 255) dX6_byteAt_18 rfl ?_
      refine lv_iand C.1 C.2.1 dX6_byteAt_21  ?_
      refine lv_goto C.1 C.2.1 (tgt := 26) dX6_byteAt_22 (by decide) ?_
      exact z_ri C hr hlk rfl hP hS h dX6_byteAt_26
def rmX7_kindAt : Room := { frames := 0, cells := 0, slots := 0, locals := 0 }
def wX7_kindAt (b : Nat) (p1 : Int32) (st : St) (Q : Option Nat → St → Prop) : Prop :=
  ((p1 < 0 → Q (some 1) st) ∧ (¬ p1 < 0 → ((p1 < (gI st b 4) → (vp_in p1 401 ∧ (∀ x1, x1 = gK st (b + 1) (p1 : Int32).toNatClampNeg → ((¬ x1 = none → (kin x1 ∧ Q x1 st)) ∧ (x1 = none → Q (some 1) st))))) ∧ (¬ p1 < (gI st b 4) → Q (some 1) st))))
theorem hdX7_kindAt : yX7_kindAt.cls = "PlankBridge$Tokens" ∧ yX7_kindAt.cls ≠ "java/lang/invoke/MethodHandle" ∧ yX7_kindAt.cls ≠ "java/lang/invoke/VarHandle" ∧ (parseMethodDescriptor yX7_kindAt.desc).map (fun d => d.parameters.length) = some 1 := by decide +kernel
set_option maxHeartbeats 4000000 in
set_option maxRecDepth 100000 in
theorem tX7_kindAt {l : Launch} {E : En0} {L : List Nat} (hE : EK E L) (hL : Cov 0 54 L) {b : Nat} {p1 : Int32} {st : St} {Q : Option Nat → St → Prop} (hb : kd b = 6) (h : wX7_kindAt b p1 st Q) : Mz l yX7_kindAt cX7_kindAt 3 (some (.object "PlankBridge$Kind")) rmX7_kindAt E L [.ref (E.2.1 b), .int p1] st (zK E L (fun r u => kin r ∧ Q r u)) := by
  refine Mz.of hE (by decide) (Nat.le_of_ble_eq_true rfl) ?_
  intro p e s m below meth c ls C hr hlk _ hl hP
  replace C : Cx E L "PlankBridge$Tokens" cX7_kindAt 3 p s m _ c := C
  have hS : va_S (fA E L s.heap.size) s.heap s.heap [] := va_S.rf
  replace hl : lv_has ls 3 [(0, .ref (E.2.1 b)), (1, .int p1)] := hl
  unfold wX7_kindAt at h
  refine lv_iload_n C.1 C.2.1 dX7_kindAt_0 rfl (lv_at hl 1 rfl) ?_
  refine lv_if_lt C.1 C.2.1 (tgt := 12) dX7_kindAt_1 (by decide) (fun hc => ?_) (fun hc => ?_)
  · have h := h.1 hc
    refine z_kst C hS (i := 1) (by decide) rfl q455 dX7_kindAt_12 ?_
    exact z_re C hr hlk hP hS ⟨(kin_l (by decide)), h⟩ dX7_kindAt_15
  · have h := h.2 hc
    refine lv_iload_n C.1 C.2.1 dX7_kindAt_4 rfl (lv_at hl 1 rfl) ?_
    refine lv_aload_n C.1 C.2.1 dX7_kindAt_5 rfl (lv_at hl 0 rfl) ?_
    refine gf6_4 C hP hb (m6 hb hL) q175 dX7_kindAt_6 ?_
    refine lv_icmp_lt C.1 C.2.1 (tgt := 16) dX7_kindAt_9 (by decide) (fun hc => ?_) (fun hc => ?_)
    · have h := h.1 hc
      refine lv_aload_n C.1 C.2.1 dX7_kindAt_16 rfl (lv_at hl 0 rfl) ?_
      refine gf6_0 C hP hb (m6 hb hL) q171 dX7_kindAt_17 ?_
      refine lv_iload_n C.1 C.2.1 dX7_kindAt_20 rfl (lv_at hl 1 rfl) ?_
      obtain ⟨hi, h⟩ := h
      refine z_kald C hP (k6_1 hb) (l6_1 hb) (m6_1 hb hL) hi dX7_kindAt_21 ?_
      obtain ⟨x1, ex1⟩ : ∃ z, z = gK st (b + 1) (p1 : Int32).toNatClampNeg := ⟨_, rfl⟩
      rw [← ex1]; have h := h x1 ex1
      refine z_astoreE_n C.1 C.2.1 dX7_kindAt_22 rfl hl (Nat.le_of_ble_eq_true rfl) rfl (fun ls hl => ?_)
      have hl : lv_has ls 3 [(2, va_re E.2.2.1 x1), (0, .ref (E.2.1 b)), (1, .int p1)] := hl
      refine z_aloadE_n C.1 C.2.1 dX7_kindAt_23 rfl (lv_at hl 0 rfl) ?_
      refine z_nonnull C.1 C.2.1 (tgt := 33) dX7_kindAt_24 (by decide) (fun hc => ?_) (fun hc => ?_)
      · have h := h.1 hc
        refine z_aloadE_n C.1 C.2.1 dX7_kindAt_33 rfl (lv_at hl 0 rfl) ?_
        exact z_re C hr hlk hP hS h dX7_kindAt_34
      · have h := h.2 hc
        refine z_kst C hS (i := 1) (by decide) rfl q455 dX7_kindAt_27 ?_
        refine lv_goto C.1 C.2.1 (tgt := 34) dX7_kindAt_30 (by decide) ?_
        exact z_re C hr hlk hP hS ⟨(kin_l (by decide)), h⟩ dX7_kindAt_34
    · have h := h.2 hc
      refine z_kst C hS (i := 1) (by decide) rfl q455 dX7_kindAt_12 ?_
      exact z_re C hr hlk hP hS ⟨(kin_l (by decide)), h⟩ dX7_kindAt_15
def rmX7_positionAt : Room := { frames := 0, cells := 0, slots := 0, locals := 0 }
def wX7_positionAt (b : Nat) (p1 : Int32) (st : St) (Q : Int32 → St → Prop) : Prop :=
  ((p1 < 0 → Q (-1) st) ∧ (¬ p1 < 0 → (((gI st b 4) ≤ p1 → Q (-1) st) ∧ (¬ (gI st b 4) ≤ p1 → (vp_in p1 401 ∧ Q (gI st (b + 2) (p1 : Int32).toNatClampNeg) st)))))
theorem hdX7_positionAt : yX7_positionAt.cls = "PlankBridge$Tokens" ∧ yX7_positionAt.cls ≠ "java/lang/invoke/MethodHandle" ∧ yX7_positionAt.cls ≠ "java/lang/invoke/VarHandle" ∧ (parseMethodDescriptor yX7_positionAt.desc).map (fun d => d.parameters.length) = some 1 := by decide +kernel
set_option maxHeartbeats 4000000 in
set_option maxRecDepth 100000 in
theorem tX7_positionAt {l : Launch} {E : En0} {L : List Nat} (hE : EK E L) (hL : Cov 0 54 L) {b : Nat} {p1 : Int32} {st : St} {Q : Int32 → St → Prop} (hb : kd b = 6) (h : wX7_positionAt b p1 st Q) : Mz l yX7_positionAt cX7_positionAt 2 (some .int) rmX7_positionAt E L [.ref (E.2.1 b), .int p1] st (zI E L Q) := by
  refine Mz.of hE (by decide) (Nat.le_of_ble_eq_true rfl) ?_
  intro p e s m below meth c ls C hr hlk _ hl hP
  replace C : Cx E L "PlankBridge$Tokens" cX7_positionAt 2 p s m _ c := C
  have hS : va_S (fA E L s.heap.size) s.heap s.heap [] := va_S.rf
  replace hl : lv_has ls 2 [(0, .ref (E.2.1 b)), (1, .int p1)] := hl
  unfold wX7_positionAt at h
  refine lv_iload_n C.1 C.2.1 dX7_positionAt_0 rfl (lv_at hl 1 rfl) ?_
  refine lv_if_lt C.1 C.2.1 (tgt := 21) dX7_positionAt_1 (by decide) (fun hc => ?_) (fun hc => ?_)
  · have h := h.1 hc
    refine lv_iconst C.1 C.2.1 (v := (-1)) dX7_positionAt_21 rfl ?_
    exact z_ri C hr hlk rfl hP hS h dX7_positionAt_22
  · have h := h.2 hc
    refine lv_iload_n C.1 C.2.1 dX7_positionAt_4 rfl (lv_at hl 1 rfl) ?_
    refine lv_aload_n C.1 C.2.1 dX7_positionAt_5 rfl (lv_at hl 0 rfl) ?_
    refine gf6_4 C hP hb (m6 hb hL) q175 dX7_positionAt_6 ?_
    refine lv_icmp_ge C.1 C.2.1 (tgt := 21) dX7_positionAt_9 (by decide) (fun hc => ?_) (fun hc => ?_)
    · have h := h.1 hc
      refine lv_iconst C.1 C.2.1 (v := (-1)) dX7_positionAt_21 rfl ?_
      exact z_ri C hr hlk rfl hP hS h dX7_positionAt_22
    · have h := h.2 hc
      refine lv_aload_n C.1 C.2.1 dX7_positionAt_12 rfl (lv_at hl 0 rfl) ?_
      refine gf6_1 C hP hb (m6 hb hL) q172 dX7_positionAt_13 ?_
      refine lv_iload_n C.1 C.2.1 dX7_positionAt_16 rfl (lv_at hl 1 rfl) ?_
      obtain ⟨hi, h⟩ := h
      refine z_iald C hP (k6_2 hb) (l6_2 hb) (m6_2 hb hL) hi dX7_positionAt_17 ?_
      refine lv_goto C.1 C.2.1 (tgt := 22) dX7_positionAt_18 (by decide) ?_
      exact z_ri C hr hlk rfl hP hS h dX7_positionAt_22
def rmX7_numberAt : Room := { frames := 0, cells := 0, slots := 0, locals := 0 }
def wX7_numberAt (b : Nat) (p1 : Int32) (st : St) (Q : Int32 → St → Prop) : Prop :=
  ((p1 < 0 → Q 0 st) ∧ (¬ p1 < 0 → (((gI st b 4) ≤ p1 → Q 0 st) ∧ (¬ (gI st b 4) ≤ p1 → (vp_in p1 401 ∧ Q (gI st (b + 3) (p1 : Int32).toNatClampNeg) st)))))
theorem hdX7_numberAt : yX7_numberAt.cls = "PlankBridge$Tokens" ∧ yX7_numberAt.cls ≠ "java/lang/invoke/MethodHandle" ∧ yX7_numberAt.cls ≠ "java/lang/invoke/VarHandle" ∧ (parseMethodDescriptor yX7_numberAt.desc).map (fun d => d.parameters.length) = some 1 := by decide +kernel
set_option maxHeartbeats 4000000 in
set_option maxRecDepth 100000 in
theorem tX7_numberAt {l : Launch} {E : En0} {L : List Nat} (hE : EK E L) (hL : Cov 0 54 L) {b : Nat} {p1 : Int32} {st : St} {Q : Int32 → St → Prop} (hb : kd b = 6) (h : wX7_numberAt b p1 st Q) : Mz l yX7_numberAt cX7_numberAt 2 (some .int) rmX7_numberAt E L [.ref (E.2.1 b), .int p1] st (zI E L Q) := by
  refine Mz.of hE (by decide) (Nat.le_of_ble_eq_true rfl) ?_
  intro p e s m below meth c ls C hr hlk _ hl hP
  replace C : Cx E L "PlankBridge$Tokens" cX7_numberAt 2 p s m _ c := C
  have hS : va_S (fA E L s.heap.size) s.heap s.heap [] := va_S.rf
  replace hl : lv_has ls 2 [(0, .ref (E.2.1 b)), (1, .int p1)] := hl
  unfold wX7_numberAt at h
  refine lv_iload_n C.1 C.2.1 dX7_numberAt_0 rfl (lv_at hl 1 rfl) ?_
  refine lv_if_lt C.1 C.2.1 (tgt := 21) dX7_numberAt_1 (by decide) (fun hc => ?_) (fun hc => ?_)
  · have h := h.1 hc
    refine lv_iconst C.1 C.2.1 (v := 0) dX7_numberAt_21 rfl ?_
    exact z_ri C hr hlk rfl hP hS h dX7_numberAt_22
  · have h := h.2 hc
    refine lv_iload_n C.1 C.2.1 dX7_numberAt_4 rfl (lv_at hl 1 rfl) ?_
    refine lv_aload_n C.1 C.2.1 dX7_numberAt_5 rfl (lv_at hl 0 rfl) ?_
    refine gf6_4 C hP hb (m6 hb hL) q175 dX7_numberAt_6 ?_
    refine lv_icmp_ge C.1 C.2.1 (tgt := 21) dX7_numberAt_9 (by decide) (fun hc => ?_) (fun hc => ?_)
    · have h := h.1 hc
      refine lv_iconst C.1 C.2.1 (v := 0) dX7_numberAt_21 rfl ?_
      exact z_ri C hr hlk rfl hP hS h dX7_numberAt_22
    · have h := h.2 hc
      refine lv_aload_n C.1 C.2.1 dX7_numberAt_12 rfl (lv_at hl 0 rfl) ?_
      refine gf6_2 C hP hb (m6 hb hL) q173 dX7_numberAt_13 ?_
      refine lv_iload_n C.1 C.2.1 dX7_numberAt_16 rfl (lv_at hl 1 rfl) ?_
      obtain ⟨hi, h⟩ := h
      refine z_iald C hP (k6_3 hb) (l6_3 hb) (m6_3 hb hL) hi dX7_numberAt_17 ?_
      refine lv_goto C.1 C.2.1 (tgt := 22) dX7_numberAt_18 (by decide) ?_
      exact z_ri C hr hlk rfl hP hS h dX7_numberAt_22
def rmX7_wordAt : Room := { frames := 0, cells := 0, slots := 0, locals := 0 }
def wX7_wordAt (b : Nat) (p1 : Int32) (st : St) (Q : Int64 → St → Prop) : Prop :=
  ((p1 < 0 → Q 0 st) ∧ (¬ p1 < 0 → (((gI st b 4) ≤ p1 → Q 0 st) ∧ (¬ (gI st b 4) ≤ p1 → (vp_in p1 401 ∧ Q (gJ st (b + 4) (p1 : Int32).toNatClampNeg) st)))))
theorem hdX7_wordAt : yX7_wordAt.cls = "PlankBridge$Tokens" ∧ yX7_wordAt.cls ≠ "java/lang/invoke/MethodHandle" ∧ yX7_wordAt.cls ≠ "java/lang/invoke/VarHandle" ∧ (parseMethodDescriptor yX7_wordAt.desc).map (fun d => d.parameters.length) = some 1 := by decide +kernel
set_option maxHeartbeats 4000000 in
set_option maxRecDepth 100000 in
theorem tX7_wordAt {l : Launch} {E : En0} {L : List Nat} (hE : EK E L) (hL : Cov 0 54 L) {b : Nat} {p1 : Int32} {st : St} {Q : Int64 → St → Prop} (hb : kd b = 6) (h : wX7_wordAt b p1 st Q) : Mz l yX7_wordAt cX7_wordAt 2 (some .long) rmX7_wordAt E L [.ref (E.2.1 b), .int p1] st (zJ E L Q) := by
  refine Mz.of hE (by decide) (Nat.le_of_ble_eq_true rfl) ?_
  intro p e s m below meth c ls C hr hlk _ hl hP
  replace C : Cx E L "PlankBridge$Tokens" cX7_wordAt 2 p s m _ c := C
  have hS : va_S (fA E L s.heap.size) s.heap s.heap [] := va_S.rf
  replace hl : lv_has ls 2 [(0, .ref (E.2.1 b)), (1, .int p1)] := hl
  unfold wX7_wordAt at h
  refine lv_iload_n C.1 C.2.1 dX7_wordAt_0 rfl (lv_at hl 1 rfl) ?_
  refine lv_if_lt C.1 C.2.1 (tgt := 21) dX7_wordAt_1 (by decide) (fun hc => ?_) (fun hc => ?_)
  · have h := h.1 hc
    refine lv_lconst C.1 C.2.1 (v := 0) dX7_wordAt_21 rfl ?_
    exact z_rj C hr hlk hP hS h dX7_wordAt_22
  · have h := h.2 hc
    refine lv_iload_n C.1 C.2.1 dX7_wordAt_4 rfl (lv_at hl 1 rfl) ?_
    refine lv_aload_n C.1 C.2.1 dX7_wordAt_5 rfl (lv_at hl 0 rfl) ?_
    refine gf6_4 C hP hb (m6 hb hL) q175 dX7_wordAt_6 ?_
    refine lv_icmp_ge C.1 C.2.1 (tgt := 21) dX7_wordAt_9 (by decide) (fun hc => ?_) (fun hc => ?_)
    · have h := h.1 hc
      refine lv_lconst C.1 C.2.1 (v := 0) dX7_wordAt_21 rfl ?_
      exact z_rj C hr hlk hP hS h dX7_wordAt_22
    · have h := h.2 hc
      refine lv_aload_n C.1 C.2.1 dX7_wordAt_12 rfl (lv_at hl 0 rfl) ?_
      refine gf6_3 C hP hb (m6 hb hL) q174 dX7_wordAt_13 ?_
      refine lv_iload_n C.1 C.2.1 dX7_wordAt_16 rfl (lv_at hl 1 rfl) ?_
      obtain ⟨hi, h⟩ := h
      refine z_lald C hP (k6_4 hb) (l6_4 hb) (m6_4 hb hL) hi dX7_wordAt_17 ?_
      refine lv_goto C.1 C.2.1 (tgt := 22) dX7_wordAt_18 (by decide) ?_
      exact z_rj C hr hlk hP hS h dX7_wordAt_22
def rmX7_resolve : Room := { frames := 0, cells := 0, slots := 0, locals := 0 }
def wX7_resolve (b : Nat) (p1 : Int32) (p2 : Int32) (st : St) (Q : St → Prop) : Prop :=
  ((p1 < 0 → Q st) ∧ (¬ p1 < 0 → (((gI st b 4) ≤ p1 → Q st) ∧ (¬ (gI st b 4) ≤ p1 → (vp_in p1 401 ∧ ∀ st1, st1 = uI st (b + 3) (p1 : Int32).toNatClampNeg p2 → Q st1)))))
theorem hdX7_resolve : yX7_resolve.cls = "PlankBridge$Tokens" ∧ yX7_resolve.cls ≠ "java/lang/invoke/MethodHandle" ∧ yX7_resolve.cls ≠ "java/lang/invoke/VarHandle" ∧ (parseMethodDescriptor yX7_resolve.desc).map (fun d => d.parameters.length) = some 2 := by decide +kernel
set_option maxHeartbeats 4000000 in
set_option maxRecDepth 100000 in
theorem tX7_resolve {l : Launch} {E : En0} {L : List Nat} (hE : EK E L) (hL : Cov 0 54 L) {b : Nat} {p1 : Int32} {p2 : Int32} {st : St} {Q : St → Prop} (hb : kd b = 6) (h : wX7_resolve b p1 p2 st Q) : Mz l yX7_resolve cX7_resolve 3 none rmX7_resolve E L [.ref (E.2.1 b), .int p1, .int p2] st (zV E L Q) := by
  refine Mz.of hE (by decide) (Nat.le_of_ble_eq_true rfl) ?_
  intro p e s m below meth c ls C hr hlk _ hl hP
  replace C : Cx E L "PlankBridge$Tokens" cX7_resolve 3 p s m _ c := C
  have hS : va_S (fA E L s.heap.size) s.heap s.heap [] := va_S.rf
  replace hl : lv_has ls 3 [(0, .ref (E.2.1 b)), (1, .int p1), (2, .int p2)] := hl
  unfold wX7_resolve at h
  refine lv_iload_n C.1 C.2.1 dX7_resolve_0 rfl (lv_at hl 1 rfl) ?_
  refine lv_if_lt C.1 C.2.1 (tgt := 19) dX7_resolve_1 (by decide) (fun hc => ?_) (fun hc => ?_)
  · have h := h.1 hc
    exact z_rv C hr hlk hP hS h dX7_resolve_19
  · have h := h.2 hc
    refine lv_iload_n C.1 C.2.1 dX7_resolve_4 rfl (lv_at hl 1 rfl) ?_
    refine lv_aload_n C.1 C.2.1 dX7_resolve_5 rfl (lv_at hl 0 rfl) ?_
    refine gf6_4 C hP hb (m6 hb hL) q175 dX7_resolve_6 ?_
    refine lv_icmp_ge C.1 C.2.1 (tgt := 19) dX7_resolve_9 (by decide) (fun hc => ?_) (fun hc => ?_)
    · have h := h.1 hc
      exact z_rv C hr hlk hP hS h dX7_resolve_19
    · have h := h.2 hc
      refine lv_aload_n C.1 C.2.1 dX7_resolve_12 rfl (lv_at hl 0 rfl) ?_
      refine gf6_2 C hP hb (m6 hb hL) q173 dX7_resolve_13 ?_
      refine lv_iload_n C.1 C.2.1 dX7_resolve_16 rfl (lv_at hl 1 rfl) ?_
      refine lv_iload_n C.1 C.2.1 dX7_resolve_17 rfl (lv_at hl 2 rfl) ?_
      obtain ⟨hi, h⟩ := h
      refine z_iast C hP hS (k6_3 hb) (l6_3 hb) (m6_3 hb hL) hi dX7_resolve_18 (fun H locs hP hS => ?_)
      obtain ⟨st1, est1⟩ : ∃ z, z = uI st (b + 3) (p1 : Int32).toNatClampNeg p2 := ⟨_, rfl⟩
      rw [← est1] at hP; have h := h st1 est1
      exact z_rv C hr hlk hP hS h dX7_resolve_19
def rmX7_isLetter : Room := { frames := 0, cells := 0, slots := 0, locals := 0 }
def wX7_isLetter (p1 : Int32) (st : St) (Q : Int32 → St → Prop) : Prop :=
  ((p1 < 97 → Q 0 st) ∧ (¬ p1 < 97 → ((122 < p1 → Q 0 st) ∧ (¬ 122 < p1 → Q 1 st))))
theorem hdX7_isLetter : yX7_isLetter.cls ≠ "java/lang/invoke/MethodHandle" ∧ yX7_isLetter.cls ≠ "java/lang/invoke/VarHandle" ∧ (parseMethodDescriptor yX7_isLetter.desc).map (fun d => d.parameters.length) = some 1 := by decide +kernel
set_option maxHeartbeats 4000000 in
set_option maxRecDepth 100000 in
theorem tX7_isLetter {l : Launch} {E : En0} {L : List Nat} (hE : EK E L) (hL : Cov 0 54 L) {p1 : Int32} {st : St} {Q : Int32 → St → Prop}  (h : wX7_isLetter p1 st Q) : Mz l yX7_isLetter cX7_isLetter 1 (some .boolean) rmX7_isLetter E L [.int p1] st (zI E L (fun r u => bz r ∧ Q r u)) := by
  refine Mz.of hE (by decide) (Nat.le_of_ble_eq_true rfl) ?_
  intro p e s m below meth c ls C hr hlk _ hl hP
  replace C : Cx E L "PlankBridge$Tokens" cX7_isLetter 1 p s m _ c := C
  have hS : va_S (fA E L s.heap.size) s.heap s.heap [] := va_S.rf
  replace hl : lv_has ls 1 [(0, .int p1)] := hl
  unfold wX7_isLetter at h
  refine lv_iload_n C.1 C.2.1 dX7_isLetter_0 rfl (lv_at hl 0 rfl) ?_
  refine lv_bipush C.1 C.2.1 (v := 97) dX7_isLetter_1 rfl ?_
  refine lv_icmp_lt C.1 C.2.1 (tgt := 16) dX7_isLetter_3 (by decide) (fun hc => ?_) (fun hc => ?_)
  · have h := h.1 hc
    refine lv_iconst C.1 C.2.1 (v := 0) dX7_isLetter_16 rfl ?_
    exact z_ri C hr hlk (bz_n bz0) hP hS ⟨bz0, h⟩ dX7_isLetter_17
  · have h := h.2 hc
    refine lv_iload_n C.1 C.2.1 dX7_isLetter_6 rfl (lv_at hl 0 rfl) ?_
    refine lv_bipush C.1 C.2.1 (v := 122) dX7_isLetter_7 rfl ?_
    refine lv_icmp_gt C.1 C.2.1 (tgt := 16) dX7_isLetter_9 (by decide) (fun hc => ?_) (fun hc => ?_)
    · have h := h.1 hc
      refine lv_iconst C.1 C.2.1 (v := 0) dX7_isLetter_16 rfl ?_
      exact z_ri C hr hlk (bz_n bz0) hP hS ⟨bz0, h⟩ dX7_isLetter_17
    · have h := h.2 hc
      refine lv_iconst C.1 C.2.1 (v := 1) dX7_isLetter_12 rfl ?_
      refine lv_goto C.1 C.2.1 (tgt := 17) dX7_isLetter_13 (by decide) ?_
      exact z_ri C hr hlk (bz_n bz1) hP hS ⟨bz1, h⟩ dX7_isLetter_17
def rmX7_isDigit : Room := { frames := 0, cells := 0, slots := 0, locals := 0 }
def wX7_isDigit (p1 : Int32) (st : St) (Q : Int32 → St → Prop) : Prop :=
  ((p1 < 48 → Q 0 st) ∧ (¬ p1 < 48 → ((57 < p1 → Q 0 st) ∧ (¬ 57 < p1 → Q 1 st))))
theorem hdX7_isDigit : yX7_isDigit.cls ≠ "java/lang/invoke/MethodHandle" ∧ yX7_isDigit.cls ≠ "java/lang/invoke/VarHandle" ∧ (parseMethodDescriptor yX7_isDigit.desc).map (fun d => d.parameters.length) = some 1 := by decide +kernel
set_option maxHeartbeats 4000000 in
set_option maxRecDepth 100000 in
theorem tX7_isDigit {l : Launch} {E : En0} {L : List Nat} (hE : EK E L) (hL : Cov 0 54 L) {p1 : Int32} {st : St} {Q : Int32 → St → Prop}  (h : wX7_isDigit p1 st Q) : Mz l yX7_isDigit cX7_isDigit 1 (some .boolean) rmX7_isDigit E L [.int p1] st (zI E L (fun r u => bz r ∧ Q r u)) := by
  refine Mz.of hE (by decide) (Nat.le_of_ble_eq_true rfl) ?_
  intro p e s m below meth c ls C hr hlk _ hl hP
  replace C : Cx E L "PlankBridge$Tokens" cX7_isDigit 1 p s m _ c := C
  have hS : va_S (fA E L s.heap.size) s.heap s.heap [] := va_S.rf
  replace hl : lv_has ls 1 [(0, .int p1)] := hl
  unfold wX7_isDigit at h
  refine lv_iload_n C.1 C.2.1 dX7_isDigit_0 rfl (lv_at hl 0 rfl) ?_
  refine lv_bipush C.1 C.2.1 (v := 48) dX7_isDigit_1 rfl ?_
  refine lv_icmp_lt C.1 C.2.1 (tgt := 16) dX7_isDigit_3 (by decide) (fun hc => ?_) (fun hc => ?_)
  · have h := h.1 hc
    refine lv_iconst C.1 C.2.1 (v := 0) dX7_isDigit_16 rfl ?_
    exact z_ri C hr hlk (bz_n bz0) hP hS ⟨bz0, h⟩ dX7_isDigit_17
  · have h := h.2 hc
    refine lv_iload_n C.1 C.2.1 dX7_isDigit_6 rfl (lv_at hl 0 rfl) ?_
    refine lv_bipush C.1 C.2.1 (v := 57) dX7_isDigit_7 rfl ?_
    refine lv_icmp_gt C.1 C.2.1 (tgt := 16) dX7_isDigit_9 (by decide) (fun hc => ?_) (fun hc => ?_)
    · have h := h.1 hc
      refine lv_iconst C.1 C.2.1 (v := 0) dX7_isDigit_16 rfl ?_
      exact z_ri C hr hlk (bz_n bz0) hP hS ⟨bz0, h⟩ dX7_isDigit_17
    · have h := h.2 hc
      refine lv_iconst C.1 C.2.1 (v := 1) dX7_isDigit_12 rfl ?_
      refine lv_goto C.1 C.2.1 (tgt := 17) dX7_isDigit_13 (by decide) ?_
      exact z_ri C hr hlk (bz_n bz1) hP hS ⟨bz1, h⟩ dX7_isDigit_17
def rmX7_skipBlanks : Room := { frames := 1, cells := 0, slots := 0, locals := 21 }
def wX7_skipBlanks_L30 (p1 : Nat) (p2 : Int32) (R2 : Int32 × St → Prop) (v2 : Int32) (st : St) (Q : Int32 → St → Prop) : Prop :=
  (∀ x5 : Int32, x5 = v2 + 1 → R2 (x5, st))
def wX7_skipBlanks_L2 (p1 : Nat) (p2 : Int32)  (R2 : Int32 × St → Prop) (v2 : Int32) (st : St) (Q : Int32 → St → Prop) : Prop :=
  (((gI st p1 1) ≤ v2 → Q v2 st) ∧ (¬ (gI st p1 1) ≤ v2 → (wX6_byteAt p1 v2 st (fun r2 st1 => ((r2 = 32 → wX7_skipBlanks_L30 p1 p2 R2 v2 st1 Q) ∧ (¬ r2 = 32 → (wX6_byteAt p1 v2 st1 (fun r4 st3 => ((¬ r4 = 10 → Q v2 st3) ∧ (r4 = 10 → wX7_skipBlanks_L30 p1 p2 R2 v2 st3 Q))))))))))
def wX7_skipBlanks (p1 : Nat) (p2 : Int32) (st : St) (Q : Int32 → St → Prop) : Prop :=
  (∃ n, lp (fun R s => wX7_skipBlanks_L2 p1 p2 R s.1 s.2 Q) n (p2, st))
theorem hdX7_skipBlanks : yX7_skipBlanks.cls ≠ "java/lang/invoke/MethodHandle" ∧ yX7_skipBlanks.cls ≠ "java/lang/invoke/VarHandle" ∧ (parseMethodDescriptor yX7_skipBlanks.desc).map (fun d => d.parameters.length) = some 2 := by decide +kernel
set_option maxHeartbeats 4000000 in
set_option maxRecDepth 100000 in
theorem tX7_skipBlanks_L30 {l : Launch} {p : Program} {e : Env} {s : State} {m : MethodId} {args : Array Value} {below : List Frame} {meth : Method} {c : Code} {E : En0} {L : List Nat} (hL : Cov 0 54 L) (C : Cx E L "PlankBridge$Tokens" cX7_skipBlanks 3 p s m args c) (hr : meth.sig.returnType = (some .int)) (hlk : meth.locks = false) {p1 : Nat} {p2 : Int32} {Q : Int32 → St → Prop} (hp1 : kd p1 = 5) {R2 : Int32 × St → Prop} (hR2 : ∀ (v2 : Int32) (st : St), ∀ (H : Heap) (locs : List Loc) (ls : Array Slot), R2 (v2, st) → lv_has ls 3 [(0, .ref (E.2.1 p1)), (2, .int v2)] → va_P E.1 vwCl (wd E L st) H → va_S (fA E L s.heap.size) s.heap H locs → W p l e rmX7_skipBlanks s m args below meth c H locs 0 0 (MQ below (zI E L Q (fA E L s.heap.size)) args s rmX7_skipBlanks.cells rmX7_skipBlanks.slots (fA E L s.heap.size)) (F0 m 2 ls [])) {v2 : Int32}  {st : St} (H : Heap) (locs : List Loc) (ls : Array Slot) (h : wX7_skipBlanks_L30 p1 p2 R2 v2 st Q) (hl : lv_has ls 3 [(0, .ref (E.2.1 p1)), (2, .int v2)]) (hP : va_P E.1 vwCl (wd E L st) H) (hS : va_S (fA E L s.heap.size) s.heap H locs) : W p l e rmX7_skipBlanks s m args below meth c H locs 0 0 (MQ below (zI E L Q (fA E L s.heap.size)) args s rmX7_skipBlanks.cells rmX7_skipBlanks.slots (fA E L s.heap.size)) (F0 m 30 ls []) := by
  unfold wX7_skipBlanks_L30 at h
  obtain ⟨x5, ex5⟩ : ∃ z, z = v2 + 1 := ⟨_, rfl⟩
  have h := h x5 ex5
  refine lv_iinc C.1 C.2.1 dX7_skipBlanks_30 hl (k := 1) rfl ex5.symm (Nat.le_of_ble_eq_true rfl) rfl (fun ls hl => ?_)
  have hl : lv_has ls 3 [(2, .int x5), (0, .ref (E.2.1 p1))] := hl
  refine lv_goto C.1 C.2.1 (tgt := 2) dX7_skipBlanks_33 (by decide) ?_
  exact hR2 x5 st _ _ _ h (lv_sub hl [1, 0] rfl) hP hS
set_option maxHeartbeats 4000000 in
set_option maxRecDepth 100000 in
theorem tX7_skipBlanks_L2 {l : Launch} {p : Program} {e : Env} {s : State} {m : MethodId} {args : Array Value} {below : List Frame} {meth : Method} {c : Code} {E : En0} {L : List Nat} (hL : Cov 0 54 L) (C : Cx E L "PlankBridge$Tokens" cX7_skipBlanks 3 p s m args c) (hr : meth.sig.returnType = (some .int)) (hlk : meth.locks = false) {p1 : Nat} {p2 : Int32} {Q : Int32 → St → Prop} (hp1 : kd p1 = 5) : ∀ (n : Nat) (v2 : Int32) (st : St) (H : Heap) (locs : List Loc) (ls : Array Slot), lp (fun R s => wX7_skipBlanks_L2 p1 p2 R s.1 s.2 Q) n (v2, st) → lv_has ls 3 [(0, .ref (E.2.1 p1)), (2, .int v2)] → va_P E.1 vwCl (wd E L st) H → va_S (fA E L s.heap.size) s.heap H locs → W p l e rmX7_skipBlanks s m args below meth c H locs 0 0 (MQ below (zI E L Q (fA E L s.heap.size)) args s rmX7_skipBlanks.cells rmX7_skipBlanks.slots (fA E L s.heap.size)) (F0 m 2 ls []) := by
  intro n
  induction n with
  | zero => exact fun _ _ _ _ _ h _ _ _ => False.elim ‹_›
  | succ n ih =>
    intro v2 st  H locs ls h hl hP hS
    have hR2 := ih
    replace h : wX7_skipBlanks_L2 p1 p2 (lp (fun R s => wX7_skipBlanks_L2 p1 p2 R s.1 s.2 Q) n) v2 st Q := h
    unfold wX7_skipBlanks_L2 at h
    refine lv_iload_n C.1 C.2.1 dX7_skipBlanks_2 rfl (lv_at hl 1 rfl) ?_
    refine lv_aload_n C.1 C.2.1 dX7_skipBlanks_3 rfl (lv_at hl 0 rfl) ?_
    refine gn5_1 C hP hp1 (m5 hp1 hL) q149 dX7_skipBlanks_4 ?_
    refine lv_icmp_ge C.1 C.2.1 (tgt := 36) dX7_skipBlanks_7 (by decide) (fun hc => ?_) (fun hc => ?_)
    · have h := h.1 hc
      refine lv_iload_n C.1 C.2.1 dX7_skipBlanks_36 rfl (lv_at hl 1 rfl) ?_
      exact z_ri C hr hlk rfl hP hS h dX7_skipBlanks_37
    · have h := h.2 hc
      refine lv_aload_n C.1 C.2.1 dX7_skipBlanks_10 rfl (lv_at hl 0 rfl) ?_
      refine lv_iload_n C.1 C.2.1 dX7_skipBlanks_11 rfl (lv_at hl 1 rfl) ?_
      refine z_ki hS (z_runV (As := [.int v2]) (rest := []) C hP hS (m5 hp1 hL) (e5 hp1) rfl (tX6_byteAt C.2.2.2.2.2.2.1 (hL.mo (Nat.le_of_ble_eq_true rfl) (Nat.le_of_ble_eq_true rfl)) hp1 h) q459 q460 q461 q106 q462 hdX6_byteAt ⟨Nat.le_of_ble_eq_true rfl, Nat.le_of_ble_eq_true rfl⟩ ⟨Nat.zero_le _, Nat.zero_le _⟩ rfl hl.1 rfl (lv_room (Nat.le_of_ble_eq_true rfl)) dX7_skipBlanks_12) (fun r2 st1 H locs h hP hS => ?_)
      refine lv_bipush C.1 C.2.1 (v := 32) dX7_skipBlanks_15 rfl ?_
      refine lv_icmp_eq C.1 C.2.1 (tgt := 30) dX7_skipBlanks_17 (by decide) (fun hc => ?_) (fun hc => ?_)
      · have h := h.1 hc
        exact tX7_skipBlanks_L30 hL C hr hlk hp1 hR2 _ _ _ h hl hP hS
      · have h := h.2 hc
        refine lv_aload_n C.1 C.2.1 dX7_skipBlanks_20 rfl (lv_at hl 0 rfl) ?_
        refine lv_iload_n C.1 C.2.1 dX7_skipBlanks_21 rfl (lv_at hl 1 rfl) ?_
        refine z_ki hS (z_runV (As := [.int v2]) (rest := []) C hP hS (m5 hp1 hL) (e5 hp1) rfl (tX6_byteAt C.2.2.2.2.2.2.1 (hL.mo (Nat.le_of_ble_eq_true rfl) (Nat.le_of_ble_eq_true rfl)) hp1 h) q459 q460 q461 q106 q462 hdX6_byteAt ⟨Nat.le_of_ble_eq_true rfl, Nat.le_of_ble_eq_true rfl⟩ ⟨Nat.zero_le _, Nat.zero_le _⟩ rfl hl.1 rfl (lv_room (Nat.le_of_ble_eq_true rfl)) dX7_skipBlanks_22) (fun r4 st3 H locs h hP hS => ?_)
        refine lv_bipush C.1 C.2.1 (v := 10) dX7_skipBlanks_25 rfl ?_
        refine lv_icmp_ne C.1 C.2.1 (tgt := 36) dX7_skipBlanks_27 (by decide) (fun hc => ?_) (fun hc => ?_)
        · have h := h.1 hc
          refine lv_iload_n C.1 C.2.1 dX7_skipBlanks_36 rfl (lv_at hl 1 rfl) ?_
          exact z_ri C hr hlk rfl hP hS h dX7_skipBlanks_37
        · have h := h.2 hc
          exact tX7_skipBlanks_L30 hL C hr hlk hp1 hR2 _ _ _ h hl hP hS
set_option maxHeartbeats 4000000 in
set_option maxRecDepth 100000 in
theorem tX7_skipBlanks {l : Launch} {E : En0} {L : List Nat} (hE : EK E L) (hL : Cov 0 54 L) {p1 : Nat} {p2 : Int32} {st : St} {Q : Int32 → St → Prop} (hp1 : kd p1 = 5) (h : wX7_skipBlanks p1 p2 st Q) : Mz l yX7_skipBlanks cX7_skipBlanks 3 (some .int) rmX7_skipBlanks E L [.ref (E.2.1 p1), .int p2] st (zI E L Q) := by
  refine Mz.of hE (by decide) (Nat.le_of_ble_eq_true rfl) ?_
  intro p e s m below meth c ls C hr hlk _ hl hP
  replace C : Cx E L "PlankBridge$Tokens" cX7_skipBlanks 3 p s m _ c := C
  have hS : va_S (fA E L s.heap.size) s.heap s.heap [] := va_S.rf
  replace hl : lv_has ls 3 [(0, .ref (E.2.1 p1)), (1, .int p2)] := hl
  unfold wX7_skipBlanks at h
  refine lv_iload_n C.1 C.2.1 dX7_skipBlanks_0 rfl (lv_at hl 1 rfl) ?_
  refine lv_istore_n C.1 C.2.1 dX7_skipBlanks_1 rfl hl (Nat.le_of_ble_eq_true rfl) rfl (fun ls hl => ?_)
  have hl : lv_has ls 3 [(2, .int p2), (0, .ref (E.2.1 p1)), (1, .int p2)] := hl
  obtain ⟨n, h⟩ := h
  exact tX7_skipBlanks_L2 hL C hr hlk hp1 n p2 st _ _ _ h (lv_sub hl [1, 0] rfl) hP hS
def rmX7_findEnd : Room := { frames := 1, cells := 0, slots := 0, locals := 21 }
def wX7_findEnd_L49 (p1 : Nat) (p2 : Int32)  (R49 : Int32 × St → Prop) (v3 : Int32) (st : St) (Q : Int32 → St → Prop) : Prop :=
  (((gI st p1 1) ≤ v3 → Q v3 st) ∧ (¬ (gI st p1 1) ≤ v3 → (wX6_byteAt p1 v3 st (fun r9 st8 => (wX7_isDigit r9 st8 (fun r11 st10 => ((r11 = 0 → Q v3 st10) ∧ (¬ r11 = 0 → (∀ x12 : Int32, x12 = v3 + 1 → R49 (x12, st10))))))))))
def wX7_findEnd_L17 (p1 : Nat) (p2 : Int32)  (R17 : Int32 × St → Prop) (v3 : Int32) (st : St) (Q : Int32 → St → Prop) : Prop :=
  (((gI st p1 1) ≤ v3 → Q v3 st) ∧ (¬ (gI st p1 1) ≤ v3 → (wX6_byteAt p1 v3 st (fun r14 st13 => (wX7_isLetter r14 st13 (fun r16 st15 => ((r16 = 0 → Q v3 st15) ∧ (¬ r16 = 0 → (∀ x17 : Int32, x17 = v3 + 1 → R17 (x17, st15))))))))))
def wX7_findEnd (p1 : Nat) (p2 : Int32) (st : St) (Q : Int32 → St → Prop) : Prop :=
  (wX6_byteAt p1 p2 st (fun r2 st1 => (∀ x3 : Int32, x3 = (p2 + 1) → (wX7_isLetter r2 st1 (fun r5 st4 => ((r5 = 0 → (wX7_isDigit r2 st4 (fun r7 st6 => ((r7 = 0 → Q x3 st6) ∧ (¬ r7 = 0 → (∃ n, lp (fun R s => wX7_findEnd_L49 p1 p2 R s.1 s.2 Q) n (x3, st6))))))) ∧ (¬ r5 = 0 → (∃ n, lp (fun R s => wX7_findEnd_L17 p1 p2 R s.1 s.2 Q) n (x3, st4)))))))))
theorem hdX7_findEnd : yX7_findEnd.cls ≠ "java/lang/invoke/MethodHandle" ∧ yX7_findEnd.cls ≠ "java/lang/invoke/VarHandle" ∧ (parseMethodDescriptor yX7_findEnd.desc).map (fun d => d.parameters.length) = some 2 := by decide +kernel
set_option maxHeartbeats 4000000 in
set_option maxRecDepth 100000 in
theorem tX7_findEnd_L49 {l : Launch} {p : Program} {e : Env} {s : State} {m : MethodId} {args : Array Value} {below : List Frame} {meth : Method} {c : Code} {E : En0} {L : List Nat} (hL : Cov 0 54 L) (C : Cx E L "PlankBridge$Tokens" cX7_findEnd 4 p s m args c) (hr : meth.sig.returnType = (some .int)) (hlk : meth.locks = false) {p1 : Nat} {p2 : Int32} {Q : Int32 → St → Prop} (hp1 : kd p1 = 5) : ∀ (n : Nat) (v3 : Int32) (st : St) (H : Heap) (locs : List Loc) (ls : Array Slot), lp (fun R s => wX7_findEnd_L49 p1 p2 R s.1 s.2 Q) n (v3, st) → lv_has ls 4 [(0, .ref (E.2.1 p1)), (3, .int v3)] → va_P E.1 vwCl (wd E L st) H → va_S (fA E L s.heap.size) s.heap H locs → W p l e rmX7_findEnd s m args below meth c H locs 0 0 (MQ below (zI E L Q (fA E L s.heap.size)) args s rmX7_findEnd.cells rmX7_findEnd.slots (fA E L s.heap.size)) (F0 m 49 ls []) := by
  intro n
  induction n with
  | zero => exact fun _ _ _ _ _ h _ _ _ => False.elim ‹_›
  | succ n ih =>
    intro v3 st  H locs ls h hl hP hS
    have hR49 := ih
    replace h : wX7_findEnd_L49 p1 p2 (lp (fun R s => wX7_findEnd_L49 p1 p2 R s.1 s.2 Q) n) v3 st Q := h
    unfold wX7_findEnd_L49 at h
    refine lv_iload_n C.1 C.2.1 dX7_findEnd_49 rfl (lv_at hl 1 rfl) ?_
    refine lv_aload_n C.1 C.2.1 dX7_findEnd_50 rfl (lv_at hl 0 rfl) ?_
    refine gn5_1 C hP hp1 (m5 hp1 hL) q149 dX7_findEnd_51 ?_
    refine lv_icmp_ge C.1 C.2.1 (tgt := 74) dX7_findEnd_54 (by decide) (fun hc => ?_) (fun hc => ?_)
    · have h := h.1 hc
      refine lv_iload_n C.1 C.2.1 dX7_findEnd_74 rfl (lv_at hl 1 rfl) ?_
      exact z_ri C hr hlk rfl hP hS h dX7_findEnd_75
    · have h := h.2 hc
      refine lv_aload_n C.1 C.2.1 dX7_findEnd_57 rfl (lv_at hl 0 rfl) ?_
      refine lv_iload_n C.1 C.2.1 dX7_findEnd_58 rfl (lv_at hl 1 rfl) ?_
      refine z_ki hS (z_runV (As := [.int v3]) (rest := []) C hP hS (m5 hp1 hL) (e5 hp1) rfl (tX6_byteAt C.2.2.2.2.2.2.1 (hL.mo (Nat.le_of_ble_eq_true rfl) (Nat.le_of_ble_eq_true rfl)) hp1 h) q459 q460 q461 q106 q462 hdX6_byteAt ⟨Nat.le_of_ble_eq_true rfl, Nat.le_of_ble_eq_true rfl⟩ ⟨Nat.zero_le _, Nat.zero_le _⟩ rfl hl.1 rfl (lv_room (Nat.le_of_ble_eq_true rfl)) dX7_findEnd_59) (fun r9 st8 H locs h hP hS => ?_)
      refine z_ki hS (z_runS (As := [.int r9]) (rest := []) C hP hS (tX7_isDigit C.2.2.2.2.2.2.1 (hL.mo (Nat.le_of_ble_eq_true rfl) (Nat.le_of_ble_eq_true rfl))  h) q469 q470 q108 q471 hdX7_isDigit ⟨Nat.le_of_ble_eq_true rfl, Nat.le_of_ble_eq_true rfl⟩ ⟨Nat.zero_le _, Nat.zero_le _⟩ rfl hl.1 rfl (lv_room (Nat.le_of_ble_eq_true rfl)) dX7_findEnd_62) (fun r11 st10 H locs h hP hS => ?_)
      obtain ⟨hr11, h⟩ := h
      refine lv_if_eq C.1 C.2.1 (tgt := 74) dX7_findEnd_65 (by decide) (fun hc => ?_) (fun hc => ?_)
      · have h := h.1 hc
        refine lv_iload_n C.1 C.2.1 dX7_findEnd_74 rfl (lv_at hl 1 rfl) ?_
        exact z_ri C hr hlk rfl hP hS h dX7_findEnd_75
      · have h := h.2 hc
        obtain ⟨x12, ex12⟩ : ∃ z, z = v3 + 1 := ⟨_, rfl⟩
        have h := h x12 ex12
        refine lv_iinc C.1 C.2.1 dX7_findEnd_68 hl (k := 1) rfl ex12.symm (Nat.le_of_ble_eq_true rfl) rfl (fun ls hl => ?_)
        have hl : lv_has ls 4 [(3, .int x12), (0, .ref (E.2.1 p1))] := hl
        refine lv_goto C.1 C.2.1 (tgt := 49) dX7_findEnd_71 (by decide) ?_
        exact hR49 x12 st10 _ _ _ h (lv_sub hl [1, 0] rfl) hP hS
set_option maxHeartbeats 4000000 in
set_option maxRecDepth 100000 in
theorem tX7_findEnd_L17 {l : Launch} {p : Program} {e : Env} {s : State} {m : MethodId} {args : Array Value} {below : List Frame} {meth : Method} {c : Code} {E : En0} {L : List Nat} (hL : Cov 0 54 L) (C : Cx E L "PlankBridge$Tokens" cX7_findEnd 4 p s m args c) (hr : meth.sig.returnType = (some .int)) (hlk : meth.locks = false) {p1 : Nat} {p2 : Int32} {Q : Int32 → St → Prop} (hp1 : kd p1 = 5) : ∀ (n : Nat) (v3 : Int32) (st : St) (H : Heap) (locs : List Loc) (ls : Array Slot), lp (fun R s => wX7_findEnd_L17 p1 p2 R s.1 s.2 Q) n (v3, st) → lv_has ls 4 [(0, .ref (E.2.1 p1)), (3, .int v3)] → va_P E.1 vwCl (wd E L st) H → va_S (fA E L s.heap.size) s.heap H locs → W p l e rmX7_findEnd s m args below meth c H locs 0 0 (MQ below (zI E L Q (fA E L s.heap.size)) args s rmX7_findEnd.cells rmX7_findEnd.slots (fA E L s.heap.size)) (F0 m 17 ls []) := by
  intro n
  induction n with
  | zero => exact fun _ _ _ _ _ h _ _ _ => False.elim ‹_›
  | succ n ih =>
    intro v3 st  H locs ls h hl hP hS
    have hR17 := ih
    replace h : wX7_findEnd_L17 p1 p2 (lp (fun R s => wX7_findEnd_L17 p1 p2 R s.1 s.2 Q) n) v3 st Q := h
    unfold wX7_findEnd_L17 at h
    refine lv_iload_n C.1 C.2.1 dX7_findEnd_17 rfl (lv_at hl 1 rfl) ?_
    refine lv_aload_n C.1 C.2.1 dX7_findEnd_18 rfl (lv_at hl 0 rfl) ?_
    refine gn5_1 C hP hp1 (m5 hp1 hL) q149 dX7_findEnd_19 ?_
    refine lv_icmp_ge C.1 C.2.1 (tgt := 74) dX7_findEnd_22 (by decide) (fun hc => ?_) (fun hc => ?_)
    · have h := h.1 hc
      refine lv_iload_n C.1 C.2.1 dX7_findEnd_74 rfl (lv_at hl 1 rfl) ?_
      exact z_ri C hr hlk rfl hP hS h dX7_findEnd_75
    · have h := h.2 hc
      refine lv_aload_n C.1 C.2.1 dX7_findEnd_25 rfl (lv_at hl 0 rfl) ?_
      refine lv_iload_n C.1 C.2.1 dX7_findEnd_26 rfl (lv_at hl 1 rfl) ?_
      refine z_ki hS (z_runV (As := [.int v3]) (rest := []) C hP hS (m5 hp1 hL) (e5 hp1) rfl (tX6_byteAt C.2.2.2.2.2.2.1 (hL.mo (Nat.le_of_ble_eq_true rfl) (Nat.le_of_ble_eq_true rfl)) hp1 h) q459 q460 q461 q106 q462 hdX6_byteAt ⟨Nat.le_of_ble_eq_true rfl, Nat.le_of_ble_eq_true rfl⟩ ⟨Nat.zero_le _, Nat.zero_le _⟩ rfl hl.1 rfl (lv_room (Nat.le_of_ble_eq_true rfl)) dX7_findEnd_27) (fun r14 st13 H locs h hP hS => ?_)
      refine z_ki hS (z_runS (As := [.int r14]) (rest := []) C hP hS (tX7_isLetter C.2.2.2.2.2.2.1 (hL.mo (Nat.le_of_ble_eq_true rfl) (Nat.le_of_ble_eq_true rfl))  h) q466 q467 q108 q468 hdX7_isLetter ⟨Nat.le_of_ble_eq_true rfl, Nat.le_of_ble_eq_true rfl⟩ ⟨Nat.zero_le _, Nat.zero_le _⟩ rfl hl.1 rfl (lv_room (Nat.le_of_ble_eq_true rfl)) dX7_findEnd_30) (fun r16 st15 H locs h hP hS => ?_)
      obtain ⟨hr16, h⟩ := h
      refine lv_if_eq C.1 C.2.1 (tgt := 74) dX7_findEnd_33 (by decide) (fun hc => ?_) (fun hc => ?_)
      · have h := h.1 hc
        refine lv_iload_n C.1 C.2.1 dX7_findEnd_74 rfl (lv_at hl 1 rfl) ?_
        exact z_ri C hr hlk rfl hP hS h dX7_findEnd_75
      · have h := h.2 hc
        obtain ⟨x17, ex17⟩ : ∃ z, z = v3 + 1 := ⟨_, rfl⟩
        have h := h x17 ex17
        refine lv_iinc C.1 C.2.1 dX7_findEnd_36 hl (k := 1) rfl ex17.symm (Nat.le_of_ble_eq_true rfl) rfl (fun ls hl => ?_)
        have hl : lv_has ls 4 [(3, .int x17), (0, .ref (E.2.1 p1))] := hl
        refine lv_goto C.1 C.2.1 (tgt := 17) dX7_findEnd_39 (by decide) ?_
        exact hR17 x17 st15 _ _ _ h (lv_sub hl [1, 0] rfl) hP hS
set_option maxHeartbeats 4000000 in
set_option maxRecDepth 100000 in
theorem tX7_findEnd {l : Launch} {E : En0} {L : List Nat} (hE : EK E L) (hL : Cov 0 54 L) {p1 : Nat} {p2 : Int32} {st : St} {Q : Int32 → St → Prop} (hp1 : kd p1 = 5) (h : wX7_findEnd p1 p2 st Q) : Mz l yX7_findEnd cX7_findEnd 4 (some .int) rmX7_findEnd E L [.ref (E.2.1 p1), .int p2] st (zI E L Q) := by
  refine Mz.of hE (by decide) (Nat.le_of_ble_eq_true rfl) ?_
  intro p e s m below meth c ls C hr hlk _ hl hP
  replace C : Cx E L "PlankBridge$Tokens" cX7_findEnd 4 p s m _ c := C
  have hS : va_S (fA E L s.heap.size) s.heap s.heap [] := va_S.rf
  replace hl : lv_has ls 4 [(0, .ref (E.2.1 p1)), (1, .int p2)] := hl
  unfold wX7_findEnd at h
  refine lv_aload_n C.1 C.2.1 dX7_findEnd_0 rfl (lv_at hl 0 rfl) ?_
  refine lv_iload_n C.1 C.2.1 dX7_findEnd_1 rfl (lv_at hl 1 rfl) ?_
  refine z_ki hS (z_runV (As := [.int p2]) (rest := []) C hP hS (m5 hp1 hL) (e5 hp1) rfl (tX6_byteAt C.2.2.2.2.2.2.1 (hL.mo (Nat.le_of_ble_eq_true rfl) (Nat.le_of_ble_eq_true rfl)) hp1 h) q459 q460 q461 q106 q462 hdX6_byteAt ⟨Nat.le_of_ble_eq_true rfl, Nat.le_of_ble_eq_true rfl⟩ ⟨Nat.zero_le _, Nat.zero_le _⟩ rfl hl.1 rfl (lv_room (Nat.le_of_ble_eq_true rfl)) dX7_findEnd_2) (fun r2 st1 H locs h hP hS => ?_)
  refine lv_istore_n C.1 C.2.1 dX7_findEnd_5 rfl hl (Nat.le_of_ble_eq_true rfl) rfl (fun ls hl => ?_)
  have hl : lv_has ls 4 [(2, .int r2), (0, .ref (E.2.1 p1)), (1, .int p2)] := hl
  refine lv_iload_n C.1 C.2.1 dX7_findEnd_6 rfl (lv_at hl 2 rfl) ?_
  refine lv_iconst C.1 C.2.1 (v := 1) dX7_findEnd_7 rfl ?_
  refine lv_iadd C.1 C.2.1 dX7_findEnd_8  ?_
  refine lv_topi (fun x3 ex3 => ?_)
  have h := h x3 ex3
  refine lv_istore_n C.1 C.2.1 dX7_findEnd_9 rfl hl (Nat.le_of_ble_eq_true rfl) rfl (fun ls hl => ?_)
  have hl : lv_has ls 4 [(3, .int x3), (2, .int r2), (0, .ref (E.2.1 p1)), (1, .int p2)] := hl
  refine lv_iload_n C.1 C.2.1 dX7_findEnd_10 rfl (lv_at hl 1 rfl) ?_
  refine z_ki hS (z_runS (As := [.int r2]) (rest := []) C hP hS (tX7_isLetter C.2.2.2.2.2.2.1 (hL.mo (Nat.le_of_ble_eq_true rfl) (Nat.le_of_ble_eq_true rfl))  h) q466 q467 q108 q468 hdX7_isLetter ⟨Nat.le_of_ble_eq_true rfl, Nat.le_of_ble_eq_true rfl⟩ ⟨Nat.zero_le _, Nat.zero_le _⟩ rfl hl.1 rfl (lv_room (Nat.le_of_ble_eq_true rfl)) dX7_findEnd_11) (fun r5 st4 H locs h hP hS => ?_)
  obtain ⟨hr5, h⟩ := h
  refine lv_if_eq C.1 C.2.1 (tgt := 42) dX7_findEnd_14 (by decide) (fun hc => ?_) (fun hc => ?_)
  · have h := h.1 hc
    refine lv_iload_n C.1 C.2.1 dX7_findEnd_42 rfl (lv_at hl 1 rfl) ?_
    refine z_ki hS (z_runS (As := [.int r2]) (rest := []) C hP hS (tX7_isDigit C.2.2.2.2.2.2.1 (hL.mo (Nat.le_of_ble_eq_true rfl) (Nat.le_of_ble_eq_true rfl))  h) q469 q470 q108 q471 hdX7_isDigit ⟨Nat.le_of_ble_eq_true rfl, Nat.le_of_ble_eq_true rfl⟩ ⟨Nat.zero_le _, Nat.zero_le _⟩ rfl hl.1 rfl (lv_room (Nat.le_of_ble_eq_true rfl)) dX7_findEnd_43) (fun r7 st6 H locs h hP hS => ?_)
    obtain ⟨hr7, h⟩ := h
    refine lv_if_eq C.1 C.2.1 (tgt := 74) dX7_findEnd_46 (by decide) (fun hc => ?_) (fun hc => ?_)
    · have h := h.1 hc
      refine lv_iload_n C.1 C.2.1 dX7_findEnd_74 rfl (lv_at hl 0 rfl) ?_
      exact z_ri C hr hlk rfl hP hS h dX7_findEnd_75
    · have h := h.2 hc
      obtain ⟨n, h⟩ := h
      exact tX7_findEnd_L49 hL C hr hlk hp1 n x3 st6 _ _ _ h (lv_sub hl [2, 0] rfl) hP hS
  · have h := h.2 hc
    obtain ⟨n, h⟩ := h
    exact tX7_findEnd_L17 hL C hr hlk hp1 n x3 st4 _ _ _ h (lv_sub hl [2, 0] rfl) hP hS
def rmX7_codeOf : Room := { frames := 1, cells := 0, slots := 0, locals := 22 }
def wX7_codeOf_L5 (p1 : Nat) (p2 : Int32) (p3 : Int32)  (R5 : Int32 × Int64 × Int32 × St → Prop) (v2 : Int32) (v3 : Int64) (v5 : Int32) (st : St) (Q : Int64 → St → Prop) : Prop :=
  ((v2 ≤ v5 → Q v3 st) ∧ (¬ v2 ≤ v5 → (wX6_byteAt p1 v5 st (fun r2 st1 => (wX3_withSign v3 r2 st1 (fun r4 st3 => (∀ x5 : Int32, x5 = v5 + 1 → R5 (v2, r4, x5, st3))))))))
def wX7_codeOf (p1 : Nat) (p2 : Int32) (p3 : Int32) (st : St) (Q : Int64 → St → Prop) : Prop :=
  (∃ n, lp (fun R s => wX7_codeOf_L5 p1 p2 p3 R s.1 s.2.1 s.2.2.1 s.2.2.2 Q) n (p3, 1, p2, st))
theorem hdX7_codeOf : yX7_codeOf.cls ≠ "java/lang/invoke/MethodHandle" ∧ yX7_codeOf.cls ≠ "java/lang/invoke/VarHandle" ∧ (parseMethodDescriptor yX7_codeOf.desc).map (fun d => d.parameters.length) = some 3 := by decide +kernel
set_option maxHeartbeats 4000000 in
set_option maxRecDepth 100000 in
theorem tX7_codeOf_L5 {l : Launch} {p : Program} {e : Env} {s : State} {m : MethodId} {args : Array Value} {below : List Frame} {meth : Method} {c : Code} {E : En0} {L : List Nat} (hL : Cov 0 54 L) (C : Cx E L "PlankBridge$Tokens" cX7_codeOf 6 p s m args c) (hr : meth.sig.returnType = (some .long)) (hlk : meth.locks = false) {p1 : Nat} {p2 : Int32} {p3 : Int32} {Q : Int64 → St → Prop} (hp1 : kd p1 = 5) : ∀ (n : Nat) (v2 : Int32) (v3 : Int64) (v5 : Int32) (st : St) (H : Heap) (locs : List Loc) (ls : Array Slot), lp (fun R s => wX7_codeOf_L5 p1 p2 p3 R s.1 s.2.1 s.2.2.1 s.2.2.2 Q) n (v2, v3, v5, st) → lv_has ls 6 [(0, .ref (E.2.1 p1)), (2, .int v2), (3, .long v3), (5, .int v5)] → va_P E.1 vwCl (wd E L st) H → va_S (fA E L s.heap.size) s.heap H locs → W p l e rmX7_codeOf s m args below meth c H locs 0 0 (MQ below (zJ E L Q (fA E L s.heap.size)) args s rmX7_codeOf.cells rmX7_codeOf.slots (fA E L s.heap.size)) (F0 m 5 ls []) := by
  intro n
  induction n with
  | zero => exact fun _ _ _ _ _ _ _ h _ _ _ => False.elim ‹_›
  | succ n ih =>
    intro v2 v3 v5 st  H locs ls h hl hP hS
    have hR5 := ih
    replace h : wX7_codeOf_L5 p1 p2 p3 (lp (fun R s => wX7_codeOf_L5 p1 p2 p3 R s.1 s.2.1 s.2.2.1 s.2.2.2 Q) n) v2 v3 v5 st Q := h
    unfold wX7_codeOf_L5 at h
    refine lv_iload C.1 C.2.1 dX7_codeOf_5 (lv_at hl 3 rfl) ?_
    refine lv_iload_n C.1 C.2.1 dX7_codeOf_7 rfl (lv_at hl 1 rfl) ?_
    refine lv_icmp_ge C.1 C.2.1 (tgt := 28) dX7_codeOf_8 (by decide) (fun hc => ?_) (fun hc => ?_)
    · have h := h.1 hc
      refine lv_lload_n C.1 C.2.1 dX7_codeOf_28 rfl (lv_at hl 2 rfl) ?_
      exact z_rj C hr hlk hP hS h dX7_codeOf_29
    · have h := h.2 hc
      refine lv_lload_n C.1 C.2.1 dX7_codeOf_11 rfl (lv_at hl 2 rfl) ?_
      refine lv_aload_n C.1 C.2.1 dX7_codeOf_12 rfl (lv_at hl 0 rfl) ?_
      refine lv_iload C.1 C.2.1 dX7_codeOf_13 (lv_at hl 3 rfl) ?_
      refine z_ki hS (z_runV (As := [.int v5]) (rest := [.long v3]) C hP hS (m5 hp1 hL) (e5 hp1) rfl (tX6_byteAt C.2.2.2.2.2.2.1 (hL.mo (Nat.le_of_ble_eq_true rfl) (Nat.le_of_ble_eq_true rfl)) hp1 h) q459 q460 q461 q106 q462 hdX6_byteAt ⟨Nat.le_of_ble_eq_true rfl, Nat.le_of_ble_eq_true rfl⟩ ⟨Nat.zero_le _, Nat.zero_le _⟩ rfl hl.1 rfl (lv_room (Nat.le_of_ble_eq_true rfl)) dX7_codeOf_15) (fun r2 st1 H locs h hP hS => ?_)
      refine z_kj hS (z_runS (As := [.long v3, .int r2]) (rest := []) C hP hS (tX3_withSign C.2.2.2.2.2.2.1 (hL.mo (Nat.le_of_ble_eq_true rfl) (Nat.le_of_ble_eq_true rfl))  h) q478 q479 q111 q480 hdX3_withSign ⟨Nat.le_of_ble_eq_true rfl, Nat.le_of_ble_eq_true rfl⟩ ⟨Nat.zero_le _, Nat.zero_le _⟩ rfl hl.1 rfl (lv_room (Nat.le_of_ble_eq_true rfl)) dX7_codeOf_18) (fun r4 st3 H locs h hP hS => ?_)
      refine lv_lstore_n C.1 C.2.1 dX7_codeOf_21 rfl hl (Nat.le_of_ble_eq_true rfl) rfl (fun ls hl => ?_)
      have hl : lv_has ls 6 [(3, .long r4), (0, .ref (E.2.1 p1)), (2, .int v2), (5, .int v5)] := hl
      obtain ⟨x5, ex5⟩ : ∃ z, z = v5 + 1 := ⟨_, rfl⟩
      have h := h x5 ex5
      refine lv_iinc C.1 C.2.1 dX7_codeOf_22 hl (k := 3) rfl ex5.symm (Nat.le_of_ble_eq_true rfl) rfl (fun ls hl => ?_)
      have hl : lv_has ls 6 [(5, .int x5), (3, .long r4), (0, .ref (E.2.1 p1)), (2, .int v2)] := hl
      refine lv_goto C.1 C.2.1 (tgt := 5) dX7_codeOf_25 (by decide) ?_
      exact hR5 v2 r4 x5 st3 _ _ _ h (lv_sub hl [2, 3, 1, 0] rfl) hP hS
set_option maxHeartbeats 4000000 in
set_option maxRecDepth 100000 in
theorem tX7_codeOf {l : Launch} {E : En0} {L : List Nat} (hE : EK E L) (hL : Cov 0 54 L) {p1 : Nat} {p2 : Int32} {p3 : Int32} {st : St} {Q : Int64 → St → Prop} (hp1 : kd p1 = 5) (h : wX7_codeOf p1 p2 p3 st Q) : Mz l yX7_codeOf cX7_codeOf 6 (some .long) rmX7_codeOf E L [.ref (E.2.1 p1), .int p2, .int p3] st (zJ E L Q) := by
  refine Mz.of hE (by decide) (Nat.le_of_ble_eq_true rfl) ?_
  intro p e s m below meth c ls C hr hlk _ hl hP
  replace C : Cx E L "PlankBridge$Tokens" cX7_codeOf 6 p s m _ c := C
  have hS : va_S (fA E L s.heap.size) s.heap s.heap [] := va_S.rf
  replace hl : lv_has ls 6 [(0, .ref (E.2.1 p1)), (1, .int p2), (2, .int p3)] := hl
  unfold wX7_codeOf at h
  refine lv_lconst C.1 C.2.1 (v := 1) dX7_codeOf_0 rfl ?_
  refine lv_lstore_n C.1 C.2.1 dX7_codeOf_1 rfl hl (Nat.le_of_ble_eq_true rfl) rfl (fun ls hl => ?_)
  have hl : lv_has ls 6 [(3, .long 1), (0, .ref (E.2.1 p1)), (1, .int p2), (2, .int p3)] := hl
  refine lv_iload_n C.1 C.2.1 dX7_codeOf_2 rfl (lv_at hl 2 rfl) ?_
  refine lv_istore C.1 C.2.1 dX7_codeOf_3 hl (Nat.le_of_ble_eq_true rfl) rfl (fun ls hl => ?_)
  have hl : lv_has ls 6 [(5, .int p2), (3, .long 1), (0, .ref (E.2.1 p1)), (1, .int p2), (2, .int p3)] := hl
  obtain ⟨n, h⟩ := h
  exact tX7_codeOf_L5 hL C hr hlk hp1 n p3 1 p2 st _ _ _ h (lv_sub hl [2, 4, 1, 0] rfl) hP hS
def rmX7_valueOf : Room := { frames := 1, cells := 0, slots := 0, locals := 21 }
def wX7_valueOf_L5 (p1 : Nat) (p2 : Int32) (p3 : Int32)  (R5 : Int32 × Int32 × Int32 × St → Prop) (v2 : Int32) (v3 : Int32) (v4 : Int32) (st : St) (Q : Int32 → St → Prop) : Prop :=
  ((v2 ≤ v4 → Q v3 st) ∧ (¬ v2 ≤ v4 → (wX6_byteAt p1 v4 st (fun r2 st1 => (∀ x3 : Int32, x3 = (((v3 * 10) + r2) - 48) → (∀ x4 : Int32, x4 = v4 + 1 → R5 (v2, x3, x4, st1)))))))
def wX7_valueOf (p1 : Nat) (p2 : Int32) (p3 : Int32) (st : St) (Q : Int32 → St → Prop) : Prop :=
  (∃ n, lp (fun R s => wX7_valueOf_L5 p1 p2 p3 R s.1 s.2.1 s.2.2.1 s.2.2.2 Q) n (p3, 0, p2, st))
theorem hdX7_valueOf : yX7_valueOf.cls ≠ "java/lang/invoke/MethodHandle" ∧ yX7_valueOf.cls ≠ "java/lang/invoke/VarHandle" ∧ (parseMethodDescriptor yX7_valueOf.desc).map (fun d => d.parameters.length) = some 3 := by decide +kernel
set_option maxHeartbeats 4000000 in
set_option maxRecDepth 100000 in
theorem tX7_valueOf_L5 {l : Launch} {p : Program} {e : Env} {s : State} {m : MethodId} {args : Array Value} {below : List Frame} {meth : Method} {c : Code} {E : En0} {L : List Nat} (hL : Cov 0 54 L) (C : Cx E L "PlankBridge$Tokens" cX7_valueOf 5 p s m args c) (hr : meth.sig.returnType = (some .int)) (hlk : meth.locks = false) {p1 : Nat} {p2 : Int32} {p3 : Int32} {Q : Int32 → St → Prop} (hp1 : kd p1 = 5) : ∀ (n : Nat) (v2 : Int32) (v3 : Int32) (v4 : Int32) (st : St) (H : Heap) (locs : List Loc) (ls : Array Slot), lp (fun R s => wX7_valueOf_L5 p1 p2 p3 R s.1 s.2.1 s.2.2.1 s.2.2.2 Q) n (v2, v3, v4, st) → lv_has ls 5 [(0, .ref (E.2.1 p1)), (2, .int v2), (3, .int v3), (4, .int v4)] → va_P E.1 vwCl (wd E L st) H → va_S (fA E L s.heap.size) s.heap H locs → W p l e rmX7_valueOf s m args below meth c H locs 0 0 (MQ below (zI E L Q (fA E L s.heap.size)) args s rmX7_valueOf.cells rmX7_valueOf.slots (fA E L s.heap.size)) (F0 m 5 ls []) := by
  intro n
  induction n with
  | zero => exact fun _ _ _ _ _ _ _ h _ _ _ => False.elim ‹_›
  | succ n ih =>
    intro v2 v3 v4 st  H locs ls h hl hP hS
    have hR5 := ih
    replace h : wX7_valueOf_L5 p1 p2 p3 (lp (fun R s => wX7_valueOf_L5 p1 p2 p3 R s.1 s.2.1 s.2.2.1 s.2.2.2 Q) n) v2 v3 v4 st Q := h
    unfold wX7_valueOf_L5 at h
    refine lv_iload C.1 C.2.1 dX7_valueOf_5 (lv_at hl 3 rfl) ?_
    refine lv_iload_n C.1 C.2.1 dX7_valueOf_7 rfl (lv_at hl 1 rfl) ?_
    refine lv_icmp_ge C.1 C.2.1 (tgt := 32) dX7_valueOf_8 (by decide) (fun hc => ?_) (fun hc => ?_)
    · have h := h.1 hc
      refine lv_iload_n C.1 C.2.1 dX7_valueOf_32 rfl (lv_at hl 2 rfl) ?_
      exact z_ri C hr hlk rfl hP hS h dX7_valueOf_33
    · have h := h.2 hc
      refine lv_iload_n C.1 C.2.1 dX7_valueOf_11 rfl (lv_at hl 2 rfl) ?_
      refine lv_bipush C.1 C.2.1 (v := 10) dX7_valueOf_12 rfl ?_
      refine lv_imul C.1 C.2.1 dX7_valueOf_14  ?_
      refine lv_aload_n C.1 C.2.1 dX7_valueOf_15 rfl (lv_at hl 0 rfl) ?_
      refine lv_iload C.1 C.2.1 dX7_valueOf_16 (lv_at hl 3 rfl) ?_
      refine z_ki hS (z_runV (As := [.int v4]) (rest := [.int (v3 * 10)]) C hP hS (m5 hp1 hL) (e5 hp1) rfl (tX6_byteAt C.2.2.2.2.2.2.1 (hL.mo (Nat.le_of_ble_eq_true rfl) (Nat.le_of_ble_eq_true rfl)) hp1 h) q459 q460 q461 q106 q462 hdX6_byteAt ⟨Nat.le_of_ble_eq_true rfl, Nat.le_of_ble_eq_true rfl⟩ ⟨Nat.zero_le _, Nat.zero_le _⟩ rfl hl.1 rfl (lv_room (Nat.le_of_ble_eq_true rfl)) dX7_valueOf_18) (fun r2 st1 H locs h hP hS => ?_)
      refine lv_iadd C.1 C.2.1 dX7_valueOf_21  ?_
      refine lv_bipush C.1 C.2.1 (v := 48) dX7_valueOf_22 rfl ?_
      refine lv_isub C.1 C.2.1 dX7_valueOf_24  ?_
      refine lv_topi (fun x3 ex3 => ?_)
      have h := h x3 ex3
      refine lv_istore_n C.1 C.2.1 dX7_valueOf_25 rfl hl (Nat.le_of_ble_eq_true rfl) rfl (fun ls hl => ?_)
      have hl : lv_has ls 5 [(3, .int x3), (0, .ref (E.2.1 p1)), (2, .int v2), (4, .int v4)] := hl
      obtain ⟨x4, ex4⟩ : ∃ z, z = v4 + 1 := ⟨_, rfl⟩
      have h := h x4 ex4
      refine lv_iinc C.1 C.2.1 dX7_valueOf_26 hl (k := 3) rfl ex4.symm (Nat.le_of_ble_eq_true rfl) rfl (fun ls hl => ?_)
      have hl : lv_has ls 5 [(4, .int x4), (3, .int x3), (0, .ref (E.2.1 p1)), (2, .int v2)] := hl
      refine lv_goto C.1 C.2.1 (tgt := 5) dX7_valueOf_29 (by decide) ?_
      exact hR5 v2 x3 x4 st1 _ _ _ h (lv_sub hl [2, 3, 1, 0] rfl) hP hS
set_option maxHeartbeats 4000000 in
set_option maxRecDepth 100000 in
theorem tX7_valueOf {l : Launch} {E : En0} {L : List Nat} (hE : EK E L) (hL : Cov 0 54 L) {p1 : Nat} {p2 : Int32} {p3 : Int32} {st : St} {Q : Int32 → St → Prop} (hp1 : kd p1 = 5) (h : wX7_valueOf p1 p2 p3 st Q) : Mz l yX7_valueOf cX7_valueOf 5 (some .int) rmX7_valueOf E L [.ref (E.2.1 p1), .int p2, .int p3] st (zI E L Q) := by
  refine Mz.of hE (by decide) (Nat.le_of_ble_eq_true rfl) ?_
  intro p e s m below meth c ls C hr hlk _ hl hP
  replace C : Cx E L "PlankBridge$Tokens" cX7_valueOf 5 p s m _ c := C
  have hS : va_S (fA E L s.heap.size) s.heap s.heap [] := va_S.rf
  replace hl : lv_has ls 5 [(0, .ref (E.2.1 p1)), (1, .int p2), (2, .int p3)] := hl
  unfold wX7_valueOf at h
  refine lv_iconst C.1 C.2.1 (v := 0) dX7_valueOf_0 rfl ?_
  refine lv_istore_n C.1 C.2.1 dX7_valueOf_1 rfl hl (Nat.le_of_ble_eq_true rfl) rfl (fun ls hl => ?_)
  have hl : lv_has ls 5 [(3, .int 0), (0, .ref (E.2.1 p1)), (1, .int p2), (2, .int p3)] := hl
  refine lv_iload_n C.1 C.2.1 dX7_valueOf_2 rfl (lv_at hl 2 rfl) ?_
  refine lv_istore C.1 C.2.1 dX7_valueOf_3 hl (Nat.le_of_ble_eq_true rfl) rfl (fun ls hl => ?_)
  have hl : lv_has ls 5 [(4, .int p2), (3, .int 0), (0, .ref (E.2.1 p1)), (1, .int p2), (2, .int p3)] := hl
  obtain ⟨n, h⟩ := h
  exact tX7_valueOf_L5 hL C hr hlk hp1 n p3 0 p2 st _ _ _ h (lv_sub hl [2, 4, 1, 0] rfl) hP hS
def rmX7_kindOf : Room := { frames := 2, cells := 0, slots := 0, locals := 47 }
def wX7_kindOf (p1 : Nat) (p2 : Int32) (p3 : Int32) (st : St) (Q : Option Nat → St → Prop) : Prop :=
  ((p2 < (gI st p1 1) → (wX6_byteAt p1 p2 st (fun r2 st1 => (∀ x3 : Int32, x3 = (p3 - p2) → (wX7_isLetter r2 st1 (fun r5 st4 => ((r5 = 0 → (wX7_isDigit r2 st4 (fun r7 st6 => ((r7 = 0 → (wX7_codeOf p1 p2 p3 st6 (fun r9 st8 => (wX3_spelled r9 (some 1) st8 (fun r11 st10 => Q r11 st10))))) ∧ (¬ r7 = 0 → ((x3 ≤ 3 → Q (some 3) st6) ∧ (¬ x3 ≤ 3 → Q (some 1) st6))))))) ∧ (¬ r5 = 0 → ((x3 ≤ 8 → (wX7_codeOf p1 p2 p3 st4 (fun r13 st12 => (wX3_spelled r13 (some 2) st12 (fun r15 st14 => Q r15 st14))))) ∧ (¬ x3 ≤ 8 → Q (some 1) st4)))))))))) ∧ (¬ p2 < (gI st p1 1) → Q (some 0) st))
theorem hdX7_kindOf : yX7_kindOf.cls ≠ "java/lang/invoke/MethodHandle" ∧ yX7_kindOf.cls ≠ "java/lang/invoke/VarHandle" ∧ (parseMethodDescriptor yX7_kindOf.desc).map (fun d => d.parameters.length) = some 3 := by decide +kernel
set_option maxHeartbeats 4000000 in
set_option maxRecDepth 100000 in
theorem tX7_kindOf {l : Launch} {E : En0} {L : List Nat} (hE : EK E L) (hL : Cov 0 54 L) {p1 : Nat} {p2 : Int32} {p3 : Int32} {st : St} {Q : Option Nat → St → Prop} (hp1 : kd p1 = 5) (h : wX7_kindOf p1 p2 p3 st Q) : Mz l yX7_kindOf cX7_kindOf 5 (some (.object "PlankBridge$Kind")) rmX7_kindOf E L [.ref (E.2.1 p1), .int p2, .int p3] st (zK E L (fun r u => kin r ∧ Q r u)) := by
  refine Mz.of hE (by decide) (Nat.le_of_ble_eq_true rfl) ?_
  intro p e s m below meth c ls C hr hlk _ hl hP
  replace C : Cx E L "PlankBridge$Tokens" cX7_kindOf 5 p s m _ c := C
  have hS : va_S (fA E L s.heap.size) s.heap s.heap [] := va_S.rf
  replace hl : lv_has ls 5 [(0, .ref (E.2.1 p1)), (1, .int p2), (2, .int p3)] := hl
  unfold wX7_kindOf at h
  refine lv_iload_n C.1 C.2.1 dX7_kindOf_0 rfl (lv_at hl 1 rfl) ?_
  refine lv_aload_n C.1 C.2.1 dX7_kindOf_1 rfl (lv_at hl 0 rfl) ?_
  refine gn5_1 C hP hp1 (m5 hp1 hL) q149 dX7_kindOf_2 ?_
  refine lv_icmp_lt C.1 C.2.1 (tgt := 12) dX7_kindOf_5 (by decide) (fun hc => ?_) (fun hc => ?_)
  · have h := h.1 hc
    refine lv_aload_n C.1 C.2.1 dX7_kindOf_12 rfl (lv_at hl 0 rfl) ?_
    refine lv_iload_n C.1 C.2.1 dX7_kindOf_13 rfl (lv_at hl 1 rfl) ?_
    refine z_ki hS (z_runV (As := [.int p2]) (rest := []) C hP hS (m5 hp1 hL) (e5 hp1) rfl (tX6_byteAt C.2.2.2.2.2.2.1 (hL.mo (Nat.le_of_ble_eq_true rfl) (Nat.le_of_ble_eq_true rfl)) hp1 h) q459 q460 q461 q106 q462 hdX6_byteAt ⟨Nat.le_of_ble_eq_true rfl, Nat.le_of_ble_eq_true rfl⟩ ⟨Nat.zero_le _, Nat.zero_le _⟩ rfl hl.1 rfl (lv_room (Nat.le_of_ble_eq_true rfl)) dX7_kindOf_14) (fun r2 st1 H locs h hP hS => ?_)
    refine lv_istore_n C.1 C.2.1 dX7_kindOf_17 rfl hl (Nat.le_of_ble_eq_true rfl) rfl (fun ls hl => ?_)
    have hl : lv_has ls 5 [(3, .int r2), (0, .ref (E.2.1 p1)), (1, .int p2), (2, .int p3)] := hl
    refine lv_iload_n C.1 C.2.1 dX7_kindOf_18 rfl (lv_at hl 3 rfl) ?_
    refine lv_iload_n C.1 C.2.1 dX7_kindOf_19 rfl (lv_at hl 2 rfl) ?_
    refine lv_isub C.1 C.2.1 dX7_kindOf_20  ?_
    refine lv_topi (fun x3 ex3 => ?_)
    have h := h x3 ex3
    refine lv_istore C.1 C.2.1 dX7_kindOf_21 hl (Nat.le_of_ble_eq_true rfl) rfl (fun ls hl => ?_)
    have hl : lv_has ls 5 [(4, .int x3), (3, .int r2), (0, .ref (E.2.1 p1)), (1, .int p2), (2, .int p3)] := hl
    refine lv_iload_n C.1 C.2.1 dX7_kindOf_23 rfl (lv_at hl 1 rfl) ?_
    refine z_ki hS (z_runS (As := [.int r2]) (rest := []) C hP hS (tX7_isLetter C.2.2.2.2.2.2.1 (hL.mo (Nat.le_of_ble_eq_true rfl) (Nat.le_of_ble_eq_true rfl))  h) q466 q467 q108 q468 hdX7_isLetter ⟨Nat.le_of_ble_eq_true rfl, Nat.le_of_ble_eq_true rfl⟩ ⟨Nat.zero_le _, Nat.zero_le _⟩ rfl hl.1 rfl (lv_room (Nat.le_of_ble_eq_true rfl)) dX7_kindOf_24) (fun r5 st4 H locs h hP hS => ?_)
    obtain ⟨hr5, h⟩ := h
    refine lv_if_eq C.1 C.2.1 (tgt := 56) dX7_kindOf_27 (by decide) (fun hc => ?_) (fun hc => ?_)
    · have h := h.1 hc
      refine lv_iload_n C.1 C.2.1 dX7_kindOf_56 rfl (lv_at hl 1 rfl) ?_
      refine z_ki hS (z_runS (As := [.int r2]) (rest := []) C hP hS (tX7_isDigit C.2.2.2.2.2.2.1 (hL.mo (Nat.le_of_ble_eq_true rfl) (Nat.le_of_ble_eq_true rfl))  h) q469 q470 q108 q471 hdX7_isDigit ⟨Nat.le_of_ble_eq_true rfl, Nat.le_of_ble_eq_true rfl⟩ ⟨Nat.zero_le _, Nat.zero_le _⟩ rfl hl.1 rfl (lv_room (Nat.le_of_ble_eq_true rfl)) dX7_kindOf_57) (fun r7 st6 H locs h hP hS => ?_)
      obtain ⟨hr7, h⟩ := h
      refine lv_if_eq C.1 C.2.1 (tgt := 79) dX7_kindOf_60 (by decide) (fun hc => ?_) (fun hc => ?_)
      · have h := h.1 hc
        refine lv_aload_n C.1 C.2.1 dX7_kindOf_79 rfl (lv_at hl 2 rfl) ?_
        refine lv_iload_n C.1 C.2.1 dX7_kindOf_80 rfl (lv_at hl 3 rfl) ?_
        refine lv_iload_n C.1 C.2.1 dX7_kindOf_81 rfl (lv_at hl 4 rfl) ?_
        refine z_kj hS (z_runS (As := [.ref (E.2.1 p1), .int p2, .int p3]) (rest := []) C hP hS (tX7_codeOf C.2.2.2.2.2.2.1 (hL.mo (Nat.le_of_ble_eq_true rfl) (Nat.le_of_ble_eq_true rfl)) hp1 h) q475 q476 q108 q477 hdX7_codeOf ⟨Nat.le_of_ble_eq_true rfl, Nat.le_of_ble_eq_true rfl⟩ ⟨Nat.zero_le _, Nat.zero_le _⟩ rfl hl.1 rfl (lv_room (Nat.le_of_ble_eq_true rfl)) dX7_kindOf_82) (fun r9 st8 H locs h hP hS => ?_)
        refine z_kst C hS (i := 1) (by decide) rfl q455 dX7_kindOf_85 ?_
        refine z_ke hS (z_runS (As := [.long r9, va_re E.2.2.1 (some 1)]) (rest := []) C hP hS (tX3_spelled C.2.2.2.2.2.2.1 (hL.mo (Nat.le_of_ble_eq_true rfl) (Nat.le_of_ble_eq_true rfl))  h) q482 q483 q111 q484 hdX3_spelled ⟨Nat.le_of_ble_eq_true rfl, Nat.le_of_ble_eq_true rfl⟩ ⟨Nat.zero_le _, Nat.zero_le _⟩ rfl hl.1 rfl (lv_room (Nat.le_of_ble_eq_true rfl)) dX7_kindOf_88) (fun r11 st10 H locs h hP hS => ?_)
        obtain ⟨hr11, h⟩ := h
        exact z_re C hr hlk hP hS ⟨hr11, h⟩ dX7_kindOf_91
      · have h := h.2 hc
        refine lv_iload C.1 C.2.1 dX7_kindOf_63 (lv_at hl 0 rfl) ?_
        refine lv_iconst C.1 C.2.1 (v := 3) dX7_kindOf_65 rfl ?_
        refine lv_icmp_le C.1 C.2.1 (tgt := 75) dX7_kindOf_66 (by decide) (fun hc => ?_) (fun hc => ?_)
        · have h := h.1 hc
          refine z_kst C hS (i := 3) (by decide) rfl q487 dX7_kindOf_75 ?_
          exact z_re C hr hlk hP hS ⟨(kin_l (by decide)), h⟩ dX7_kindOf_78
        · have h := h.2 hc
          refine z_kst C hS (i := 1) (by decide) rfl q455 dX7_kindOf_69 ?_
          refine lv_goto C.1 C.2.1 (tgt := 78) dX7_kindOf_72 (by decide) ?_
          exact z_re C hr hlk hP hS ⟨(kin_l (by decide)), h⟩ dX7_kindOf_78
    · have h := h.2 hc
      refine lv_iload C.1 C.2.1 dX7_kindOf_30 (lv_at hl 0 rfl) ?_
      refine lv_bipush C.1 C.2.1 (v := 8) dX7_kindOf_32 rfl ?_
      refine lv_icmp_le C.1 C.2.1 (tgt := 43) dX7_kindOf_34 (by decide) (fun hc => ?_) (fun hc => ?_)
      · have h := h.1 hc
        refine lv_aload_n C.1 C.2.1 dX7_kindOf_43 rfl (lv_at hl 2 rfl) ?_
        refine lv_iload_n C.1 C.2.1 dX7_kindOf_44 rfl (lv_at hl 3 rfl) ?_
        refine lv_iload_n C.1 C.2.1 dX7_kindOf_45 rfl (lv_at hl 4 rfl) ?_
        refine z_kj hS (z_runS (As := [.ref (E.2.1 p1), .int p2, .int p3]) (rest := []) C hP hS (tX7_codeOf C.2.2.2.2.2.2.1 (hL.mo (Nat.le_of_ble_eq_true rfl) (Nat.le_of_ble_eq_true rfl)) hp1 h) q475 q476 q108 q477 hdX7_codeOf ⟨Nat.le_of_ble_eq_true rfl, Nat.le_of_ble_eq_true rfl⟩ ⟨Nat.zero_le _, Nat.zero_le _⟩ rfl hl.1 rfl (lv_room (Nat.le_of_ble_eq_true rfl)) dX7_kindOf_46) (fun r13 st12 H locs h hP hS => ?_)
        refine z_kst C hS (i := 2) (by decide) rfl q451 dX7_kindOf_49 ?_
        refine z_ke hS (z_runS (As := [.long r13, va_re E.2.2.1 (some 2)]) (rest := []) C hP hS (tX3_spelled C.2.2.2.2.2.2.1 (hL.mo (Nat.le_of_ble_eq_true rfl) (Nat.le_of_ble_eq_true rfl))  h) q482 q483 q111 q484 hdX3_spelled ⟨Nat.le_of_ble_eq_true rfl, Nat.le_of_ble_eq_true rfl⟩ ⟨Nat.zero_le _, Nat.zero_le _⟩ rfl hl.1 rfl (lv_room (Nat.le_of_ble_eq_true rfl)) dX7_kindOf_52) (fun r15 st14 H locs h hP hS => ?_)
        obtain ⟨hr15, h⟩ := h
        exact z_re C hr hlk hP hS ⟨hr15, h⟩ dX7_kindOf_55
      · have h := h.2 hc
        refine z_kst C hS (i := 1) (by decide) rfl q455 dX7_kindOf_37 ?_
        refine lv_goto C.1 C.2.1 (tgt := 55) dX7_kindOf_40 (by decide) ?_
        exact z_re C hr hlk hP hS ⟨(kin_l (by decide)), h⟩ dX7_kindOf_55
  · have h := h.2 hc
    refine z_kst C hS (i := 0) (by decide) rfl q453 dX7_kindOf_8 ?_
    exact z_re C hr hlk hP hS ⟨(kin_l (by decide)), h⟩ dX7_kindOf_11
def rmX7_scan : Room := { frames := 3, cells := 0, slots := 0, locals := 71 }
def wX7_scan_L144 (b : Nat) (p1 : Nat) (R14 : Int32 × (Option Nat) × Int32 × St → Prop) (v3 : Option Nat) (v4 : Int32) (v5 : Int32) (s0 : Int64) (s1 : Int32) (st : St) (Q : St → Prop) : Prop :=
  (vp_in s1 401 ∧ ∀ st19, st19 = uJ st (b + 4) (s1 : Int32).toNatClampNeg s0 → (∀ st20, st20 = uI st19 b 4 (v4 + 1) → (∀ x21 : Int32, x21 = v4 + 1 → R14 (v5, v3, x21, st20))))
def wX7_scan_L119 (b : Nat) (p1 : Nat) (R14 : Int32 × (Option Nat) × Int32 × St → Prop) (v2 : Int32) (v3 : Option Nat) (v4 : Int32) (v5 : Int32) (s0 : Int32) (s1 : Int32) (st : St) (Q : St → Prop) : Prop :=
  (vp_in s1 401 ∧ ∀ st15, st15 = uI st (b + 3) (s1 : Int32).toNatClampNeg s0 → (kin v3 ∧ (¬ v3 = ((some 2)) → wX7_scan_L144 b p1 R14 v3 v4 v5 0 v4 st15 Q) ∧ (v3 = ((some 2)) → (wX7_codeOf p1 v2 v5 st15 (fun r18 st17 => wX7_scan_L144 b p1 R14 v3 v4 v5 r18 v4 st17 Q)))))
def wX7_scan_L78 (b : Nat) (p1 : Nat) (R14 : Int32 × (Option Nat) × Int32 × St → Prop) (v2 : Int32) (v4 : Int32) (v5 : Int32) (s0 : Option Nat) (st : St) (Q : St → Prop) : Prop :=
  (vp_in v4 401 ∧ kin s0 ∧ ∀ st10, st10 = uK st (b + 1) (v4 : Int32).toNatClampNeg s0 → (vp_in v4 401 ∧ ∀ st11, st11 = uI st10 (b + 2) (v4 : Int32).toNatClampNeg v2 → (kin s0 ∧ (¬ s0 = ((some 3)) → wX7_scan_L119 b p1 R14 v2 s0 v4 v5 0 v4 st11 Q) ∧ (s0 = ((some 3)) → (wX7_valueOf p1 v2 v5 st11 (fun r14 st13 => wX7_scan_L119 b p1 R14 v2 s0 v4 v5 r14 v4 st13 Q))))))
def wX7_scan_L65 (b : Nat) (p1 : Nat) (R14 : Int32 × (Option Nat) × Int32 × St → Prop) (v2 : Int32) (v4 : Int32) (v5 : Int32) (st : St) (Q : St → Prop) : Prop :=
  (wX7_kindOf p1 v2 v5 st (fun r9 st8 => wX7_scan_L78 b p1 R14 v2 v4 v5 r9 st8 Q))
def wX7_scan_L14 (b : Nat) (p1 : Nat)  (R14 : Int32 × (Option Nat) × Int32 × St → Prop) (v2 : Int32) (v3 : Option Nat) (v4 : Int32) (st : St) (Q : St → Prop) : Prop :=
  ((400 < v4 → Q st) ∧ (¬ 400 < v4 → (kin v3 ∧ (v3 = ((some 0)) → Q st) ∧ (¬ v3 = ((some 0)) → (kin v3 ∧ (v3 = ((some 1)) → Q st) ∧ (¬ v3 = ((some 1)) → (wX7_skipBlanks p1 v2 st (fun r5 st4 => (wX7_findEnd p1 r5 st4 (fun r7 st6 => ((v4 < 400 → wX7_scan_L65 b p1 R14 r5 v4 r7 st6 Q) ∧ (¬ v4 < 400 → ((r5 < (gI st6 p1 1) → wX7_scan_L78 b p1 R14 r5 v4 r7 (some 1) st6 Q) ∧ (¬ r5 < (gI st6 p1 1) → wX7_scan_L65 b p1 R14 r5 v4 r7 st6 Q))))))))))))))
def wX7_scan (b : Nat) (p1 : Nat) (st : St) (Q : St → Prop) : Prop :=
  (∀ st1, st1 = uI st b 4 0 → (∃ n, lp (fun R s => wX7_scan_L14 b p1 R s.1 s.2.1 s.2.2.1 s.2.2.2 Q) n (0, (some 2), 0, st1)))
theorem hdX7_scan : yX7_scan.cls = "PlankBridge$Tokens" ∧ yX7_scan.cls ≠ "java/lang/invoke/MethodHandle" ∧ yX7_scan.cls ≠ "java/lang/invoke/VarHandle" ∧ (parseMethodDescriptor yX7_scan.desc).map (fun d => d.parameters.length) = some 1 := by decide +kernel
set_option maxHeartbeats 4000000 in
set_option maxRecDepth 100000 in
theorem tX7_scan_L144 {l : Launch} {p : Program} {e : Env} {s : State} {m : MethodId} {args : Array Value} {below : List Frame} {meth : Method} {c : Code} {E : En0} {L : List Nat} (hL : Cov 0 54 L) (C : Cx E L "PlankBridge$Tokens" cX7_scan 6 p s m args c) (hr : meth.sig.returnType = none) (hlk : meth.locks = false) {b : Nat} {p1 : Nat} {Q : St → Prop} (hb : kd b = 6) (hp1 : kd p1 = 5) {R14 : Int32 × (Option Nat) × Int32 × St → Prop} (hR14 : ∀ (v2 : Int32) (v3 : Option Nat) (v4 : Int32) (st : St), ∀ (H : Heap) (locs : List Loc) (ls : Array Slot), R14 (v2, v3, v4, st) → lv_has ls 6 [(0, .ref (E.2.1 b)), (1, .ref (E.2.1 p1)), (2, .int v2), (3, va_re E.2.2.1 v3), (4, .int v4)] → va_P E.1 vwCl (wd E L st) H → va_S (fA E L s.heap.size) s.heap H locs → W p l e rmX7_scan s m args below meth c H locs 0 0 (MQ below (zV E L Q (fA E L s.heap.size)) args s rmX7_scan.cells rmX7_scan.slots (fA E L s.heap.size)) (F0 m 14 ls [])) {v3 : Option Nat} {v4 : Int32} {v5 : Int32} {s0 : Int64} {s1 : Int32}  {st : St} (H : Heap) (locs : List Loc) (ls : Array Slot) (h : wX7_scan_L144 b p1 R14 v3 v4 v5 s0 s1 st Q) (hl : lv_has ls 6 [(0, .ref (E.2.1 b)), (1, .ref (E.2.1 p1)), (3, va_re E.2.2.1 v3), (4, .int v4), (5, .int v5)]) (hP : va_P E.1 vwCl (wd E L st) H) (hS : va_S (fA E L s.heap.size) s.heap H locs) : W p l e rmX7_scan s m args below meth c H locs 0 0 (MQ below (zV E L Q (fA E L s.heap.size)) args s rmX7_scan.cells rmX7_scan.slots (fA E L s.heap.size)) (F0 m 144 ls [.long s0, .int s1, .ref (E.2.1 ((b + 4)))]) := by
  unfold wX7_scan_L144 at h
  obtain ⟨hi, h⟩ := h
  refine z_last C hP hS (k6_4 hb) (l6_4 hb) (m6_4 hb hL) hi dX7_scan_144 (fun H locs hP hS => ?_)
  obtain ⟨st19, est19⟩ : ∃ z, z = uJ st (b + 4) (s1 : Int32).toNatClampNeg s0 := ⟨_, rfl⟩
  rw [← est19] at hP; have h := h st19 est19
  refine lv_aload_n C.1 C.2.1 dX7_scan_145 rfl (lv_at hl 0 rfl) ?_
  refine lv_iload C.1 C.2.1 dX7_scan_146 (lv_at hl 3 rfl) ?_
  refine lv_iconst C.1 C.2.1 (v := 1) dX7_scan_148 rfl ?_
  refine lv_iadd C.1 C.2.1 dX7_scan_149  ?_
  refine pf6_4 C hP hS hb (m6 hb hL) q175 dX7_scan_150 (fun H locs hP hS => ?_)
  obtain ⟨st20, est20⟩ : ∃ z, z = uI st19 b 4 (v4 + 1) := ⟨_, rfl⟩
  rw [← est20] at hP; have h := h st20 est20
  refine lv_iload C.1 C.2.1 dX7_scan_153 (lv_at hl 4 rfl) ?_
  refine lv_istore_n C.1 C.2.1 dX7_scan_155 rfl hl (Nat.le_of_ble_eq_true rfl) rfl (fun ls hl => ?_)
  have hl : lv_has ls 6 [(2, .int v5), (0, .ref (E.2.1 b)), (1, .ref (E.2.1 p1)), (3, va_re E.2.2.1 v3), (4, .int v4), (5, .int v5)] := hl
  obtain ⟨x21, ex21⟩ : ∃ z, z = v4 + 1 := ⟨_, rfl⟩
  have h := h x21 ex21
  refine lv_iinc C.1 C.2.1 dX7_scan_156 hl (k := 4) rfl ex21.symm (Nat.le_of_ble_eq_true rfl) rfl (fun ls hl => ?_)
  have hl : lv_has ls 6 [(4, .int x21), (2, .int v5), (0, .ref (E.2.1 b)), (1, .ref (E.2.1 p1)), (3, va_re E.2.2.1 v3), (5, .int v5)] := (by cases v3 <;> exact hl)
  refine lv_goto C.1 C.2.1 (tgt := 14) dX7_scan_159 (by decide) ?_
  exact hR14 v5 v3 x21 st20 _ _ _ h (lv_sub hl [2, 3, 1, 4, 0] rfl) hP hS
set_option maxHeartbeats 4000000 in
set_option maxRecDepth 100000 in
theorem tX7_scan_L119 {l : Launch} {p : Program} {e : Env} {s : State} {m : MethodId} {args : Array Value} {below : List Frame} {meth : Method} {c : Code} {E : En0} {L : List Nat} (hL : Cov 0 54 L) (C : Cx E L "PlankBridge$Tokens" cX7_scan 6 p s m args c) (hr : meth.sig.returnType = none) (hlk : meth.locks = false) {b : Nat} {p1 : Nat} {Q : St → Prop} (hb : kd b = 6) (hp1 : kd p1 = 5) {R14 : Int32 × (Option Nat) × Int32 × St → Prop} (hR14 : ∀ (v2 : Int32) (v3 : Option Nat) (v4 : Int32) (st : St), ∀ (H : Heap) (locs : List Loc) (ls : Array Slot), R14 (v2, v3, v4, st) → lv_has ls 6 [(0, .ref (E.2.1 b)), (1, .ref (E.2.1 p1)), (2, .int v2), (3, va_re E.2.2.1 v3), (4, .int v4)] → va_P E.1 vwCl (wd E L st) H → va_S (fA E L s.heap.size) s.heap H locs → W p l e rmX7_scan s m args below meth c H locs 0 0 (MQ below (zV E L Q (fA E L s.heap.size)) args s rmX7_scan.cells rmX7_scan.slots (fA E L s.heap.size)) (F0 m 14 ls [])) {v2 : Int32} {v3 : Option Nat} {v4 : Int32} {v5 : Int32} {s0 : Int32} {s1 : Int32}  {st : St} (H : Heap) (locs : List Loc) (ls : Array Slot) (h : wX7_scan_L119 b p1 R14 v2 v3 v4 v5 s0 s1 st Q) (hl : lv_has ls 6 [(0, .ref (E.2.1 b)), (1, .ref (E.2.1 p1)), (2, .int v2), (3, va_re E.2.2.1 v3), (4, .int v4), (5, .int v5)]) (hP : va_P E.1 vwCl (wd E L st) H) (hS : va_S (fA E L s.heap.size) s.heap H locs) : W p l e rmX7_scan s m args below meth c H locs 0 0 (MQ below (zV E L Q (fA E L s.heap.size)) args s rmX7_scan.cells rmX7_scan.slots (fA E L s.heap.size)) (F0 m 119 ls [.int s0, .int s1, .ref (E.2.1 ((b + 3)))]) := by
  unfold wX7_scan_L119 at h
  obtain ⟨hi, h⟩ := h
  refine z_iast C hP hS (k6_3 hb) (l6_3 hb) (m6_3 hb hL) hi dX7_scan_119 (fun H locs hP hS => ?_)
  obtain ⟨st15, est15⟩ : ∃ z, z = uI st (b + 3) (s1 : Int32).toNatClampNeg s0 := ⟨_, rfl⟩
  rw [← est15] at hP; have h := h st15 est15
  refine lv_aload_n C.1 C.2.1 dX7_scan_120 rfl (lv_at hl 0 rfl) ?_
  refine gf6_3 C hP hb (m6 hb hL) q174 dX7_scan_121 ?_
  refine lv_iload C.1 C.2.1 dX7_scan_124 (lv_at hl 4 rfl) ?_
  refine z_aloadE_n C.1 C.2.1 dX7_scan_126 rfl (lv_at hl 3 rfl) ?_
  refine z_kst C hS (i := 2) (by decide) rfl q451 dX7_scan_127 ?_
  obtain ⟨hk16, h⟩ := h
  refine z_acmp_ne C hk16 (kin_l (by decide)) (tgt := 143) dX7_scan_130 (by decide) (fun hc => ?_) (fun hc => ?_)
  · have h := h.1 hc
    refine lv_lconst C.1 C.2.1 (v := 0) dX7_scan_143 rfl ?_
    exact tX7_scan_L144 hL C hr hlk hb hp1 hR14 _ _ _ h (lv_sub hl [0, 1, 3, 4, 5] rfl) hP hS
  · have h := h.2 hc
    refine lv_aload_n C.1 C.2.1 dX7_scan_133 rfl (lv_at hl 1 rfl) ?_
    refine lv_iload_n C.1 C.2.1 dX7_scan_134 rfl (lv_at hl 2 rfl) ?_
    refine lv_iload C.1 C.2.1 dX7_scan_135 (lv_at hl 5 rfl) ?_
    refine z_kj hS (z_runS (As := [.ref (E.2.1 p1), .int v2, .int v5]) (rest := [.int v4, .ref (E.2.1 ((b + 4)))]) C hP hS (tX7_codeOf C.2.2.2.2.2.2.1 (hL.mo (Nat.le_of_ble_eq_true rfl) (Nat.le_of_ble_eq_true rfl)) hp1 h) q475 q476 q108 q477 hdX7_codeOf ⟨Nat.le_of_ble_eq_true rfl, Nat.le_of_ble_eq_true rfl⟩ ⟨Nat.zero_le _, Nat.zero_le _⟩ rfl hl.1 rfl (lv_room (Nat.le_of_ble_eq_true rfl)) dX7_scan_137) (fun r18 st17 H locs h hP hS => ?_)
    refine lv_goto C.1 C.2.1 (tgt := 144) dX7_scan_140 (by decide) ?_
    exact tX7_scan_L144 hL C hr hlk hb hp1 hR14 _ _ _ h (lv_sub hl [0, 1, 3, 4, 5] rfl) hP hS
set_option maxHeartbeats 4000000 in
set_option maxRecDepth 100000 in
theorem tX7_scan_L78 {l : Launch} {p : Program} {e : Env} {s : State} {m : MethodId} {args : Array Value} {below : List Frame} {meth : Method} {c : Code} {E : En0} {L : List Nat} (hL : Cov 0 54 L) (C : Cx E L "PlankBridge$Tokens" cX7_scan 6 p s m args c) (hr : meth.sig.returnType = none) (hlk : meth.locks = false) {b : Nat} {p1 : Nat} {Q : St → Prop} (hb : kd b = 6) (hp1 : kd p1 = 5) {R14 : Int32 × (Option Nat) × Int32 × St → Prop} (hR14 : ∀ (v2 : Int32) (v3 : Option Nat) (v4 : Int32) (st : St), ∀ (H : Heap) (locs : List Loc) (ls : Array Slot), R14 (v2, v3, v4, st) → lv_has ls 6 [(0, .ref (E.2.1 b)), (1, .ref (E.2.1 p1)), (2, .int v2), (3, va_re E.2.2.1 v3), (4, .int v4)] → va_P E.1 vwCl (wd E L st) H → va_S (fA E L s.heap.size) s.heap H locs → W p l e rmX7_scan s m args below meth c H locs 0 0 (MQ below (zV E L Q (fA E L s.heap.size)) args s rmX7_scan.cells rmX7_scan.slots (fA E L s.heap.size)) (F0 m 14 ls [])) {v2 : Int32} {v4 : Int32} {v5 : Int32} {s0 : Option Nat}  {st : St} (H : Heap) (locs : List Loc) (ls : Array Slot) (h : wX7_scan_L78 b p1 R14 v2 v4 v5 s0 st Q) (hl : lv_has ls 6 [(0, .ref (E.2.1 b)), (1, .ref (E.2.1 p1)), (2, .int v2), (4, .int v4), (5, .int v5)]) (hP : va_P E.1 vwCl (wd E L st) H) (hS : va_S (fA E L s.heap.size) s.heap H locs) : W p l e rmX7_scan s m args below meth c H locs 0 0 (MQ below (zV E L Q (fA E L s.heap.size)) args s rmX7_scan.cells rmX7_scan.slots (fA E L s.heap.size)) (F0 m 78 ls [va_re E.2.2.1 s0]) := by
  unfold wX7_scan_L78 at h
  refine z_astoreE_n C.1 C.2.1 dX7_scan_78 rfl hl (Nat.le_of_ble_eq_true rfl) rfl (fun ls hl => ?_)
  have hl : lv_has ls 6 [(3, va_re E.2.2.1 s0), (0, .ref (E.2.1 b)), (1, .ref (E.2.1 p1)), (2, .int v2), (4, .int v4), (5, .int v5)] := hl
  refine lv_aload_n C.1 C.2.1 dX7_scan_79 rfl (lv_at hl 1 rfl) ?_
  refine gf6_0 C hP hb (m6 hb hL) q171 dX7_scan_80 ?_
  refine lv_iload C.1 C.2.1 dX7_scan_83 (lv_at hl 4 rfl) ?_
  refine z_aloadE_n C.1 C.2.1 dX7_scan_85 rfl (lv_at hl 0 rfl) ?_
  obtain ⟨hi, h⟩ := h
  obtain ⟨hz, h⟩ := h
  refine z_kast C hP hS (k6_1 hb) (l6_1 hb) (m6_1 hb hL) hi hz dX7_scan_86 (fun H locs hP hS => ?_)
  obtain ⟨st10, est10⟩ : ∃ z, z = uK st (b + 1) (v4 : Int32).toNatClampNeg s0 := ⟨_, rfl⟩
  rw [← est10] at hP; have h := h st10 est10
  refine lv_aload_n C.1 C.2.1 dX7_scan_87 rfl (lv_at hl 1 rfl) ?_
  refine gf6_1 C hP hb (m6 hb hL) q172 dX7_scan_88 ?_
  refine lv_iload C.1 C.2.1 dX7_scan_91 (lv_at hl 4 rfl) ?_
  refine lv_iload_n C.1 C.2.1 dX7_scan_93 rfl (lv_at hl 3 rfl) ?_
  obtain ⟨hi, h⟩ := h
  refine z_iast C hP hS (k6_2 hb) (l6_2 hb) (m6_2 hb hL) hi dX7_scan_94 (fun H locs hP hS => ?_)
  obtain ⟨st11, est11⟩ : ∃ z, z = uI st10 (b + 2) (v4 : Int32).toNatClampNeg v2 := ⟨_, rfl⟩
  rw [← est11] at hP; have h := h st11 est11
  refine lv_aload_n C.1 C.2.1 dX7_scan_95 rfl (lv_at hl 1 rfl) ?_
  refine gf6_2 C hP hb (m6 hb hL) q173 dX7_scan_96 ?_
  refine lv_iload C.1 C.2.1 dX7_scan_99 (lv_at hl 4 rfl) ?_
  refine z_aloadE_n C.1 C.2.1 dX7_scan_101 rfl (lv_at hl 0 rfl) ?_
  refine z_kst C hS (i := 3) (by decide) rfl q487 dX7_scan_102 ?_
  obtain ⟨hk12, h⟩ := h
  refine z_acmp_ne C hk12 (kin_l (by decide)) (tgt := 118) dX7_scan_105 (by decide) (fun hc => ?_) (fun hc => ?_)
  · have h := h.1 hc
    refine lv_iconst C.1 C.2.1 (v := 0) dX7_scan_118 rfl ?_
    exact tX7_scan_L119 hL C hr hlk hb hp1 hR14 _ _ _ h (lv_sub hl [1, 2, 3, 0, 4, 5] rfl) hP hS
  · have h := h.2 hc
    refine lv_aload_n C.1 C.2.1 dX7_scan_108 rfl (lv_at hl 2 rfl) ?_
    refine lv_iload_n C.1 C.2.1 dX7_scan_109 rfl (lv_at hl 3 rfl) ?_
    refine lv_iload C.1 C.2.1 dX7_scan_110 (lv_at hl 5 rfl) ?_
    refine z_ki hS (z_runS (As := [.ref (E.2.1 p1), .int v2, .int v5]) (rest := [.int v4, .ref (E.2.1 ((b + 3)))]) C hP hS (tX7_valueOf C.2.2.2.2.2.2.1 (hL.mo (Nat.le_of_ble_eq_true rfl) (Nat.le_of_ble_eq_true rfl)) hp1 h) q489 q490 q108 q491 hdX7_valueOf ⟨Nat.le_of_ble_eq_true rfl, Nat.le_of_ble_eq_true rfl⟩ ⟨Nat.zero_le _, Nat.zero_le _⟩ rfl hl.1 rfl (lv_room (Nat.le_of_ble_eq_true rfl)) dX7_scan_112) (fun r14 st13 H locs h hP hS => ?_)
    refine lv_goto C.1 C.2.1 (tgt := 119) dX7_scan_115 (by decide) ?_
    exact tX7_scan_L119 hL C hr hlk hb hp1 hR14 _ _ _ h (lv_sub hl [1, 2, 3, 0, 4, 5] rfl) hP hS
set_option maxHeartbeats 4000000 in
set_option maxRecDepth 100000 in
theorem tX7_scan_L65 {l : Launch} {p : Program} {e : Env} {s : State} {m : MethodId} {args : Array Value} {below : List Frame} {meth : Method} {c : Code} {E : En0} {L : List Nat} (hL : Cov 0 54 L) (C : Cx E L "PlankBridge$Tokens" cX7_scan 6 p s m args c) (hr : meth.sig.returnType = none) (hlk : meth.locks = false) {b : Nat} {p1 : Nat} {Q : St → Prop} (hb : kd b = 6) (hp1 : kd p1 = 5) {R14 : Int32 × (Option Nat) × Int32 × St → Prop} (hR14 : ∀ (v2 : Int32) (v3 : Option Nat) (v4 : Int32) (st : St), ∀ (H : Heap) (locs : List Loc) (ls : Array Slot), R14 (v2, v3, v4, st) → lv_has ls 6 [(0, .ref (E.2.1 b)), (1, .ref (E.2.1 p1)), (2, .int v2), (3, va_re E.2.2.1 v3), (4, .int v4)] → va_P E.1 vwCl (wd E L st) H → va_S (fA E L s.heap.size) s.heap H locs → W p l e rmX7_scan s m args below meth c H locs 0 0 (MQ below (zV E L Q (fA E L s.heap.size)) args s rmX7_scan.cells rmX7_scan.slots (fA E L s.heap.size)) (F0 m 14 ls [])) {v2 : Int32} {v4 : Int32} {v5 : Int32}  {st : St} (H : Heap) (locs : List Loc) (ls : Array Slot) (h : wX7_scan_L65 b p1 R14 v2 v4 v5 st Q) (hl : lv_has ls 6 [(0, .ref (E.2.1 b)), (1, .ref (E.2.1 p1)), (2, .int v2), (4, .int v4), (5, .int v5)]) (hP : va_P E.1 vwCl (wd E L st) H) (hS : va_S (fA E L s.heap.size) s.heap H locs) : W p l e rmX7_scan s m args below meth c H locs 0 0 (MQ below (zV E L Q (fA E L s.heap.size)) args s rmX7_scan.cells rmX7_scan.slots (fA E L s.heap.size)) (F0 m 65 ls []) := by
  unfold wX7_scan_L65 at h
  refine lv_aload_n C.1 C.2.1 dX7_scan_65 rfl (lv_at hl 1 rfl) ?_
  refine lv_iload_n C.1 C.2.1 dX7_scan_66 rfl (lv_at hl 2 rfl) ?_
  refine lv_iload C.1 C.2.1 dX7_scan_67 (lv_at hl 4 rfl) ?_
  refine z_ke hS (z_runS (As := [.ref (E.2.1 p1), .int v2, .int v5]) (rest := []) C hP hS (tX7_kindOf C.2.2.2.2.2.2.1 (hL.mo (Nat.le_of_ble_eq_true rfl) (Nat.le_of_ble_eq_true rfl)) hp1 h) q472 q473 q108 q474 hdX7_kindOf ⟨Nat.le_of_ble_eq_true rfl, Nat.le_of_ble_eq_true rfl⟩ ⟨Nat.zero_le _, Nat.zero_le _⟩ rfl hl.1 rfl (lv_room (Nat.le_of_ble_eq_true rfl)) dX7_scan_69) (fun r9 st8 H locs h hP hS => ?_)
  obtain ⟨hr9, h⟩ := h
  refine lv_goto C.1 C.2.1 (tgt := 78) dX7_scan_72 (by decide) ?_
  exact tX7_scan_L78 hL C hr hlk hb hp1 hR14 _ _ _ h hl hP hS
set_option maxHeartbeats 4000000 in
set_option maxRecDepth 100000 in
theorem tX7_scan_L14 {l : Launch} {p : Program} {e : Env} {s : State} {m : MethodId} {args : Array Value} {below : List Frame} {meth : Method} {c : Code} {E : En0} {L : List Nat} (hL : Cov 0 54 L) (C : Cx E L "PlankBridge$Tokens" cX7_scan 6 p s m args c) (hr : meth.sig.returnType = none) (hlk : meth.locks = false) {b : Nat} {p1 : Nat} {Q : St → Prop} (hb : kd b = 6) (hp1 : kd p1 = 5) : ∀ (n : Nat) (v2 : Int32) (v3 : Option Nat) (v4 : Int32) (st : St) (H : Heap) (locs : List Loc) (ls : Array Slot), lp (fun R s => wX7_scan_L14 b p1 R s.1 s.2.1 s.2.2.1 s.2.2.2 Q) n (v2, v3, v4, st) → lv_has ls 6 [(0, .ref (E.2.1 b)), (1, .ref (E.2.1 p1)), (2, .int v2), (3, va_re E.2.2.1 v3), (4, .int v4)] → va_P E.1 vwCl (wd E L st) H → va_S (fA E L s.heap.size) s.heap H locs → W p l e rmX7_scan s m args below meth c H locs 0 0 (MQ below (zV E L Q (fA E L s.heap.size)) args s rmX7_scan.cells rmX7_scan.slots (fA E L s.heap.size)) (F0 m 14 ls []) := by
  intro n
  induction n with
  | zero => exact fun _ _ _ _ _ _ _ h _ _ _ => False.elim ‹_›
  | succ n ih =>
    intro v2 v3 v4 st  H locs ls h hl hP hS
    have hR14 := ih
    replace h : wX7_scan_L14 b p1 (lp (fun R s => wX7_scan_L14 b p1 R s.1 s.2.1 s.2.2.1 s.2.2.2 Q) n) v2 v3 v4 st Q := h
    unfold wX7_scan_L14 at h
    refine lv_iload C.1 C.2.1 dX7_scan_14 (lv_at hl 4 rfl) ?_
    refine lv_sipush C.1 C.2.1 (v := 400) dX7_scan_16 rfl ?_
    refine lv_icmp_gt C.1 C.2.1 (tgt := 162) dX7_scan_19 (by decide) (fun hc => ?_) (fun hc => ?_)
    · have h := h.1 hc
      exact z_rv C hr hlk hP hS h dX7_scan_162
    · have h := h.2 hc
      refine z_aloadE_n C.1 C.2.1 dX7_scan_22 rfl (lv_at hl 3 rfl) ?_
      refine z_kst C hS (i := 0) (by decide) rfl q453 dX7_scan_23 ?_
      obtain ⟨hk2, h⟩ := h
      refine z_acmp_eq C hk2 (kin_l (by decide)) (tgt := 162) dX7_scan_26 (by decide) (fun hc => ?_) (fun hc => ?_)
      · have h := h.1 hc
        exact z_rv C hr hlk hP hS h dX7_scan_162
      · have h := h.2 hc
        refine z_aloadE_n C.1 C.2.1 dX7_scan_29 rfl (lv_at hl 3 rfl) ?_
        refine z_kst C hS (i := 1) (by decide) rfl q455 dX7_scan_30 ?_
        obtain ⟨hk3, h⟩ := h
        refine z_acmp_eq C hk3 (kin_l (by decide)) (tgt := 162) dX7_scan_33 (by decide) (fun hc => ?_) (fun hc => ?_)
        · have h := h.1 hc
          exact z_rv C hr hlk hP hS h dX7_scan_162
        · have h := h.2 hc
          refine lv_aload_n C.1 C.2.1 dX7_scan_36 rfl (lv_at hl 1 rfl) ?_
          refine lv_iload_n C.1 C.2.1 dX7_scan_37 rfl (lv_at hl 2 rfl) ?_
          refine z_ki hS (z_runS (As := [.ref (E.2.1 p1), .int v2]) (rest := []) C hP hS (tX7_skipBlanks C.2.2.2.2.2.2.1 (hL.mo (Nat.le_of_ble_eq_true rfl) (Nat.le_of_ble_eq_true rfl)) hp1 h) q456 q457 q108 q458 hdX7_skipBlanks ⟨Nat.le_of_ble_eq_true rfl, Nat.le_of_ble_eq_true rfl⟩ ⟨Nat.zero_le _, Nat.zero_le _⟩ rfl hl.1 rfl (lv_room (Nat.le_of_ble_eq_true rfl)) dX7_scan_38) (fun r5 st4 H locs h hP hS => ?_)
          refine lv_istore_n C.1 C.2.1 dX7_scan_41 rfl hl (Nat.le_of_ble_eq_true rfl) rfl (fun ls hl => ?_)
          have hl : lv_has ls 6 [(2, .int r5), (0, .ref (E.2.1 b)), (1, .ref (E.2.1 p1)), (3, va_re E.2.2.1 v3), (4, .int v4)] := hl
          refine lv_aload_n C.1 C.2.1 dX7_scan_42 rfl (lv_at hl 2 rfl) ?_
          refine lv_iload_n C.1 C.2.1 dX7_scan_43 rfl (lv_at hl 0 rfl) ?_
          refine z_ki hS (z_runS (As := [.ref (E.2.1 p1), .int r5]) (rest := []) C hP hS (tX7_findEnd C.2.2.2.2.2.2.1 (hL.mo (Nat.le_of_ble_eq_true rfl) (Nat.le_of_ble_eq_true rfl)) hp1 h) q463 q464 q108 q465 hdX7_findEnd ⟨Nat.le_of_ble_eq_true rfl, Nat.le_of_ble_eq_true rfl⟩ ⟨Nat.zero_le _, Nat.zero_le _⟩ rfl hl.1 rfl (lv_room (Nat.le_of_ble_eq_true rfl)) dX7_scan_44) (fun r7 st6 H locs h hP hS => ?_)
          refine lv_istore C.1 C.2.1 dX7_scan_47 hl (Nat.le_of_ble_eq_true rfl) rfl (fun ls hl => ?_)
          have hl : lv_has ls 6 [(5, .int r7), (2, .int r5), (0, .ref (E.2.1 b)), (1, .ref (E.2.1 p1)), (3, va_re E.2.2.1 v3), (4, .int v4)] := hl
          refine lv_iload C.1 C.2.1 dX7_scan_49 (lv_at hl 5 rfl) ?_
          refine lv_sipush C.1 C.2.1 (v := 400) dX7_scan_51 rfl ?_
          refine lv_icmp_lt C.1 C.2.1 (tgt := 65) dX7_scan_54 (by decide) (fun hc => ?_) (fun hc => ?_)
          · have h := h.1 hc
            exact tX7_scan_L65 hL C hr hlk hb hp1 hR14 _ _ _ h (lv_sub hl [2, 3, 1, 5, 0] rfl) hP hS
          · have h := h.2 hc
            refine lv_iload_n C.1 C.2.1 dX7_scan_57 rfl (lv_at hl 1 rfl) ?_
            refine lv_aload_n C.1 C.2.1 dX7_scan_58 rfl (lv_at hl 3 rfl) ?_
            refine gn5_1 C hP hp1 (m5 hp1 hL) q149 dX7_scan_59 ?_
            refine lv_icmp_lt C.1 C.2.1 (tgt := 75) dX7_scan_62 (by decide) (fun hc => ?_) (fun hc => ?_)
            · have h := h.1 hc
              refine z_kst C hS (i := 1) (by decide) rfl q455 dX7_scan_75 ?_
              exact tX7_scan_L78 hL C hr hlk hb hp1 hR14 _ _ _ h (lv_sub hl [2, 3, 1, 5, 0] rfl) hP hS
            · have h := h.2 hc
              exact tX7_scan_L65 hL C hr hlk hb hp1 hR14 _ _ _ h (lv_sub hl [2, 3, 1, 5, 0] rfl) hP hS
set_option maxHeartbeats 4000000 in
set_option maxRecDepth 100000 in
theorem tX7_scan {l : Launch} {E : En0} {L : List Nat} (hE : EK E L) (hL : Cov 0 54 L) {b : Nat} {p1 : Nat} {st : St} {Q : St → Prop} (hb : kd b = 6) (hp1 : kd p1 = 5) (h : wX7_scan b p1 st Q) : Mz l yX7_scan cX7_scan 6 none rmX7_scan E L [.ref (E.2.1 b), .ref (E.2.1 p1)] st (zV E L Q) := by
  refine Mz.of hE (by decide) (Nat.le_of_ble_eq_true rfl) ?_
  intro p e s m below meth c ls C hr hlk _ hl hP
  replace C : Cx E L "PlankBridge$Tokens" cX7_scan 6 p s m _ c := C
  have hS : va_S (fA E L s.heap.size) s.heap s.heap [] := va_S.rf
  replace hl : lv_has ls 6 [(0, .ref (E.2.1 b)), (1, .ref (E.2.1 p1))] := hl
  unfold wX7_scan at h
  refine lv_aload_n C.1 C.2.1 dX7_scan_0 rfl (lv_at hl 0 rfl) ?_
  refine lv_iconst C.1 C.2.1 (v := 0) dX7_scan_1 rfl ?_
  refine pf6_4 C hP hS hb (m6 hb hL) q175 dX7_scan_2 (fun H locs hP hS => ?_)
  obtain ⟨st1, est1⟩ : ∃ z, z = uI st b 4 0 := ⟨_, rfl⟩
  rw [← est1] at hP; have h := h st1 est1
  refine lv_iconst C.1 C.2.1 (v := 0) dX7_scan_5 rfl ?_
  refine lv_istore_n C.1 C.2.1 dX7_scan_6 rfl hl (Nat.le_of_ble_eq_true rfl) rfl (fun ls hl => ?_)
  have hl : lv_has ls 6 [(2, .int 0), (0, .ref (E.2.1 b)), (1, .ref (E.2.1 p1))] := hl
  refine z_kst C hS (i := 2) (by decide) rfl q451 dX7_scan_7 ?_
  refine z_astoreE_n C.1 C.2.1 dX7_scan_10 rfl hl (Nat.le_of_ble_eq_true rfl) rfl (fun ls hl => ?_)
  have hl : lv_has ls 6 [(3, va_re E.2.2.1 (some 2)), (2, .int 0), (0, .ref (E.2.1 b)), (1, .ref (E.2.1 p1))] := hl
  refine lv_iconst C.1 C.2.1 (v := 0) dX7_scan_11 rfl ?_
  refine lv_istore C.1 C.2.1 dX7_scan_12 hl (Nat.le_of_ble_eq_true rfl) rfl (fun ls hl => ?_)
  have hl : lv_has ls 6 [(4, .int 0), (3, va_re E.2.2.1 (some 2)), (2, .int 0), (0, .ref (E.2.1 b)), (1, .ref (E.2.1 p1))] := hl
  obtain ⟨n, h⟩ := h
  exact tX7_scan_L14 hL C hr hlk hb hp1 n 0 (some 2) 0 st1 _ _ _ h (lv_sub hl [3, 4, 2, 1, 0] rfl) hP hS
